/-! THE CLAIM OUT OF ONE WALK OF THE LAW'S BODY. Your part is whole_start (and what it stands on); all else here is the same for every law, but numbers. -/
def R_law : String := "CrushLoadLaw"
def lw_P (b : Addr) (xs : List Int32) (args : Array Value) (s : State) : Prop := args = #[.ref b] ∧ s.IntsAt b xs ∧ xs.length ≤ 3072 ∧ (Jvm.Cond.and given_1 narrow_1).before args s = true
def lw_Q (_ : Array Value) (s : State) (o : Outcome) (t : State) : Prop := o = .returned (some (.int 1)) ∧ Framed s o t [] 601024 7293034
def lw_Z (below : List Frame) (a : Array Value) (s : State) : State → Prop := fun t => ∃ o, t.status = .running ∧ Ended t below o ∧ lw_Q a s o t
/-- the law's own end, with 1 on the stack, nothing written that was there before, its room as the claim has it -/
theorem lw_ret {p : Program} {l : Launch} {e : Env} {s : State} {m : MethodId} {below : List Frame} {meth : Method} {c : Code} {b : Nat} (hx : p.tables.exec = Jvm.exec) (hb : c.code = code) (hr : meth.sig.returnType = ret) (hlocks : meth.locks = false) {pc : Nat} {H : Heap} {ls : Array Slot} (hdg : decode code pc = .ok (.ireturn, 1)) : W p l e room_1 s m #[Value.ref b] below meth c H [] 601024 7293034 (lw_Z below #[Value.ref b] s) (F0 m pc ls [.int 1]) := by
  intro T hT X
  obtain ⟨fs, hret, hrun, hended, hW, hframe⟩ := X.leave (v := some (.int 1)) (hlocks := hlocks) (fun h => by rw [hr] at h; cases h)
  have hmeth' : T.vm.method? m = some meth := X.method'
  refine ⟨T.setFrames fs, ?_, .returned (some (.int 1)), hrun, hended, rfl, ⟨_, rfl⟩, hW, hframe⟩
  jvm_step X.here [X.here.top, hx, hb, hdg, hmeth', hr, ret, narrow_b1]
  (try refine ⟨rfl, ?_⟩); (try refine ⟨rfl, ?_⟩)
  first | (intro acts; rw [hret _ acts rfl rfl rfl]) | rw [hret _ _ rfl rfl rfl]
  exact Steps.refl _
/-- what holds at the law's entry: the machine, the code, the tables' words (any of lw_tbl by 'hts w (by decide +kernel)'), the script of L ints xs at the cell b, what the Statement gives of the start (any of its parts by flat_of_before) -/
def lw_At (p : Program) (s : State) (m : MethodId) (meth : Method) (c : Code) (b L : Nat) (xs : Nat → Int32) : Prop :=
  p.tables.exec = Jvm.exec ∧ c.code = code ∧ meth.sig.returnType = ret ∧ c.maxLocals = 7 ∧ s.vm.findClass R_law = some m.cls ∧ (∀ w ∈ lw_tbl, w.before #[Value.ref b] s = true) ∧ va_X b L xs s s.heap ∧ b < s.heap.size ∧ meth.locks = false ∧ (Jvm.Cond.and given_1 narrow_1).before #[Value.ref b] s = true
section LLA
variable {p : Program} {l : Launch} {e : Env} {s : State} {m : MethodId} {below : List Frame} {meth : Method} {c : Code} {b L : Nat} {xs : Nat → Int32} {D : va_G} {cA : Nat → ClassId} {cL : ClassId} {ad1 ad2 : Nat → Nat} {ao : Nat} {M1 M2 : mj_M} {o : Int64} {pc cn sn i : Nat} {st : List Value} {tl : List (Nat × Value)}
/-- what stands through the law's walk -/
def ll_C (p : Program) (l : Launch) (s : State) (m : MethodId) (meth : Method) (c : Code) (b L : Nat) (xs : Nat → Int32) (D : va_G) (cA : Nat → ClassId) (cL : ClassId) (ad1 ad2 : Nat → Nat) (ao : Nat) : Prop :=
  (p.tables.exec = Jvm.exec ∧ l.stackTraces = false ∧ c.code = code ∧ c.maxLocals = 7 ∧ meth.sig.returnType = ret ∧ meth.locks = false ∧ s.vm.findClass RL = some m.cls ∧ (∀ w ∈ mj_G, w.before #[Value.ref b] s = true) ∧ va_X b L xs s s.heap ∧ b < s.heap.size ∧ L ≤ 3072) ∧
  (va_K D mj_cl (lh_tys cA cL) s ∧ mj_X 2 (fun q => s.heap.size ≤ q) s s.heap ∧ lh_N s) ∧
  (lh_i ad1 ao ∧ mj_inj ad2 6 ∧ (∀ i j, i < 81 → j < 6 → ad1 i ≠ ad2 j) ∧ (∀ j, j < 6 → ad2 j ≠ ao) ∧ (∀ i, i < 81 → s.heap.size ≤ ad1 i) ∧ (∀ j, j < 6 → s.heap.size ≤ ad2 j) ∧ s.heap.size ≤ ao)
def ll_lv (b : Nat) (ad1 ad2 : Nat → Nat) (ao i : Nat) (tl : List (Nat × Value)) : List (Nat × Value) := (0, .ref b) :: (1, .ref (ad1 0)) :: (2, .ref (ad2 0)) :: (3, .ref ao) :: (4, .int (nI i)) :: tl
/-- the law at pc, with its three things in the heap -/
def ll_W (p : Program) (l : Launch) (e : Env) (s : State) (m : MethodId) (below : List Frame) (meth : Method) (c : Code) (b : Nat) (D : va_G) (cA : Nat → ClassId) (cL : ClassId) (ad1 ad2 : Nat → Nat) (ao : Nat) (pc i : Nat) (tl : List (Nat × Value)) (st : List Value) (M1 M2 : mj_M) (o : Int64) (cn sn : Nat) : Prop :=
  ∀ (H : Heap) (locs : List Loc) (lsA : Array Slot) (f : Nat → Int64), f 0 = o → lv_has lsA 7 (ll_lv b ad1 ad2 ao i tl) → va_P D mj_cl (lh_ws cA ad1 M1 ao cL f) H → va_P D mj_cl (mj_w cA ad2 M2 (mj_Sh 1)) H → va_S (fun q : Nat => s.heap.size ≤ q) s.heap H locs → W p l e room_1 s m #[Value.ref b] below meth c H locs cn sn (lw_Z below #[Value.ref b] s) (F0 m pc lsA st)
def ll_dA (pc k : Nat) : Bool := decide (decode code pc = .ok (.aload_n 0, 1)) && decide (decode code (pc + 1) = .ok (.iload 4, 2)) && decide (decode code (pc + 3) = .ok (.iconst (k : Int), 1)) && decide (decode code (pc + 4) = .ok (.iadd, 1)) && decide (decode code (pc + 5) = .ok (.iaload, 1))
def ll_dB (pc : Nat) : Bool := decide (decode code pc = .ok (.ifCond .eq 7, 3)) && decide (decode code (pc + 3) = .ok (.iconst 1, 1)) && decide (decode code (pc + 4) = .ok (.goto 4, 3)) && decide (decode code (pc + 7) = .ok (.iconst 0, 1))
theorem ll_ic : ∀ k : Nat, k < 6 → Int32.ofInt (k : Int) = nI k := by decide +kernel
theorem ll_A (b L : Nat) {k : Nat} (C : ll_C p l s m meth c b L xs D cA cL ad1 ad2 ao) (hd : ll_dA pc k = true) (hk : k < 6) (hi : i + k < L) (h : ll_W p l e s m below meth c b D cA cL ad1 ad2 ao (pc + 6) i tl (.int (xs (i + k)) :: st) M1 M2 o cn sn) : ll_W p l e s m below meth c b D cA cL ad1 ad2 ao pc i tl st M1 M2 o cn sn := by
  intro H locs lsA f hf hl hP1 hP2 hS
  obtain ⟨⟨hx, hlt, hb, hml, hr, hlk, hown, hts, hX, hbl, hL⟩, -, -⟩ := id C
  simp only [ll_dA, Bool.and_eq_true, decide_eq_true_eq] at hd
  obtain ⟨⟨⟨⟨d0, d1⟩, d2⟩, d3⟩, d4⟩ := hd
  have hbA : ¬ (fun q : Nat => s.heap.size ≤ q) b := Nat.not_le.mpr hbl
  have hk2 : Int32.ofInt (k : Int) = nI k := ll_ic k hk
  have hs : nI i + nI k = nI (i + k) := nI_add i k
  refine lv_aload_n hx hb d0 rfl (lv_at hl 0 rfl) ?_
  refine lv_iload hx hb d1 (lv_at hl 4 rfl) ?_
  refine lv_iconst (v := nI k) hx hb d2 hk2 ?_
  refine lv_iadd hx hb d3 ?_
  rw [hs]
  refine va_sld hx hb hX hbl hbA hS (vp_in_nI hi (by omega)) d4 ?_
  rw [nI_clamp (by omega)]
  exact h H locs lsA f hf hl hP1 hP2 hS
theorem ll_B (b L : Nat) {x : Int32} (C : ll_C p l s m meth c b L xs D cA cL ad1 ad2 ao) (hd : ll_dB pc = true) (h : ll_W p l e s m below meth c b D cA cL ad1 ad2 ao (pc + 8) i tl (.int (md_b x) :: st) M1 M2 o cn sn) : ll_W p l e s m below meth c b D cA cL ad1 ad2 ao pc i tl (.int x :: st) M1 M2 o cn sn := by
  intro H locs lsA f hf hl hP1 hP2 hS
  obtain ⟨⟨hx, hlt, hb, hml, hr, hlk, hown, hts, hX, hbl, hL⟩, -, -⟩ := id C
  simp only [ll_dB, Bool.and_eq_true, decide_eq_true_eq] at hd
  obtain ⟨⟨⟨d0, d1⟩, d2⟩, d3⟩ := hd
  refine lv_if_eq (tgt := pc + 7) hx hb d0 (by omega) (fun hc => ?_) (fun hc => ?_)
  · refine lv_iconst (v := 0) hx hb d3 (by decide) ?_
    have e1 : md_b x = 0 := by unfold md_b; rw [if_pos hc]
    rw [e1] at h
    exact h H locs lsA f hf hl hP1 hP2 hS
  · refine lv_iconst (v := 1) hx hb d1 (by decide) ?_
    refine lv_goto (tgt := pc + 8) hx hb d2 (by omega) ?_
    have e1 : md_b x = 1 := by unfold md_b; rw [if_neg hc]
    rw [e1] at h
    exact h H locs lsA f hf hl hP1 hP2 hS
-- arguments out of the script: ints (false), booleans (true)
def ll_dL : Nat → Nat → List Bool → Bool
  | _, _, [] => true
  | pc, k, false :: r => ll_dA pc k && ll_dL (pc + 6) (k + 1) r
  | pc, k, true :: r => ll_dA pc k && (ll_dB (pc + 6) && ll_dL (pc + 14) (k + 1) r)
def ll_pc : Nat → List Bool → Nat
  | pc, [] => pc
  | pc, false :: r => ll_pc (pc + 6) r
  | pc, true :: r => ll_pc (pc + 14) r
def ll_vs (xs : Nat → Int32) (i : Nat) : Nat → List Bool → List Value
  | _, [] => []
  | k, false :: r => .int (xs (i + k)) :: ll_vs xs i (k + 1) r
  | k, true :: r => .int (md_b (xs (i + k))) :: ll_vs xs i (k + 1) r
theorem ll_vs_tr (xs : Nat → Int32) (i : Nat) (ad : Nat → Nat) : ∀ (ks : List Bool) (k : Nat), (ll_vs xs i k ks).map (mj_tr ad) = ll_vs xs i k ks
  | [], _ => rfl
  | false :: r, k => by simp only [ll_vs, List.map_cons, mj_tr]; rw [ll_vs_tr xs i ad r (k + 1)]
  | true :: r, k => by simp only [ll_vs, List.map_cons, mj_tr]; rw [ll_vs_tr xs i ad r (k + 1)]
theorem ll_vs_len (xs : Nat → Int32) (i : Nat) : ∀ (ks : List Bool) (k : Nat), (ll_vs xs i k ks).length = ks.length
  | [], _ => rfl
  | false :: r, k => by simp only [ll_vs, List.length_cons]; rw [ll_vs_len xs i r (k + 1)]
  | true :: r, k => by simp only [ll_vs, List.length_cons]; rw [ll_vs_len xs i r (k + 1)]
theorem ll_L (b L : Nat) (C : ll_C p l s m meth c b L xs D cA cL ad1 ad2 ao) (ks : List Bool) : ∀ (pc k : Nat) (st : List Value), ll_dL pc k ks = true → k + ks.length ≤ 6 → i + k + ks.length ≤ L → ll_W p l e s m below meth c b D cA cL ad1 ad2 ao (ll_pc pc ks) i tl ((ll_vs xs i k ks).reverse ++ st) M1 M2 o cn sn → ll_W p l e s m below meth c b D cA cL ad1 ad2 ao pc i tl st M1 M2 o cn sn := by
  induction ks with
  | nil => intro pc k st _ _ _ h; exact h
  | cons q r ih =>
    intro pc k st hd hk hi h
    rw [List.length_cons] at hk hi
    cases q with
    | false =>
      unfold ll_dL at hd
      rw [Bool.and_eq_true] at hd
      refine ll_A b L C hd.1 (by omega) (by omega) (ih (pc + 6) (k + 1) _ hd.2 (by omega) (by omega) ?_)
      unfold ll_vs ll_pc at h
      rw [List.reverse_cons, List.append_assoc, List.singleton_append] at h
      exact h
    | true =>
      unfold ll_dL at hd
      rw [Bool.and_eq_true, Bool.and_eq_true] at hd
      refine ll_A b L C hd.1 (by omega) (by omega) (ll_B b L C hd.2.1 (ih (pc + 14) (k + 1) _ hd.2.2 (by omega) (by omega) ?_))
      unfold ll_vs ll_pc at h
      rw [List.reverse_cons, List.append_assoc, List.singleton_append] at h
      exact h
end LLA
