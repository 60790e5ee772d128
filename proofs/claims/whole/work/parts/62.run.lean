-- a call out of the law or one of its helpers
theorem mj_len2 : (mj_Sh 2).length = 81 := by decide +kernel
theorem mj_len1 : (mj_Sh 1).length = 6 := by decide +kernel
set_option maxHeartbeats 4000000 in
theorem lh_run {p : Program} {l : Launch} {e : Env} {R : Room} {s : State} {m : MethodId} {args : Array Value} {below : List Frame} {meth : Method} {c : Code} {H : Heap} {locs : List Loc} {cn sn c1 s1 : Nat} {Q : State → Prop} {D : va_G} {cA : Nat → ClassId} {ad : Nat → Nat} {lv k d idx pc nl : Nat} {cc : ByteArray} {lsA : Array Slot} {as rest st : List Value} {M : mj_M} {Kc : mj_K} {A0 : Nat → Prop} {own : String} {fs : List (Option Nat)}
    (hx : p.tables.exec = Jvm.exec) (hb : c.code = cc) (hml : c.maxLocals = nl) (hlsz : lsA.size = nl) (hts : ∀ w ∈ mj_G, w.before args s = true) (hown : s.vm.findClass own = some m.cls) (hlt : l.stackTraces = false) (hi : mj_inj ad (mj_Sh lv).length) (hK : va_K D mj_cl (mj_tys cA) s) (hX : mj_X lv A0 s s.heap) (hP : va_P D mj_cl (mj_w cA ad M (mj_Sh lv)) H) (hS : va_S A0 s.heap H locs) (hA : ∀ q, mj_A ad (mj_Sh lv).length H.size q → A0 q)
    (hlink : Cond.methodLink own idx (mj_y k) ∈ mj_G) (hk : k < mj_N) (hV : k ∈ mj_kV) (hlv : mj_lv k = lv) (hr : mj_r k ≠ none) (hsh : (mj_Sh lv)[0]? = some (.inl (mj_oc k, fs))) (hn : as.length = mj_ar k) (hst : st = (as.map (mj_tr ad)).reverse ++ .ref (ad 0) :: rest) (hrest : (rest.map fun v => v.category).sum ≤ 8)
    (hfr : 2 * d + 20 + 1 ≤ R.frames) (hlo : 8 + (mj_n k + 11) + (40 * d + 300) ≤ R.locals) (hce : cn + mj_mc k ≤ R.cells) (hsl : sn + 6 * mj_mc k ≤ R.slots) (hc1 : cn + mj_mc k = c1) (hs1 : sn + 6 * mj_mc k = s1) (hd : decode cc pc = .ok (.invokevirtual idx, 3))
    (h : mj_Cm k d (.ref 0 :: as) M Kc)
    (kk : ∀ (v : Int32) (M' : mj_M) (H1 : Heap) (locs1 : List Loc), Kc 0 v M' → va_P D mj_cl (mj_w cA ad M' (mj_Sh lv)) H1 → H.size ≤ H1.size → (∀ q : Nat, q < H.size → ¬ mj_A ad (mj_Sh lv).length H.size q → H1[q]? = H[q]?) → va_S A0 s.heap H1 locs1 → W p l e R s m args below meth c H1 locs1 c1 s1 Q (F0 m (pc + 3) lsA (.int v :: rest)))
    (kx : ∀ (e' : Nat) (M' : mj_M) (ce : Cell) (q9 : Addr) (H1 : Heap) (locs1 : List Loc), Kc (e' + 1) 0 M' → va_P D mj_cl (mj_w cA ad M' (mj_Sh lv)) H1 → H.size ≤ H1.size → (∀ q : Nat, q < H.size → ¬ mj_A ad (mj_Sh lv).length H.size q → H1[q]? = H[q]?) → va_S A0 s.heap H1 locs1 → H1[q9]? = some ce → ce.vm = .none → s.vm.findClass (mj_E e') = some ce.cls → vx_W p l e R s m args below meth c H1 locs1 c1 s1 Q (F0 m pc lsA rest) q9) :
    W p l e R s m args below meth c H locs cn sn Q (F0 m pc lsA st) := by
  subst hst
  subst hc1
  subst hs1
  obtain ⟨y1, y2, y3, y4, y5, y6, y7, y8⟩ := mj_yof hk
  have hM1 := h l D cA ad H.size hlt (by rw [hlv]; exact hi)
  rw [hlv] at hM1
  have hgood : GoodIn mj_G (wsV own idx (mj_o k) (mj_y k) (mj_ws k)) := by
    intro w hw
    unfold wsV at hw
    simp only [List.cons_append, List.nil_append, List.mem_cons] at hw
    rcases hw with rfl | rfl | rfl | rfl | hw
    · exact mj_good hlink
    · exact mj_good (mj_inI hV)
    · exact mj_good (mj_inE hV)
    · exact mj_good (mj_inN y6)
    · unfold mj_ws at hw
      rcases List.mem_cons.mp hw with rfl | hw
      · exact mj_good (mj_inC hk)
      · exact mj_good hw
  have hrun := vx_runV (p := p) (e := e) (R := R) (below := below) (meth := meth) (H := H) (locs := locs) (cells := cn) (slots := sn) (g := F0 m pc lsA ((as.map (mj_tr ad)).reverse ++ .ref (ad 0) :: rest)) (rest := rest) (As := as.map (mj_tr ad)) ⟨hx, hb, hml, hown, hts⟩ hM1 (cwV (mj_ar k) hts hgood rfl rfl rfl ⟨y2, y3, y4, y5⟩ ⟨hfr, hlo⟩) ⟨mj_blind, by
      rw [show mj_o k = (mj_q (mj_oc k)).1 from mj_R_q y6]
      exact va_recv (cl := mj_cl) (q := mj_q (mj_oc k)) hK hP (mj_cl_q y6) (mj_w_some hsh), fun U hU hW => by
      refine ⟨rfl, by rw [hU], by rw [hU]; exact hP, va_K.moved hW.alike hK, ?_⟩
      have h1 := mj_X.warm hW hX
      rw [hU]
      exact h1.kept hS.2.1 hA⟩ rfl (by simpa using hn) hlsz rfl (lv_room hrest) hd ⟨hce, hsl⟩
  have hA' : ∀ q, q < H.size → mj_A ad (mj_Sh lv).length H.size q → A0 q := fun q _ hq => hA q hq
  cases hrk : mj_r k with
  | none => exact absurd hrk hr
  | some r =>
    rw [hrk] at hrun
    refine vx_calli (a := (Value.ref (ad 0) :: as.map (mj_tr ad)).toArray) hrun hS hA' hA hA' (fun E ce q9 u t H1 locs1 ht hal hp hBu hz hk hS1 hce hcv hcl => ?_) (fun v u t H1 locs1 ht hal hp hB hz hk hS1 => ?_)
    · obtain ⟨hE, hB⟩ := hBu
      subst hE
      exact kx u.1 u.2 ce q9 H1 locs1 hp (by rw [← ht]; exact hB) hz hk hS1 hce hcv hcl
    · exact kk v u H1 locs1 hp (by rw [← ht]; exact hB) hz hk hS1
def lh_N (U : State) : Prop := ∀ a b, a < 3 → b < 3 → a ≠ b → va_Nc (mj_E a) (mj_E b) U
theorem lh_N.moved {u U : State} (h : u.vm.Alike U.vm) (hN : lh_N u) : lh_N U := fun a b ha hb hn => va_Nc.moved h (hN a b ha hb hn)
def lh_ws (cA : Nat → ClassId) (ad : Nat → Nat) (M : mj_M) (ao : Nat) (cL : ClassId) (f : Nat → Int64) : va_W := mj_w cA ad M (mj_Sh 2) ++ [(ao, .inl (cL, 1, .inr (.inl f)))]
def lh_tys (cA : Nat → ClassId) (cL : ClassId) : List (ClassId × FieldType) := [(cA 0, .int), (cA 1, .boolean), (cL, .long)]
def lh_A (ad : Nat → Nat) (ao sz : Nat) : Nat → Prop := fun q => (∃ k, k < 81 ∧ q = ad k) ∨ q = ao ∨ sz ≤ q
def lh_i (ad : Nat → Nat) (ao : Nat) : Prop := mj_inj ad 81 ∧ ∀ k, k < 81 → ad k ≠ ao
theorem lh_o {cA : Nat → ClassId} {ad : Nat → Nat} {M : mj_M} {ao : Nat} {cL : ClassId} {f : Nat → Int64} : (lh_ws cA ad M ao cL f)[81]? = some (ao, .inl (cL, 1, .inr (.inl f))) := by
  unfold lh_ws
  rw [List.getElem?_append_right (by rw [mj_w_len, mj_len2]; exact Nat.le_refl _), mj_w_len, mj_len2]
  rfl
theorem lh_set {cA : Nat → ClassId} {ad : Nat → Nat} {M : mj_M} {ao : Nat} {cL : ClassId} {f g : Nat → Int64} : (lh_ws cA ad M ao cL f).set 81 (ao, .inl (cL, 1, .inr (.inl g))) = lh_ws cA ad M ao cL g := by
  unfold lh_ws
  rw [List.set_append_right _ _ (by rw [mj_w_len, mj_len2]; exact Nat.le_refl _), mj_w_len, mj_len2]
  rfl
theorem lh_cut {cA : Nat → ClassId} {ad : Nat → Nat} {M : mj_M} {ao : Nat} {cL : ClassId} {f : Nat → Int64} {k : Nat} {x : Nat × va_E} (h : (lh_ws cA ad M ao cL f)[k]? = some x) : (k < 81 ∧ (mj_w cA ad M (mj_Sh 2))[k]? = some x ∧ x.1 = ad k) ∨ (k = 81 ∧ x = (ao, .inl (cL, 1, .inr (.inl f)))) := by
  have hl := (List.getElem?_eq_some_iff.mp h).1
  unfold lh_ws at h hl
  rw [List.length_append, mj_w_len, mj_len2] at hl
  have hl2 : k < 82 := hl
  by_cases hk : k < 81
  · rw [List.getElem?_append_left (by rw [mj_w_len, mj_len2]; exact hk)] at h
    refine Or.inl ⟨hk, h, ?_⟩
    rw [mj_w_get] at h
    cases hq : (mj_Sh 2)[k]? with
    | none => rw [hq] at h; cases h
    | some d => rw [hq] at h; cases h; rfl
  · have hk2 : k = 81 := by omega
    subst hk2
    have h2 := lh_o (cA := cA) (ad := ad) (M := M) (ao := ao) (cL := cL) (f := f)
    unfold lh_ws at h2
    rw [h2] at h
    cases h
    exact Or.inr ⟨rfl, rfl⟩
theorem lh_D {cA : Nat → ClassId} {ad : Nat → Nat} {M : mj_M} {ao sz : Nat} {cL : ClassId} {f : Nat → Int64} (hi : lh_i ad ao) : va_D (lh_A ad ao sz) (lh_ws cA ad M ao cL f) := by
  refine ⟨fun i j x y hx hy hxy => ?_, fun k x hx => ?_⟩
  · rcases lh_cut hx with ⟨h1, h2, h3⟩ | ⟨h1, h2⟩
    · rcases lh_cut hy with ⟨h4, h5, h6⟩ | ⟨h4, h5⟩
      · exact hi.1 i j h1 h4 (by rw [← h3, ← h6, hxy])
      · exact absurd (by rw [← h3, hxy, h5]) (hi.2 i h1)
    · rcases lh_cut hy with ⟨h4, h5, h6⟩ | ⟨h4, h5⟩
      · exact absurd (by rw [← h6, ← hxy, h2]) (hi.2 j h4)
      · rw [h1, h4]
  · rcases lh_cut hx with ⟨h1, h2, h3⟩ | ⟨h1, h2⟩
    · exact Or.inl ⟨k, h1, h3⟩
    · rw [h2]; exact Or.inr (Or.inl rfl)
theorem lh_P1 {D : va_G} {cA : Nat → ClassId} {ad : Nat → Nat} {M : mj_M} {ao : Nat} {cL : ClassId} {f : Nat → Int64} {H : Heap} (h : va_P D mj_cl (lh_ws cA ad M ao cL f) H) : va_P D mj_cl (mj_w cA ad M (mj_Sh 2)) H := by
  intro k x hx
  refine h k x ?_
  unfold lh_ws
  rw [List.getElem?_append_left (List.getElem?_eq_some_iff.mp hx).1]
  exact hx
/-- behind a call that wrote the class's cells alone -/
theorem lh_P2 {D : va_G} {cA : Nat → ClassId} {ad : Nat → Nat} {M M' : mj_M} {ao : Nat} {cL : ClassId} {f : Nat → Int64} {H H1 : Heap} (hi : lh_i ad ao) (h : va_P D mj_cl (lh_ws cA ad M ao cL f) H) (h1 : va_P D mj_cl (mj_w cA ad M' (mj_Sh 2)) H1) (hk : ∀ q : Nat, q < H.size → ¬ mj_A ad (mj_Sh 2).length H.size q → H1[q]? = H[q]?) : va_P D mj_cl (lh_ws cA ad M' ao cL f) H1 := by
  intro k x hx
  rcases lh_cut hx with ⟨e1, e2, e3⟩ | ⟨e1, e2⟩
  · exact h1 k x e2
  · have h3 := h 81 _ lh_o
    rw [e2]
    refine h3.kept (hk _ h3.lt (fun hA => ?_))
    rcases hA with ⟨i, hi2, e⟩ | hA
    · exact hi.2 i (by rw [mj_len2] at hi2; exact hi2) e.symm
    · have := h3.lt
      exact absurd (Nat.lt_of_lt_of_le this hA) (Nat.lt_irrefl _)
def lh_Pc (D : va_G) (cA : Nat → ClassId) (cL : ClassId) (ad : Nat → Nat) (ao : Nat) (as : List Value) (M : mj_M) (f : Nat → Int64) (sz : Nat) : Array Value → State → Prop := va_Pc (.ref (ad 0) :: (as ++ [.ref ao])) (fun U => U.heap.size = sz ∧ va_P D mj_cl (lh_ws cA ad M ao cL f) U.heap ∧ va_K D mj_cl (lh_tys cA cL) U ∧ mj_X 2 (lh_A ad ao sz) U U.heap ∧ lh_N U)
def lh_Q (D : va_G) (cA : Nat → ClassId) (cL : ClassId) (ad : Nat → Nat) (ao : Nat) (KK : Int32 → mj_M → Int64 → Prop) (A : Nat → Prop) : Array Value → State → Outcome → State → Prop := va_Qi (fun (r : Int32) (u : mj_M × (Nat → Int64)) => KK r u.1 (u.2 0)) (fun u t => va_P D mj_cl (lh_ws cA ad u.1 ao cL u.2) t.heap) A
def lh_XC (A : Nat → Prop) : String → State → State → Prop := vx_X (fun _ : Unit => False) (fun _ _ _ => True) A
def lh_rm (k d : Nat) : Room := { frames := 2 * d + 21, cells := mj_mc k, slots := 6 * mj_mc k, locals := 40 * d + 340 }
def lh_Cm (y : MethodName) (ws : List Cond) (k d : Nat) (as : List Value) (M : mj_M) (KK : Int32 → mj_M → Int64 → Prop) : Prop :=
  ∀ (l : Launch) (D : va_G) (cA : Nat → ClassId) (cL : ClassId) (ad : Nat → Nat) (ao : Nat) (f : Nat → Int64) (sz : Nat), l.stackTraces = false → lh_i ad ao →
    vx_Met l y ws (lh_rm k d) (lh_Pc D cA cL ad ao as M f sz) (lh_Q D cA cL ad ao KK (lh_A ad ao sz)) (lh_XC (lh_A ad ao sz)) (mj_mc k) (6 * mj_mc k) (lh_A ad ao sz)
theorem lh_blind {D : va_G} {cA : Nat → ClassId} {cL : ClassId} {ad : Nat → Nat} {ao sz : Nat} {as : List Value} {M : mj_M} {f : Nat → Int64} : FrameBlind (lh_Pc D cA cL ad ao as M f sz) := by
  intro a U g mk q
  obtain ⟨q0, q1, qP, qK, qX, qN⟩ := q
  exact ⟨q0, q1, qP, va_K.moved (u := U) (U := U.calling g mk a) (Vm.Alike.refl U.vm) qK, qX, lh_N.moved (u := U) (U := U.calling g mk a) (Vm.Alike.refl U.vm) qN⟩
theorem lh_Asub {ad : Nat → Nat} {ao sz z : Nat} (h : sz ≤ z) : ∀ q, mj_A ad (mj_Sh 2).length z q → lh_A ad ao sz q := by
  intro q hq
  rcases hq with ⟨k, hk, e⟩ | hq
  · exact Or.inl ⟨k, by rw [mj_len2] at hk; exact hk, e⟩
  · exact Or.inr (Or.inr (Nat.le_trans h hq))
