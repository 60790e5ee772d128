-- the world as a row of numbers: cell c, place i, holds M c i; references stand in the shape
def mj_u (M : mj_M) (c i : Nat) (v : Int32) : mj_M := fun c' => bif Nat.beq c' c then upd (M c) i v else M c'
def mj_f (ad : Nat → Nat) (f : Nat → Int32) : Nat → List (Option Nat) → List Value
  | _, [] => []
  | i, none :: l => .int (f i) :: mj_f ad f (i + 1) l
  | i, some q :: l => .ref (ad q) :: mj_f ad f (i + 1) l
def mj_e (cA : Nat → ClassId) (ad : Nat → Nat) (M : mj_M) (k : Nat) : mj_D → va_E
  | .inl (ci, fs) => .inr (ci, mj_f ad (M k) 0 fs)
  | .inr (t, n) => .inl (cA t, n, .inl (M k))
def mj_w (cA : Nat → ClassId) (ad : Nat → Nat) (M : mj_M) (Sh : List mj_D) : va_W := Sh.mapIdx fun k d => (ad k, mj_e cA ad M k d)
def mj_tr (ad : Nat → Nat) : Value → Value
  | .ref k => .ref (ad k)
  | v => v
theorem mj_u_same (M : mj_M) (c i : Nat) (v : Int32) : mj_u M c i v c = upd (M c) i v := by
  simp [mj_u]
theorem mj_u_ne (M : mj_M) {c c' : Nat} (i : Nat) (v : Int32) (h : c' ≠ c) : mj_u M c i v c' = M c' := by
  have h1 : Nat.beq c' c = false := by
    cases hq : Nat.beq c' c with
    | false => rfl
    | true => exact absurd (Nat.eq_of_beq_eq_true hq) h
  simp only [mj_u, h1, cond_false]
theorem mj_f_get (ad : Nat → Nat) (f : Nat → Int32) : ∀ (l : List (Option Nat)) (i j : Nat), (mj_f ad f i l)[j]? = (l[j]?).map (fun o => match o with | none => Value.int (f (i + j)) | some q => Value.ref (ad q))
  | [], i, j => by simp [mj_f]
  | none :: l, i, 0 => by simp [mj_f]
  | some q :: l, i, 0 => by simp [mj_f]
  | none :: l, i, j + 1 => by
    simp only [mj_f, List.getElem?_cons_succ]
    rw [mj_f_get ad f l (i + 1) j, show i + 1 + j = i + (j + 1) by omega]
  | some q :: l, i, j + 1 => by
    simp only [mj_f, List.getElem?_cons_succ]
    rw [mj_f_get ad f l (i + 1) j, show i + 1 + j = i + (j + 1) by omega]
theorem mj_f_len (ad : Nat → Nat) (f : Nat → Int32) : ∀ (l : List (Option Nat)) (i : Nat), (mj_f ad f i l).length = l.length
  | [], i => rfl
  | none :: l, i => by simp [mj_f, mj_f_len ad f l (i + 1)]
  | some q :: l, i => by simp [mj_f, mj_f_len ad f l (i + 1)]
theorem mj_f_set (ad : Nat → Nat) (f : Nat → Int32) (l : List (Option Nat)) (j : Nat) (v : Int32) (h : l[j]? = some none) : (mj_f ad f 0 l).set j (.int v) = mj_f ad (upd f j v) 0 l := by
  apply List.ext_getElem?
  intro i
  rw [List.getElem?_set, mj_f_get, mj_f_get, mj_f_len]
  by_cases hij : j = i
  · subst hij
    have hl := (List.getElem?_eq_some_iff.mp h).1
    rw [if_pos rfl, if_pos hl, h]
    simp [upd]
  · rw [if_neg hij]
    cases hq : l[i]? with
    | none => rfl
    | some o =>
      cases o with
      | none => simp [upd, show ¬ i = j from fun e => hij e.symm]
      | some q => rfl
theorem mj_w_get (cA : Nat → ClassId) (ad : Nat → Nat) (M : mj_M) (Sh : List mj_D) (k : Nat) : (mj_w cA ad M Sh)[k]? = (Sh[k]?).map (fun d => (ad k, mj_e cA ad M k d)) := by
  simp [mj_w, List.getElem?_mapIdx]
theorem mj_w_some {cA : Nat → ClassId} {ad : Nat → Nat} {M : mj_M} {Sh : List mj_D} {k : Nat} {d : mj_D} (h : Sh[k]? = some d) : (mj_w cA ad M Sh)[k]? = some (ad k, mj_e cA ad M k d) := by
  rw [mj_w_get, h]; rfl
theorem mj_w_len (cA : Nat → ClassId) (ad : Nat → Nat) (M : mj_M) (Sh : List mj_D) : (mj_w cA ad M Sh).length = Sh.length := by
  simp [mj_w]
theorem mj_w_set {cA : Nat → ClassId} {ad : Nat → Nat} {M : mj_M} {Sh : List mj_D} {k : Nat} {d : mj_D} (i : Nat) (v : Int32) (h : Sh[k]? = some d) (e : va_E) (he : e = mj_e cA ad (mj_u M k i v) k d) : (mj_w cA ad M Sh).set k (ad k, e) = mj_w cA ad (mj_u M k i v) Sh := by
  apply List.ext_getElem?
  intro j
  rw [List.getElem?_set, mj_w_get, mj_w_get, mj_w_len]
  have hl := (List.getElem?_eq_some_iff.mp h).1
  by_cases hkj : k = j
  · subst hkj
    rw [if_pos rfl, if_pos hl, h, he]; rfl
  · rw [if_neg hkj]
    cases hq : Sh[j]? with
    | none => rfl
    | some d' =>
      simp only [Option.map_some]
      congr 2
      have hne : j ≠ k := fun e => hkj e.symm
      cases d' with
      | inl o =>
        obtain ⟨ci, fs⟩ := o
        simp only [mj_e]
        rw [mj_u_ne M i v hne]
      | inr a =>
        obtain ⟨t, n⟩ := a
        simp only [mj_e]
        rw [mj_u_ne M i v hne]
def mj_inj (ad : Nat → Nat) (n : Nat) : Prop := ∀ i j, i < n → j < n → ad i = ad j → i = j
def mj_A (ad : Nat → Nat) (n sz : Nat) : Nat → Prop := fun q => (∃ k, k < n ∧ q = ad k) ∨ sz ≤ q
theorem mj_D_of {cA : Nat → ClassId} {ad : Nat → Nat} {M : mj_M} {Sh : List mj_D} {sz : Nat} (hi : mj_inj ad Sh.length) : va_D (mj_A ad Sh.length sz) (mj_w cA ad M Sh) := by
  have key : ∀ (i : Nat) (p : Nat × va_E), (mj_w cA ad M Sh)[i]? = some p → i < Sh.length ∧ p.1 = ad i := by
    intro i p h
    have hl := (List.getElem?_eq_some_iff.mp h).1
    rw [mj_w_len] at hl
    rw [mj_w_get] at h
    refine ⟨hl, ?_⟩
    cases hq : Sh[i]? with
    | none => rw [hq] at h; cases h
    | some d => rw [hq] at h; cases h; rfl
  refine ⟨fun i j p q hp hq hpq => ?_, fun k q hq => ?_⟩
  · obtain ⟨h1, h2⟩ := key i p hp
    obtain ⟨h3, h4⟩ := key j q hq
    exact hi i j h1 h3 (by rw [← h2, ← h4, hpq])
  · obtain ⟨h1, h2⟩ := key k q hq
    exact Or.inl ⟨k, h1, h2⟩
def mj_tys (cA : Nat → ClassId) : List (ClassId × FieldType) := [(cA 0, .int), (cA 1, .boolean)]
-- the texts of the seven exceptions: entry of CrushLoad's pool, text
def mj_tx : List (Nat × String) := [(211, "out of range"), (216, "does not fit"), (220, "no place for one more"), (228, "no such room"), (232, "no such link"), (235, "no such person"), (238, "no such train")]
def mj_E (e : Nat) : String := match e with
  | 0 => "java/lang/IndexOutOfBoundsException"
  | 1 => "java/lang/IllegalArgumentException"
  | _ => "java/lang/IllegalStateException"
def mj_dc : List MethodName := [⟨"java/lang/RuntimeException", "<init>", "()V"⟩, ⟨"java/lang/RuntimeException", "<init>", "(Ljava/lang/String;)V"⟩, ⟨"java/lang/Exception", "<init>", "()V"⟩, ⟨"java/lang/Exception", "<init>", "(Ljava/lang/String;)V"⟩, ⟨"java/lang/Throwable", "<init>", "()V"⟩, ⟨"java/lang/Throwable", "<init>", "(Ljava/lang/String;)V"⟩]
/-- what a throw needs of the start: statics of Throwable, the texts, the words that only the tables decide -/
def mj_X (lv : Nat) (ad : Nat → Nat) (A : Nat → Prop) (U : State) (H : Heap) : Prop := ((lv = 2 ∨ lv = 9) → vx_Zq Bundle.tN "UNASSIGNED_STACK" Bundle.steD A U H ∧ vx_Zq Bundle.tN "SUPPRESSED_SENTINEL" Bundle.listD A U H ∧ (∀ q ∈ mj_tx, ∃ sa, vk_R RX6 q.1 q.2 sa U) ∧ (∀ e, e < 3 → va_Nw (.castable (mj_E e) (mj_E e)) U) ∧ (∀ y ∈ mj_dc, va_Nw (.declares y) U)) ∧ (lv = 9 → ∃ (L : Nat) (xs : Nat → Int32), L ≤ 260 ∧ va_X (ad 999) L xs U H ∧ ad 999 < H.size ∧ ¬ A (ad 999))
theorem mj_X.of {lv : Nat} {ad : Nat → Nat} {A : Nat → Prop} {U : State} {H : Heap} (h2 : lv ≠ 2) (h9 : lv ≠ 9) : mj_X lv ad A U H := ⟨fun h => (h.elim h2 h9).elim, fun h => (h9 h).elim⟩
theorem va_X.warm {b L : Nat} {xs : Nat → Int32} {s U : State} {H : Heap} (hW : s.WarmedH U.vm) (h : va_X b L xs s H) : va_X b L xs U H := by
  obtain ⟨scr, h1, h2, h3, h4, h5⟩ := h
  refine ⟨scr, h1, ?_, h3, h4, h5⟩
  exact State.isArrayOf_alike hW.alike h2
theorem mj_X.warm {lv : Nat} {ad : Nat → Nat} {A : Nat → Prop} {s U : State} {H : Heap} (hW : s.WarmedH U.vm) (h : mj_X lv ad A s H) : mj_X lv ad A U H := by
  obtain ⟨hz, hs⟩ := h
  refine ⟨fun hlv => ?_, fun hlv => ?_⟩
  · obtain ⟨h1, h2, h3, h4, h5⟩ := hz hlv
    refine ⟨vx_Zq.moved hW.alike h1, vx_Zq.moved hW.alike h2, fun q hq => ?_, fun e he => va_Nw.warmC hW (h4 e he), fun y hy => va_Nw.warmD hW (h5 y hy)⟩
    obtain ⟨sa, hsa⟩ := h3 q hq
    exact ⟨sa, vk_R.warm hW hsa⟩
  · obtain ⟨L, xs, h1, h2, h3⟩ := hs hlv
    exact ⟨L, xs, h1, va_X.warm hW h2, h3⟩
theorem mj_X.kept {lv lv' : Nat} {ad ad' : Nat → Nat} {A B : Nat → Prop} {U : State} {H H1 : Heap} (h : mj_X lv ad A U H) (hq : ∀ a : Nat, a < H.size → ¬ A a → H1[a]? = H[a]?) (hz : H.size ≤ H1.size) (hAB : ∀ q, B q → A q) (h2 : lv' = 2 → lv = 2 ∨ lv = 9) (h9 : lv' = 9 → lv = 9) (had : ad' 999 = ad 999) : mj_X lv' ad' B U H1 := by
  obtain ⟨ha, hs⟩ := h
  refine ⟨fun hlv => ?_, fun hlv => ?_⟩
  · obtain ⟨h1, h2, h3, h4, h5⟩ := ha (by rcases hlv with e | e; exact h2 e; exact Or.inr (h9 e))
    exact ⟨(h1.kept hq).narrow hAB, (h2.kept hq).narrow hAB, h3, h4, h5⟩
  · obtain ⟨L, xs, h1, ⟨scr, g1, g2⟩, h3, h4⟩ := hs (h9 hlv)
    rw [had]
    exact ⟨L, xs, h1, ⟨scr, by rw [hq _ h3 h4]; exact g1, g2⟩, Nat.lt_of_lt_of_le h3 hz, fun q => h4 (hAB _ q)⟩
theorem mj_A_mono {ad : Nat → Nat} {n a b : Nat} (h : a ≤ b) : ∀ q, mj_A ad n b q → mj_A ad n a q := by
  intro q hq
  rcases hq with hq | hq
  · exact Or.inl hq
  · exact Or.inr (Nat.le_trans h hq)
def mj_B (D : va_G) (cA : Nat → ClassId) (ad : Nat → Nat) (Sh : List mj_D) (M : mj_M) (t : State) : Prop := va_P D mj_cl (mj_w cA ad M Sh) t.heap
def mj_Q (r : Option FieldType) (D : va_G) (cA : Nat → ClassId) (ad : Nat → Nat) (Sh : List mj_D) (K : mj_K) (A : Nat → Prop) : Array Value → State → Outcome → State → Prop := match r with
  | none => va_Qv (fun u : mj_M => K 0 0 u) (mj_B D cA ad Sh) A
  | some _ => va_Qi (fun (v : Int32) (u : mj_M) => K 0 v u) (mj_B D cA ad Sh) A
def mj_XC (D : va_G) (cA : Nat → ClassId) (ad : Nat → Nat) (Sh : List mj_D) (K : mj_K) (A : Nat → Prop) : String → State → State → Prop := vx_X (fun u : Nat × mj_M => K (u.1 + 1) 0 u.2) (fun E u t => E = mj_E u.1 ∧ mj_B D cA ad Sh u.2 t) A
def mj_Pc (lv : Nat) (D : va_G) (cA : Nat → ClassId) (ad : Nat → Nat) (As : List Value) (M : mj_M) (sz : Nat) : Array Value → State → Prop := va_Pc (As.map (mj_tr ad)) (fun U => U.heap.size = sz ∧ va_P D mj_cl (mj_w cA ad M (mj_Sh lv)) U.heap ∧ va_K D mj_cl (mj_tys cA) U ∧ mj_X lv ad (mj_A ad (mj_Sh lv).length sz) U U.heap)
/-- THE CONTRACT of method k, with calls at most d deep below it: from the arguments As and the world M it comes to an end of which K holds -/
def mj_Cm (k d : Nat) (As : List Value) (M : mj_M) (K : mj_K) : Prop :=
  ∀ (l : Launch) (D : va_G) (cA : Nat → ClassId) (ad : Nat → Nat) (sz : Nat), l.stackTraces = false → mj_inj ad (mj_Sh (mj_lv k)).length →
    vx_Met l (mj_y k) (mj_ws k) (mj_rm k d) (mj_Pc (mj_lv k) D cA ad As M sz) (mj_Q (mj_r k) D cA ad (mj_Sh (mj_lv k)) K (mj_A ad (mj_Sh (mj_lv k)).length sz)) (mj_XC D cA ad (mj_Sh (mj_lv k)) K (mj_A ad (mj_Sh (mj_lv k)).length sz)) (mj_mc k) (64 * mj_mc k) (mj_A ad (mj_Sh (mj_lv k)).length sz)
/-- locals: by place, what is known of them -/
def mj_L (ad : Nat → Nat) (lsA : Array Slot) (n : Nat) (ls : List (Option Value)) : Prop := lsA.size = n ∧ ls.length = n ∧ lv_wf lsA ∧ ∀ (i : Nat) (v : Value), ls[i]? = some (some v) → v.category = 1 ∧ lsA[i]? = some (.val (mj_tr ad v))
def mj_C (lv k : Nat) (p : Program) (l : Launch) (s : State) (m : MethodId) (args : Array Value) (meth : Method) (c : Code) (D : va_G) (cA : Nat → ClassId) (ad : Nat → Nat) : Prop :=
  p.tables.exec = Jvm.exec ∧ l.stackTraces = false ∧ c.code = mj_c k ∧ c.maxLocals = mj_n k ∧ s.vm.findClass (mj_o k) = some m.cls ∧ (∀ w ∈ mj_G, w.before args s = true) ∧ meth.sig.returnType = mj_r k ∧ meth.locks = false ∧ (∀ x ∈ c.exceptionTable.toList, False) ∧ mj_inj ad (mj_Sh lv).length ∧ va_K D mj_cl (mj_tys cA) s ∧ mj_X lv ad (mj_A ad (mj_Sh lv).length s.heap.size) s s.heap
/-- method k, standing at pc: it comes to an end of which K holds -/
def mj_W (lv k d pc : Nat) (ls : List (Option Value)) (st : List Value) (M : mj_M) (cn : Nat) (K : mj_K) : Prop :=
  ∀ (p : Program) (l : Launch) (e : Env) (s : State) (m : MethodId) (args : Array Value) (below : List Frame) (meth : Method) (c : Code) (D : va_G) (cA : Nat → ClassId) (ad : Nat → Nat), mj_C lv k p l s m args meth c D cA ad →
    ∀ (H : Heap) (locs : List Loc) (lsA : Array Slot), mj_L ad lsA (mj_n k) ls → va_P D mj_cl (mj_w cA ad M (mj_Sh lv)) H → va_S (mj_A ad (mj_Sh lv).length s.heap.size) s.heap H locs →
      W p l e (mj_rm k d) s m args below meth c H locs cn (64 * cn) (vx_MQ below (mj_Q (mj_r k) D cA ad (mj_Sh lv) K (mj_A ad (mj_Sh lv).length s.heap.size)) (mj_XC D cA ad (mj_Sh lv) K (mj_A ad (mj_Sh lv).length s.heap.size)) args s (mj_mc k) (64 * mj_mc k) (mj_A ad (mj_Sh lv).length s.heap.size)) (F0 m pc lsA (st.map (mj_tr ad)))
theorem mj_tr_cat (ad : Nat → Nat) (v : Value) : (mj_tr ad v).category = v.category := by
  cases v <;> rfl
theorem mj_lg_sl (ad : Nat → Nat) : ∀ (As : List Value), (∀ v ∈ As, v.category = 1) → lg_sl (As.map (mj_tr ad)) = As.map (fun v => Slot.val (mj_tr ad v))
  | [], _ => rfl
  | v :: l, h => by
    have h1 : ¬ (mj_tr ad v).category = 2 := by rw [mj_tr_cat, h v List.mem_cons_self]; decide
    have h2 := mj_lg_sl ad l (fun w hw => h w (List.mem_cons_of_mem _ hw))
    simp only [lg_sl, List.map_cons, List.flatMap_cons, if_neg h1] at h2 ⊢
    rw [h2]; rfl
theorem mj_entry {k d : Nat} {As : List Value} {M : mj_M} {K : mj_K} (hk : k < mj_N) (hc : ∀ v ∈ As, v.category = 1) (hn : As.length ≤ mj_n k) (h : mj_W (mj_lv k) k d 0 (As.map some ++ List.replicate (mj_n k - As.length) none) [] M 0 K) : mj_Cm k d As M K := by
  intro l D cA ad sz hl hinj
  obtain ⟨y1, y2, y3, y4, y5, y6, y7, y8⟩ := mj_yof hk
  refine vx_ofW (cc := mj_c k) (maxL := mj_n k) (ret := mj_r k) y1 rfl ?_
  intro p e s m args below meth c s₁ B hml htab hv
  obtain ⟨rfl, hsz, hP, hK, hX⟩ := hv
  have hown : s.vm.findClass (mj_o k) = some m.cls := by rw [← y2]; exact findClass_of_methodNamed B.named
  have hts := atoms_spec (ws := mj_ws k) B.pre
  subst hsz
  rw [lg_entry_eq, mj_lg_sl ad As hc]
  have hlen : (As.map (fun v => Slot.val (mj_tr ad v))).length = As.length := List.length_map _
  rw [hlen]
  refine h p l e s m _ below meth c D cA ad ⟨B.exec, hl, B.bytes, hml, hown, fun w hw => hts w (List.mem_cons_of_mem _ hw), B.returns, B.notSynchronized, htab, hinj, hK, hX⟩ s.heap [] _ ?_ hP va_S.rf
  have hval : ∀ (i : Nat), (As.map (fun v => Slot.val (mj_tr ad v)) ++ List.replicate (mj_n k - As.length) Slot.unset).toArray[i]? = if i < As.length then (As[i]?).map (fun v => Slot.val (mj_tr ad v)) else if i < mj_n k then some .unset else none := by
    intro i
    rw [List.getElem?_toArray]
    by_cases hi : i < As.length
    · rw [if_pos hi, List.getElem?_append_left (by rw [hlen]; exact hi), List.getElem?_map]
    · rw [if_neg hi, List.getElem?_append_right (by rw [hlen]; omega), hlen, List.getElem?_replicate]
      by_cases h2 : i < mj_n k
      · rw [if_pos h2, if_pos (by omega)]
      · rw [if_neg h2, if_neg (by omega)]
  refine ⟨by simp; omega, by simp; omega, ⟨fun i v hv h2 => ?_, fun i hv => ?_⟩, fun i v hv => ?_⟩
  · rw [hval] at hv
    split at hv
    · cases hq : As[i]? with
      | none => rw [hq] at hv; cases hv
      | some w =>
        rw [hq] at hv
        cases hv
        rw [mj_tr_cat, hc w (List.mem_of_getElem? hq)] at h2
        cases h2
    · split at hv <;> cases hv
  · rw [hval] at hv
    split at hv
    · cases hq : As[i]? with
      | none => rw [hq] at hv; cases hv
      | some w => rw [hq] at hv; cases hv
    · split at hv <;> cases hv
  · have hi : i < As.length := by
      rcases Nat.lt_or_ge i As.length with q | q
      · exact q
      · rw [List.getElem?_append_right (by simpa using q), List.getElem?_replicate] at hv
        split at hv <;> cases hv
    rw [List.getElem?_append_left (by simpa using hi), List.getElem?_map] at hv
    cases hq : As[i]? with
    | none => rw [hq] at hv; cases hv
    | some w =>
      rw [hq] at hv
      cases hv
      refine ⟨hc v (List.mem_of_getElem? hq), ?_⟩
      rw [hval, if_pos hi, hq]; rfl
