-- the start: nothing is built yet (written by wip/whole/gen/mk70.py)
def ls_Z : mj_M := fun _ _ => 0
theorem ls_0 : (0 : Int32).toNatClampNeg = 0 := by decide
theorem ls_no {k : Nat} (h : k < (0 : Int32).toNatClampNeg) : False := by
  rw [ls_0] at h
  exact Nat.not_lt_zero _ h
theorem ls_Ia : mj_Ia ls_Z := by
  have z0 : 0 ≤ (0 : Int32).toInt := by decide
  have z10 : (0 : Int32).toInt ≤ 10 := by decide
  have z14 : (0 : Int32).toInt ≤ 14 := by decide
  have z12 : (0 : Int32).toInt ≤ 12 := by decide
  have z120 : (0 : Int32).toInt ≤ 120 := by decide
  have zM : (0 : Int32).toInt ≤ 1000000 := by decide
  refine ⟨⟨⟨⟨⟨⟨z0, z10⟩, ⟨z0, z14⟩, fun l h => (ls_no h).elim⟩, ⟨z0, z120⟩, ⟨z0, z12⟩, fun p h => (ls_no h).elim, fun r h => (ls_no h).elim, fun l h => (ls_no h).elim, fun t h => (ls_no h).elim, Or.inl rfl⟩, fun p h => (ls_no h).elim, fun r h => (ls_no h).elim, fun r h => (ls_no h).elim, fun t h => (ls_no h).elim, z0, zM⟩, fun c i _ _ => rfl, fun p h => (ls_no h).elim⟩, fun r _ => ⟨rfl, rfl, rfl, rfl⟩, fun l _ => ⟨rfl, rfl, rfl, rfl⟩, fun t _ => rfl⟩
theorem ls_CL : mk_CL ls_Z ls_Z := by
  refine ⟨⟨ls_Z, ?_, fun w _ a g ha => (ls_no ha).elim⟩, fun _ _ _ _ _ => rfl⟩
  funext q i
  show (0 : Int32) = mj_cc ls_Z ls_Z q i
  unfold mj_cc
  cases mj_same q with
  | true => rfl
  | false =>
    simp only [cond_false]
    split
    · show (0 : Int32) = 0 + 2 * 0
      decide
    all_goals first
      | rfl
      | (show (0 : Int32) = if _ then (0 : Int32) else if _ then (0 : Int32) else (0 : Int32)
         rw [ite_self, ite_self])
      | (show (0 : Int32) = if _ then (0 : Int32) else (0 : Int32)
         rw [ite_self])
theorem ls_mm : mj_mm ls_Z ls_Z = ls_Z := by
  funext c i
  unfold mj_mm mj_en1 ls_Z
  by_cases h : c = 1
  · rw [if_pos h]
    simp only [ite_self]
  · rw [if_neg h]
theorem ls_t {l : Launch} (h : l.flags = flags0) : l.stackTraces = false := by
  unfold Launch.stackTraces
  rw [h]
  decide +kernel
theorem ls_arrL {s : State} {args : Array Value} (h : (Cond.arrayClass .long).before args s = true) : ∃ cA, ArrOfT s cA .long ∧ va_RA s cA .long := by
  obtain ⟨cA, kA, comp, h1, h2, h3⟩ := Cond.arrayClass_spec h
  exact ⟨cA, fun n z => ⟨fun k h => (by cases h), kA, h2, comp, h3⟩, h1⟩
theorem ls_iL : Cond.arrayClass .long ∈ mj_G := mj_inG (List.mem_of_getElem? (i := 1127) (by decide +kernel)) rfl
theorem ls_n6 : Cond.instantiable (mj_q 6).1 (mj_q 6).2.2 ∈ mj_G := mj_inG (List.mem_of_getElem? (i := 75) (by decide +kernel)) rfl
theorem ls_n7 : Cond.instantiable (mj_q 7).1 (mj_q 7).2.2 ∈ mj_G := mj_inG (List.mem_of_getElem? (i := 880) (by decide +kernel)) rfl
theorem ls_i6 : Cond.instanceMethod yX6_init ∈ mj_G := mj_inG (List.mem_of_getElem? (i := 77) (by decide +kernel)) rfl
theorem ls_i7 : Cond.instanceMethod yX7_init ∈ mj_G := mj_inG (List.mem_of_getElem? (i := 882) (by decide +kernel)) rfl
theorem ls_k8 : Cond.classLink RL 8 (mj_q 6).1 ∈ mj_G := mj_inG (List.mem_of_getElem? (i := 74) (by decide +kernel)) rfl
theorem ls_k70 : Cond.classLink RL 70 (mj_q 7).1 ∈ mj_G := mj_inG (List.mem_of_getElem? (i := 879) (by decide +kernel)) rfl
theorem ls_m69 : Cond.methodLink RL 69 yX6_init ∈ mj_G := mj_inG (List.mem_of_getElem? (i := 76) (by decide +kernel)) rfl
theorem ls_m72 : Cond.methodLink RL 72 yX7_init ∈ mj_G := mj_inG (List.mem_of_getElem? (i := 881) (by decide +kernel)) rfl
theorem ls_cls {s : State} {args : Array Value} (hts : ∀ w ∈ mj_G, w.before args s = true) : ∃ D : va_G, ∀ (ci : Nat) (q : vw_C), mj_cl[ci]? = some q → u_Kn s q.1 q.2.1 q.2.2 (D.1 ci) (D.2 ci) := by
  have key : ∀ ci, ci < 8 → Cond.instantiable (mj_q ci).1 (mj_q ci).2.2 ∈ mj_G → ∃ (cC : ClassId) (iS : Nat → Nat), u_Kn s (mj_q ci).1 (mj_q ci).2.1 (mj_q ci).2.2 cC iS := fun ci h1 h2 => u_known hts (mj_inL h1) (hts _ h2)
  obtain ⟨c0, i0, h0⟩ := key 0 (by decide) cn_n0
  obtain ⟨c1, i1, h1⟩ := key 1 (by decide) cn_n1
  obtain ⟨c2, i2, h2⟩ := key 2 (by decide) cn_n2
  obtain ⟨c3, i3, h3⟩ := key 3 (by decide) cn_n3
  obtain ⟨c4, i4, h4⟩ := key 4 (by decide) cn_n4
  obtain ⟨c5, i5, h5⟩ := key 5 (by decide) cn_n5
  obtain ⟨c6, i6, h6⟩ := key 6 (by decide) ls_n6
  obtain ⟨c7, i7, h7⟩ := key 7 (by decide) ls_n7
  refine ⟨(fun k => match k with | 0 => c0 | 1 => c1 | 2 => c2 | 3 => c3 | 4 => c4 | 5 => c5 | 6 => c6 | _ => c7, fun k => match k with | 0 => i0 | 1 => i1 | 2 => i2 | 3 => i3 | 4 => i4 | 5 => i5 | 6 => i6 | _ => i7), ?_⟩
  intro ci q hq
  match ci, hq with
  | 0, hq => cases hq; exact h0
  | 1, hq => cases hq; exact h1
  | 2, hq => cases hq; exact h2
  | 3, hq => cases hq; exact h3
  | 4, hq => cases hq; exact h4
  | 5, hq => cases hq; exact h5
  | 6, hq => cases hq; exact h6
  | 7, hq => cases hq; exact h7
  | n + 8, hq =>
    have := (List.getElem?_eq_some_iff.mp hq).1
    have h9 : n + 8 < 8 := this
    exact absurd h9 (by omega)
set_option maxRecDepth 100000 in
theorem ls_N {s : State} {args : Array Value} (hts : ∀ w ∈ lw_tbl, w.before args s = true) : cn_N s := by
  have key : ∀ q ∈ cn_nl, Cond.methodLinkNest q.1 q.2.1 q.2.2 "CrushLoad" ∈ lw_tbl := by
    intro q hq
    simp only [cn_nl, List.mem_cons, List.not_mem_nil, or_false] at hq
    rcases hq with rfl | rfl | rfl | rfl | rfl | rfl
    · exact List.mem_of_getElem? (i := 84) (by decide +kernel)
    · exact List.mem_of_getElem? (i := 90) (by decide +kernel)
    · exact List.mem_of_getElem? (i := 131) (by decide +kernel)
    · exact List.mem_of_getElem? (i := 198) (by decide +kernel)
    · exact List.mem_of_getElem? (i := 244) (by decide +kernel)
    · exact List.mem_of_getElem? (i := 282) (by decide +kernel)
  exact fun q hq => va_Nw.of rfl (hts _ (key q hq))
set_option maxRecDepth 100000 in
theorem ls_lN {s : State} {args : Array Value} (hf : ∀ w ∈ flatC (Jvm.Cond.and given_1 narrow_1), w.before args s = true) : lh_N s := by
  have h01 : va_Nc (mj_E 0) (mj_E 1) s := va_Nc.of (hf (.not (.castable "java/lang/IndexOutOfBoundsException" "java/lang/IllegalArgumentException")) (by decide +kernel))
  have h02 : va_Nc (mj_E 0) (mj_E 2) s := va_Nc.of (hf (.not (.castable "java/lang/IndexOutOfBoundsException" "java/lang/IllegalStateException")) (by decide +kernel))
  have h10 : va_Nc (mj_E 1) (mj_E 0) s := va_Nc.of (hf (.not (.castable "java/lang/IllegalArgumentException" "java/lang/IndexOutOfBoundsException")) (by decide +kernel))
  have h12 : va_Nc (mj_E 1) (mj_E 2) s := va_Nc.of (hf (.not (.castable "java/lang/IllegalArgumentException" "java/lang/IllegalStateException")) (by decide +kernel))
  have h20 : va_Nc (mj_E 2) (mj_E 0) s := va_Nc.of (hf (.not (.castable "java/lang/IllegalStateException" "java/lang/IndexOutOfBoundsException")) (by decide +kernel))
  have h21 : va_Nc (mj_E 2) (mj_E 1) s := va_Nc.of (hf (.not (.castable "java/lang/IllegalStateException" "java/lang/IllegalArgumentException")) (by decide +kernel))
  intro a b ha hb hn
  match a, b, ha, hb, hn with
  | 0, 0, _, _, hn => exact absurd rfl hn
  | 0, 1, _, _, _ => exact h01
  | 0, 2, _, _, _ => exact h02
  | 1, 0, _, _, _ => exact h10
  | 1, 1, _, _, hn => exact absurd rfl hn
  | 1, 2, _, _, _ => exact h12
  | 2, 0, _, _, _ => exact h20
  | 2, 1, _, _, _ => exact h21
  | 2, 2, _, _, hn => exact absurd rfl hn
  | a + 3, _, ha, _, _ => exact absurd ha (by omega)
  | 0, b + 3, _, hb, _ => exact absurd hb (by omega)
  | 1, b + 3, _, hb, _ => exact absurd hb (by omega)
  | 2, b + 3, _, hb, _ => exact absurd hb (by omega)
set_option maxRecDepth 100000 in
theorem ls_X {s : State} {args : Array Value} (hts : ∀ w ∈ lw_tbl, w.before args s = true) (hf : ∀ w ∈ flatC (Jvm.Cond.and given_1 narrow_1), w.before args s = true) : mj_X 2 (fun q => s.heap.size ≤ q) s s.heap := by
  intro _
  have hA : ∀ a : Nat, a < s.heap.size → ¬ (fun q : Nat => s.heap.size ≤ q) a := fun a h => Nat.not_le.mpr h
  have hini : (Cond.initialized Bundle.tN).before args s = true := hts _ (List.mem_of_getElem? (i := 67) (by decide +kernel))
  have hstr : ∀ q ∈ mj_tx, Cond.stringRef RX6 q.1 q.2 ∈ lw_tbl ∧ Cond.exactly (.string RX6 q.1) "java/lang/String" ∈ flatC (Jvm.Cond.and given_1 narrow_1) := by
    intro q hq
    simp only [mj_tx, List.mem_cons, List.not_mem_nil, or_false] at hq
    rcases hq with rfl | rfl | rfl | rfl | rfl | rfl | rfl
    · exact ⟨List.mem_of_getElem? (i := 636) (by decide +kernel), by decide +kernel⟩
    · exact ⟨List.mem_of_getElem? (i := 718) (by decide +kernel), by decide +kernel⟩
    · exact ⟨List.mem_of_getElem? (i := 675) (by decide +kernel), by decide +kernel⟩
    · exact ⟨List.mem_of_getElem? (i := 708) (by decide +kernel), by decide +kernel⟩
    · exact ⟨List.mem_of_getElem? (i := 735) (by decide +kernel), by decide +kernel⟩
    · exact ⟨List.mem_of_getElem? (i := 833) (by decide +kernel), by decide +kernel⟩
    · exact ⟨List.mem_of_getElem? (i := 848) (by decide +kernel), by decide +kernel⟩
  have hcs : ∀ e, e < 3 → Cond.castable (mj_E e) (mj_E e) ∈ lw_tbl := by
    intro e he
    match e, he with
    | 0, _ => exact List.mem_of_getElem? (i := 701) (by decide +kernel)
    | 1, _ => exact List.mem_of_getElem? (i := 597) (by decide +kernel)
    | 2, _ => exact List.mem_of_getElem? (i := 668) (by decide +kernel)
  have hdc : ∀ y ∈ mj_dc, Cond.declares y ∈ lw_tbl := by
    intro y hy
    simp only [mj_dc, List.mem_cons, List.not_mem_nil, or_false] at hy
    rcases hy with rfl | rfl | rfl | rfl | rfl | rfl
    · exact List.mem_of_getElem? (i := 598) (by decide +kernel)
    · exact List.mem_of_getElem? (i := 599) (by decide +kernel)
    · exact List.mem_of_getElem? (i := 600) (by decide +kernel)
    · exact List.mem_of_getElem? (i := 601) (by decide +kernel)
    · exact List.mem_of_getElem? (i := 602) (by decide +kernel)
    · exact List.mem_of_getElem? (i := 603) (by decide +kernel)
  refine ⟨vx_Zqof (hts _ (List.mem_of_getElem? (i := 622) (by decide +kernel))) hini (hf _ (by decide +kernel)) hA, vx_Zqof (hts _ (List.mem_of_getElem? (i := 624) (by decide +kernel))) hini (hf _ (by decide +kernel)) hA, fun q hq => ?_, fun e he => va_Nw.of rfl (hts _ (hcs e he)), fun y hy => va_Nw.of rfl (hts _ (hdc y hy))⟩
  obtain ⟨h1, h2⟩ := hstr q hq
  obtain ⟨a, c, cell, k, h3, -⟩ := Cond.exactly_spec (hf _ h2)
  exact ⟨a, vk_R.of (hts _ h1) h3⟩
