-- small methods of the model
theorem t92_0 {M : mj_M} {K : mj_K} {x0 : Int32} {x1 : Int32} {x2 : Int32} (h : (x0 < x1 → K 0 0 M) ∧ (¬ x0 < x1 → (x2 < x0 → K 0 0 M) ∧ (¬ x2 < x0 → K 0 1 M))) : mj_W 1 92 1 0 [some (.int x0), some (.int x1), some (.int x2)] [] M 0 K := by
  refine b92_0 ?_
  refine ⟨fun c1 => ?_, fun c1 => ?_⟩
  · have h1a := h.1 c1
    refine b92_14 ?_
    refine b92_15 ?_
    rw [mj_nb0]
    exact h1a
  · have h1a := h.2 c1
    refine b92_5 ?_
    refine ⟨fun c2 => ?_, fun c2 => ?_⟩
    · have h2a := h1a.1 c2
      refine b92_14 ?_
      refine b92_15 ?_
      rw [mj_nb0]
      exact h2a
    · have h2a := h1a.2 c2
      refine b92_10 ?_
      refine b92_15 ?_
      rw [mj_nb1]
      exact h2a
theorem e92 {M : mj_M} {K : mj_K} {x0 : Int32} {x1 : Int32} {x2 : Int32} (h : (x0 < x1 → K 0 0 M) ∧ (¬ x0 < x1 → (x2 < x0 → K 0 0 M) ∧ (¬ x2 < x0 → K 0 1 M))) : mj_Cm 92 1 [.int x0, .int x1, .int x2] M K := mj_en rfl rfl rfl (t92_0 h)
abbrev p92 (M : mj_M) (x0 : Int32) (x1 : Int32) (x2 : Int32) : Prop := (¬ x0 < x1 ∧ (¬ x2 < x0))
theorem sp92 {M : mj_M} {K : mj_K} {x0 : Int32} {x1 : Int32} {x2 : Int32}  (h : K 0 (mj_bi (p92 M x0 x1 x2)) M) : mj_Cm 92 1 [.int x0, .int x1, .int x2] M K := by
  refine e92 ?_
  refine ⟨fun c1 => ?_, fun c1 => ?_⟩
  · exact (show (mj_bi (p92 M x0 x1 x2)) = 0 from mj_bi_f (show ¬ p92 M x0 x1 x2 from by unfold p92; simp only [eq_true c1, not_true, not_false_eq_true, and_self, and_true, true_and, and_false, false_and, or_true, true_or, or_false, false_or, or_self])) ▸ h
  · refine ⟨fun c2 => ?_, fun c2 => ?_⟩
    · exact (show (mj_bi (p92 M x0 x1 x2)) = 0 from mj_bi_f (show ¬ p92 M x0 x1 x2 from by unfold p92; simp only [eq_false c1, eq_true c2, not_true, not_false_eq_true, and_self, and_true, true_and, and_false, false_and, or_true, true_or, or_false, false_or, or_self])) ▸ h
    · exact (show (mj_bi (p92 M x0 x1 x2)) = 1 from mj_bi_t (show p92 M x0 x1 x2 from by unfold p92; simp only [eq_false c1, eq_false c2, not_true, not_false_eq_true, and_self, and_true, true_and, and_false, false_and, or_true, true_or, or_false, false_or, or_self])) ▸ h

theorem t94_0 {M : mj_M} {K : mj_K} {x1 : Int32} (h : K 0 (mj_bi (p92 M x1 0 (M 1 1238 - 1))) M) : mj_W 1 94 2 0 [some (.ref 0), some (.int x1)] [] M 0 K := by
  refine b94_0 ?_
  refine sp92  ?_
  refine b94_15 ?_
  rw [mj_nb_bi]
  exact h
theorem e94 {M : mj_M} {K : mj_K} {x1 : Int32} (h : K 0 (mj_bi (p92 M x1 0 (M 1 1238 - 1))) M) : mj_Cm 94 2 [.ref 0, .int x1] M K := mj_en rfl rfl rfl (t94_0 h)
abbrev p94 (M : mj_M) (x1 : Int32) : Prop := (p92 M x1 0 (M 1 1238 - 1))
theorem sp94 {M : mj_M} {K : mj_K} {x1 : Int32}  (h : K 0 (mj_bi (p94 M x1)) M) : mj_Cm 94 2 [.ref 0, .int x1] M K := by
  refine e94 ?_
  exact (show (mj_bi (p94 M x1)) = mj_bi (p92 M x1 0 (M 1 1238 - 1)) from mj_bi_c (show p94 M x1 ↔ p92 M x1 0 (M 1 1238 - 1) from by unfold p94; simp only [not_true, not_false_eq_true, and_self, and_true, true_and, and_false, false_and, or_true, true_or, or_false, false_or, or_self])) ▸ h

theorem t95_0 {M : mj_M} {K : mj_K} {x1 : Int32} (h : K 0 (mj_bi (p92 M x1 0 (M 1 1239 - 1))) M) : mj_W 1 95 2 0 [some (.ref 0), some (.int x1)] [] M 0 K := by
  refine b95_0 ?_
  refine sp92  ?_
  refine b95_15 ?_
  rw [mj_nb_bi]
  exact h
theorem e95 {M : mj_M} {K : mj_K} {x1 : Int32} (h : K 0 (mj_bi (p92 M x1 0 (M 1 1239 - 1))) M) : mj_Cm 95 2 [.ref 0, .int x1] M K := mj_en rfl rfl rfl (t95_0 h)
abbrev p95 (M : mj_M) (x1 : Int32) : Prop := (p92 M x1 0 (M 1 1239 - 1))
theorem sp95 {M : mj_M} {K : mj_K} {x1 : Int32}  (h : K 0 (mj_bi (p95 M x1)) M) : mj_Cm 95 2 [.ref 0, .int x1] M K := by
  refine e95 ?_
  exact (show (mj_bi (p95 M x1)) = mj_bi (p92 M x1 0 (M 1 1239 - 1)) from mj_bi_c (show p95 M x1 ↔ p92 M x1 0 (M 1 1239 - 1) from by unfold p95; simp only [not_true, not_false_eq_true, and_self, and_true, true_and, and_false, false_and, or_true, true_or, or_false, false_or, or_self])) ▸ h

theorem t96_0 {M : mj_M} {K : mj_K} {x1 : Int32} (h : K 0 (mj_bi (p92 M x1 0 (M 1 1240 - 1))) M) : mj_W 1 96 2 0 [some (.ref 0), some (.int x1)] [] M 0 K := by
  refine b96_0 ?_
  refine sp92  ?_
  refine b96_15 ?_
  rw [mj_nb_bi]
  exact h
theorem e96 {M : mj_M} {K : mj_K} {x1 : Int32} (h : K 0 (mj_bi (p92 M x1 0 (M 1 1240 - 1))) M) : mj_Cm 96 2 [.ref 0, .int x1] M K := mj_en rfl rfl rfl (t96_0 h)
abbrev p96 (M : mj_M) (x1 : Int32) : Prop := (p92 M x1 0 (M 1 1240 - 1))
theorem sp96 {M : mj_M} {K : mj_K} {x1 : Int32}  (h : K 0 (mj_bi (p96 M x1)) M) : mj_Cm 96 2 [.ref 0, .int x1] M K := by
  refine e96 ?_
  exact (show (mj_bi (p96 M x1)) = mj_bi (p92 M x1 0 (M 1 1240 - 1)) from mj_bi_c (show p96 M x1 ↔ p92 M x1 0 (M 1 1240 - 1) from by unfold p96; simp only [not_true, not_false_eq_true, and_self, and_true, true_and, and_false, false_and, or_true, true_or, or_false, false_or, or_self])) ▸ h

theorem t97_0 {M : mj_M} {K : mj_K} {x1 : Int32} {x2 : Int32} (h : vp_in (11 * x1 + x2) 1242 ∧ K 0 (M 1 ((11 * x1 + x2).toNatClampNeg)) M) : mj_W 1 97 1 0 [some (.ref 0), some (.int x1), some (.int x2)] [] M 0 K := by
  refine b97_0 ?_
  have g1 := h.1
  refine ⟨g1, ?_⟩
  have h1 := h.2
  exact h1
theorem e97 {M : mj_M} {K : mj_K} {x1 : Int32} {x2 : Int32} (h : vp_in (11 * x1 + x2) 1242 ∧ K 0 (M 1 ((11 * x1 + x2).toNatClampNeg)) M) : mj_Cm 97 1 [.ref 0, .int x1, .int x2] M K := mj_en rfl rfl rfl (t97_0 h)

theorem sp97 {M : mj_M} {K : mj_K} {x1 x2 : Int32} (q0 : vp_in (11 * x1 + x2) 1242) (h : K 0 (M 1 (11 * x1 + x2).toNatClampNeg) M) : mj_Cm 97 1 [.ref 0, .int x1, .int x2] M K := e97 ⟨q0, h⟩

theorem t98_0 {M : mj_M} {K : mj_K} {x1 : Int32} {x2 : Int32} (h : vp_in (5 * x1 + x2) 1242 ∧ K 0 (M 1 ((5 * x1 + x2).toNatClampNeg)) M) : mj_W 1 98 1 0 [some (.ref 0), some (.int x1), some (.int x2)] [] M 0 K := by
  refine b98_0 ?_
  have g1 := h.1
  refine ⟨g1, ?_⟩
  have h1 := h.2
  exact h1
theorem e98 {M : mj_M} {K : mj_K} {x1 : Int32} {x2 : Int32} (h : vp_in (5 * x1 + x2) 1242 ∧ K 0 (M 1 ((5 * x1 + x2).toNatClampNeg)) M) : mj_Cm 98 1 [.ref 0, .int x1, .int x2] M K := mj_en rfl rfl rfl (t98_0 h)

theorem sp98 {M : mj_M} {K : mj_K} {x1 x2 : Int32} (q0 : vp_in (5 * x1 + x2) 1242) (h : K 0 (M 1 (5 * x1 + x2).toNatClampNeg) M) : mj_Cm 98 1 [.ref 0, .int x1, .int x2] M K := e98 ⟨q0, h⟩

theorem t99_0 {M : mj_M} {K : mj_K} {x1 : Int32} {x2 : Int32} (h : vp_in (8 * x1 + x2) 1242 ∧ K 0 (M 1 ((8 * x1 + x2).toNatClampNeg)) M) : mj_W 1 99 1 0 [some (.ref 0), some (.int x1), some (.int x2)] [] M 0 K := by
  refine b99_0 ?_
  have g1 := h.1
  refine ⟨g1, ?_⟩
  have h1 := h.2
  exact h1
theorem e99 {M : mj_M} {K : mj_K} {x1 : Int32} {x2 : Int32} (h : vp_in (8 * x1 + x2) 1242 ∧ K 0 (M 1 ((8 * x1 + x2).toNatClampNeg)) M) : mj_Cm 99 1 [.ref 0, .int x1, .int x2] M K := mj_en rfl rfl rfl (t99_0 h)

theorem sp99 {M : mj_M} {K : mj_K} {x1 x2 : Int32} (q0 : vp_in (8 * x1 + x2) 1242) (h : K 0 (M 1 (8 * x1 + x2).toNatClampNeg) M) : mj_Cm 99 1 [.ref 0, .int x1, .int x2] M K := e99 ⟨q0, h⟩

theorem t121_0 {M : mj_M} {K : mj_K} {x0 : Int32} {x1 : Int32} (h : (x1 ≤ x0 → K 0 x1 M) ∧ (¬ x1 ≤ x0 → K 0 x0 M)) : mj_W 1 121 1 0 [some (.int x0), some (.int x1)] [] M 0 K := by
  refine b121_0 ?_
  refine ⟨fun c1 => ?_, fun c1 => ?_⟩
  · have h1a := h.1 c1
    refine b121_9 ?_
    refine b121_10 ?_
    exact h1a
  · have h1a := h.2 c1
    refine b121_5 ?_
    refine b121_10 ?_
    exact h1a
theorem e121 {M : mj_M} {K : mj_K} {x0 : Int32} {x1 : Int32} (h : (x1 ≤ x0 → K 0 x1 M) ∧ (¬ x1 ≤ x0 → K 0 x0 M)) : mj_Cm 121 1 [.int x0, .int x1] M K := mj_en rfl rfl rfl (t121_0 h)
def f121 (M : mj_M) (x0 : Int32) (x1 : Int32) : Int32 := if x1 ≤ x0 then x1 else x0
theorem sp121 {M : mj_M} {K : mj_K} {x0 : Int32} {x1 : Int32}  (h : K 0 (f121 M x0 x1) M) : mj_Cm 121 1 [.int x0, .int x1] M K := by
  refine e121 ?_
  refine ⟨fun c1 => ?_, fun c1 => ?_⟩
  · exact (show f121 M x0 x1 = x1 from by unfold f121; rw [if_pos c1]) ▸ h
  · exact (show f121 M x0 x1 = x0 from by unfold f121; rw [if_neg c1]) ▸ h

