-- trees of blocks: what remains of a method from a start
theorem t1_0 {M : mj_M} {K : mj_K} {x1 : Int32} {x2 : Int32} (h : (M 1 0 < 10 → vp_in (M 1 0) 10 ∧ K 0 (M 1 0) (mj_u (mj_u (mj_u M 2 ((M 1 0).toNatClampNeg) x1) 3 ((M 1 0).toNatClampNeg) x2) 1 0 (M 1 0 + 1))) ∧ (¬ M 1 0 < 10 → K 0 (-1) M)) : mj_W 0 1 1 0 [some (.ref 1), some (.int x1), some (.int x2), none] [] M 0 K := by
  refine b1_0 ?_
  refine ⟨fun c1 => ?_, fun c1 => ?_⟩
  · have h1a := h.1 c1
    refine b1_13 ?_
    have g2 := h1a.1
    refine ⟨g2, ?_⟩
    have h2 := h1a.2
    exact h2
  · have h1a := h.2 c1
    refine b1_11 ?_
    exact h1a
theorem e1 {M : mj_M} {K : mj_K} {x1 : Int32} {x2 : Int32} (h : (M 1 0 < 10 → vp_in (M 1 0) 10 ∧ K 0 (M 1 0) (mj_u (mj_u (mj_u M 2 ((M 1 0).toNatClampNeg) x1) 3 ((M 1 0).toNatClampNeg) x2) 1 0 (M 1 0 + 1))) ∧ (¬ M 1 0 < 10 → K 0 (-1) M)) : mj_Cm 1 1 [.ref 1, .int x1, .int x2] M K := mj_en rfl rfl rfl (t1_0 h)

theorem t5_0 {M : mj_M} {K : mj_K}  (h : mj_W 0 5 3 2 [some (.ref 1), some (.int 0), none] [] M 0 K) : mj_W 0 5 3 0 [some (.ref 1), none, none] [] M 0 K := by
  refine b5_0 ?_
  exact h
theorem e5 {M : mj_M} {K : mj_K}  (h : mj_W 0 5 3 2 [some (.ref 1), some (.int 0), none] [] M 0 K) : mj_Cm 5 3 [.ref 1] M K := mj_en rfl rfl rfl (t5_0 h)

theorem t5_2 {M : mj_M} {K : mj_K} {x1 : Int32} {o2 : Option Value} (h : (M 1 0 ≤ x1 → K 0 0 M) ∧ (¬ M 1 0 ≤ x1 → vp_in x1 10 ∧ ((M 2 x1.toNatClampNeg = 0 → mj_W 0 5 3 2 [some (.ref 1), some (.int (x1 + 1)), o2] [] M 0 K) ∧ (¬ M 2 x1.toNatClampNeg = 0 → (M 1 0).toInt ≤ ((10 : Nat) : Int) ∧ ((M 7 x1.toNatClampNeg = 0 → (10 * f3 M x1 < 9 * M 3 x1.toNatClampNeg → mj_W 0 5 3 2 [some (.ref 1), some (.int (x1 + 1)), some (.int (10 * f3 M x1))] [] (mj_u M 7 x1.toNatClampNeg (mj_nb 0)) 0 K) ∧ (¬ 10 * f3 M x1 < 9 * M 3 x1.toNatClampNeg → mj_W 0 5 3 2 [some (.ref 1), some (.int (x1 + 1)), some (.int (10 * f3 M x1))] [] (mj_u M 7 x1.toNatClampNeg (mj_nb 1)) 0 K)) ∧ (¬ M 7 x1.toNatClampNeg = 0 → (10 * f3 M x1 ≤ 7 * M 3 x1.toNatClampNeg → mj_W 0 5 3 2 [some (.ref 1), some (.int (x1 + 1)), some (.int (10 * f3 M x1))] [] (mj_u M 7 x1.toNatClampNeg (mj_nb 0)) 0 K) ∧ (¬ 10 * f3 M x1 ≤ 7 * M 3 x1.toNatClampNeg → mj_W 0 5 3 2 [some (.ref 1), some (.int (x1 + 1)), some (.int (10 * f3 M x1))] [] (mj_u M 7 x1.toNatClampNeg (mj_nb 1)) 0 K))))))) : mj_W 0 5 3 2 [some (.ref 1), some (.int x1), o2] [] M 0 K := by
  refine b5_2 ?_
  refine ⟨fun c1 => ?_, fun c1 => ?_⟩
  · have h1a := h.1 c1
    refine b5_88 ?_
    exact h1a
  · have h1a := h.2 c1
    refine b5_10 ?_
    have g2 := h1a.1
    refine ⟨g2, ?_⟩
    have h2 := h1a.2
    refine ⟨fun c3 => ?_, fun c3 => ?_⟩
    · have h3a := h2.1 c3
      refine b5_82 ?_
      exact h3a
    · have h3a := h2.2 c3
      refine b5_19 ?_
      have h4 := h3a.1
      have h5 := h3a.2
      refine sp3 h4 ?_
      refine b5_26 ?_
      refine ⟨g2, ?_⟩
      refine ⟨fun c6 => ?_, fun c6 => ?_⟩
      · have h6a := h5.1 c6
        refine b5_63 ?_
        refine ⟨g2, ?_⟩
        refine ⟨fun c7 => ?_, fun c7 => ?_⟩
        · have h7a := h6a.1 c7
          refine b5_80 ?_
          refine b5_81 ?_
          refine ⟨g2, ?_⟩
          refine b5_82 ?_
          exact h7a
        · have h7a := h6a.2 c7
          refine b5_76 ?_
          refine b5_81 ?_
          refine ⟨g2, ?_⟩
          refine b5_82 ?_
          exact h7a
      · have h6a := h5.2 c6
        refine b5_42 ?_
        refine ⟨g2, ?_⟩
        refine ⟨fun c8 => ?_, fun c8 => ?_⟩
        · have h8a := h6a.1 c8
          refine b5_59 ?_
          refine b5_81 ?_
          refine ⟨g2, ?_⟩
          refine b5_82 ?_
          exact h8a
        · have h8a := h6a.2 c8
          refine b5_55 ?_
          refine b5_81 ?_
          refine ⟨g2, ?_⟩
          refine b5_82 ?_
          exact h8a

theorem t8_0 {M : mj_M} {K : mj_K} {x1 : Int32} {x2 : Int32} {x3 : Int32} {x4 : Int32} {x5 : Int32} (h : (M 8 0 < 14 → vp_in (M 8 0) 14 ∧ K 0 (M 8 0) (mj_u (mj_u (mj_u (mj_u (mj_u (mj_u M 9 ((M 8 0).toNatClampNeg) x1) 10 ((M 8 0).toNatClampNeg) x2) 11 ((M 8 0).toNatClampNeg) x3) 12 ((M 8 0).toNatClampNeg) x4) 13 ((M 8 0).toNatClampNeg) x5) 8 0 (M 8 0 + 1))) ∧ (¬ M 8 0 < 14 → K 0 (-1) M)) : mj_W 0 8 1 0 [some (.ref 8), some (.int x1), some (.int x2), some (.int x3), some (.int x4), some (.int x5), none] [] M 0 K := by
  refine b8_0 ?_
  refine ⟨fun c1 => ?_, fun c1 => ?_⟩
  · have h1a := h.1 c1
    refine b8_15 ?_
    have g2 := h1a.1
    refine ⟨g2, ?_⟩
    have h2 := h1a.2
    exact h2
  · have h1a := h.2 c1
    refine b8_13 ?_
    exact h1a
theorem e8 {M : mj_M} {K : mj_K} {x1 : Int32} {x2 : Int32} {x3 : Int32} {x4 : Int32} {x5 : Int32} (h : (M 8 0 < 14 → vp_in (M 8 0) 14 ∧ K 0 (M 8 0) (mj_u (mj_u (mj_u (mj_u (mj_u (mj_u M 9 ((M 8 0).toNatClampNeg) x1) 10 ((M 8 0).toNatClampNeg) x2) 11 ((M 8 0).toNatClampNeg) x3) 12 ((M 8 0).toNatClampNeg) x4) 13 ((M 8 0).toNatClampNeg) x5) 8 0 (M 8 0 + 1))) ∧ (¬ M 8 0 < 14 → K 0 (-1) M)) : mj_Cm 8 1 [.ref 8, .int x1, .int x2, .int x3, .int x4, .int x5] M K := mj_en rfl rfl rfl (t8_0 h)

theorem t9_0 {M : mj_M} {K : mj_K}  (h : mj_W 0 9 1 4 [some (.ref 8), some (.int 0), some (.int 0)] [] M 0 K) : mj_W 0 9 1 0 [some (.ref 8), none, none] [] M 0 K := by
  refine b9_0 ?_
  exact h
theorem e9 {M : mj_M} {K : mj_K}  (h : mj_W 0 9 1 4 [some (.ref 8), some (.int 0), some (.int 0)] [] M 0 K) : mj_Cm 9 1 [.ref 8] M K := mj_en rfl rfl rfl (t9_0 h)

theorem t9_4 {M : mj_M} {K : mj_K} {x1 : Int32} {x2 : Int32} (h : (M 8 0 ≤ x2 → K 0 x1 M) ∧ (¬ M 8 0 ≤ x2 → vp_in x2 14 ∧ ((M 16 x2.toNatClampNeg = 0 → mj_W 0 9 1 4 [some (.ref 8), some (.int (x1 + 0)), some (.int (x2 + 1))] [] (mj_u M 17 x2.toNatClampNeg (mj_nb (M 16 x2.toNatClampNeg))) 0 K) ∧ (¬ M 16 x2.toNatClampNeg = 0 → mj_W 0 9 1 4 [some (.ref 8), some (.int (x1 + 1)), some (.int (x2 + 1))] [] (mj_u M 17 x2.toNatClampNeg (mj_nb (M 16 x2.toNatClampNeg))) 0 K)))) : mj_W 0 9 1 4 [some (.ref 8), some (.int x1), some (.int x2)] [] M 0 K := by
  refine b9_4 ?_
  refine ⟨fun c1 => ?_, fun c1 => ?_⟩
  · have h1a := h.1 c1
    refine b9_47 ?_
    exact h1a
  · have h1a := h.2 c1
    refine b9_12 ?_
    have g2 := h1a.1
    refine ⟨g2, ?_⟩
    have h2 := h1a.2
    refine ⟨fun c3 => ?_, fun c3 => ?_⟩
    · have h3a := h2.1 c3
      refine b9_38 ?_
      refine b9_39 ?_
      exact h3a
    · have h3a := h2.2 c3
      refine b9_34 ?_
      refine b9_39 ?_
      exact h3a

theorem t19_0 {M : mj_M} {K : mj_K} {x1 : Int32} {x2 : Int32} {x3 : Int32} {x4 : Int32} {x5 : Int32} (h : (M 20 0 < 120 → vp_in (M 20 0) 120 ∧ K 0 (M 20 0) (mj_u (mj_u (mj_u (mj_u (mj_u (mj_u (mj_u M 21 ((M 20 0).toNatClampNeg) 0) 22 ((M 20 0).toNatClampNeg) x1) 23 ((M 20 0).toNatClampNeg) x2) 24 ((M 20 0).toNatClampNeg) x3) 25 ((M 20 0).toNatClampNeg) x4) 26 ((M 20 0).toNatClampNeg) x5) 20 0 (M 20 0 + 1))) ∧ (¬ M 20 0 < 120 → K 0 (-1) M)) : mj_W 0 19 1 0 [some (.ref 20), some (.int x1), some (.int x2), some (.int x3), some (.int x4), some (.int x5), none] [] M 0 K := by
  refine b19_0 ?_
  refine ⟨fun c1 => ?_, fun c1 => ?_⟩
  · have h1a := h.1 c1
    refine b19_15 ?_
    have g2 := h1a.1
    refine ⟨g2, ?_⟩
    have h2 := h1a.2
    exact h2
  · have h1a := h.2 c1
    refine b19_13 ?_
    exact h1a
theorem e19 {M : mj_M} {K : mj_K} {x1 : Int32} {x2 : Int32} {x3 : Int32} {x4 : Int32} {x5 : Int32} (h : (M 20 0 < 120 → vp_in (M 20 0) 120 ∧ K 0 (M 20 0) (mj_u (mj_u (mj_u (mj_u (mj_u (mj_u (mj_u M 21 ((M 20 0).toNatClampNeg) 0) 22 ((M 20 0).toNatClampNeg) x1) 23 ((M 20 0).toNatClampNeg) x2) 24 ((M 20 0).toNatClampNeg) x3) 25 ((M 20 0).toNatClampNeg) x4) 26 ((M 20 0).toNatClampNeg) x5) 20 0 (M 20 0 + 1))) ∧ (¬ M 20 0 < 120 → K 0 (-1) M)) : mj_Cm 19 1 [.ref 20, .int x1, .int x2, .int x3, .int x4, .int x5] M K := mj_en rfl rfl rfl (t19_0 h)

theorem t23_0 {M : mj_M} {K : mj_K}  (h : mj_W 0 23 3 2 [some (.ref 20), some (.int 0)] [] M 0 K) : mj_W 0 23 3 0 [some (.ref 20), none] [] M 0 K := by
  refine b23_0 ?_
  exact h
theorem e23 {M : mj_M} {K : mj_K}  (h : mj_W 0 23 3 2 [some (.ref 20), some (.int 0)] [] M 0 K) : mj_Cm 23 3 [.ref 20] M K := mj_en rfl rfl rfl (t23_0 h)

theorem t23_2 {M : mj_M} {K : mj_K} {x1 : Int32} (h : (M 20 0 ≤ x1 → K 0 0 M) ∧ (¬ M 20 0 ≤ x1 → (M 20 0).toInt ≤ ((120 : Nat) : Int) ∧ ((¬ (p21 M x1) → mj_W 0 23 3 2 [some (.ref 20), some (.int (x1 + 1))] [] M 0 K) ∧ ((p21 M x1) → K 0 1 M)))) : mj_W 0 23 3 2 [some (.ref 20), some (.int x1)] [] M 0 K := by
  refine b23_2 ?_
  refine ⟨fun c1 => ?_, fun c1 => ?_⟩
  · have h1a := h.1 c1
    refine b23_26 ?_
    rw [mj_nb0]
    exact h1a
  · have h1a := h.2 c1
    refine b23_10 ?_
    have h2 := h1a.1
    have h3 := h1a.2
    refine sp21 h2 ?_
    refine b23_15 ?_
    refine ⟨fun c4 => ?_, fun c4 => ?_⟩
    · have h4a := h3.1 (mj_bi0.mp c4)
      refine b23_20 ?_
      exact h4a
    · have h4a := h3.2 (mj_bi1.mp c4)
      refine b23_18 ?_
      rw [mj_nb1]
      exact h4a

theorem t24_0 {M : mj_M} {K : mj_K} {x1 : Int32} (h : mj_W 0 24 3 4 [some (.ref 20), some (.int x1), some (.int (-1)), some (.int 0), none] [] M 0 K) : mj_W 0 24 3 0 [some (.ref 20), some (.int x1), none, none, none] [] M 0 K := by
  refine b24_0 ?_
  exact h
theorem e24 {M : mj_M} {K : mj_K} {x1 : Int32} (h : mj_W 0 24 3 4 [some (.ref 20), some (.int x1), some (.int (-1)), some (.int 0), none] [] M 0 K) : mj_Cm 24 3 [.ref 20, .int x1] M K := mj_en rfl rfl rfl (t24_0 h)

theorem t24_4 {M : mj_M} {K : mj_K} {x1 : Int32} {x2 : Int32} {x3 : Int32} {o4 : Option Value} (h : (M 20 0 ≤ x3 → K 0 x2 M) ∧ (¬ M 20 0 ≤ x3 → (M 20 0).toInt ≤ ((120 : Nat) : Int) ∧ ((¬ (p20 M x3) → mj_W 0 24 3 4 [some (.ref 20), some (.int x1), some (.int x2), some (.int (x3 + 1)), some (.int 0)] [] M 0 K) ∧ ((p20 M x3) → vp_in x3 120 ∧ ((M 27 x3.toNatClampNeg = 0 → mj_W 0 24 3 4 [some (.ref 20), some (.int x1), some (.int x2), some (.int (x3 + 1)), some (.int 0)] [] M 0 K) ∧ (¬ M 27 x3.toNatClampNeg = 0 → (¬ M 22 x3.toNatClampNeg = x1 → mj_W 0 24 3 4 [some (.ref 20), some (.int x1), some (.int x2), some (.int (x3 + 1)), some (.int 0)] [] M 0 K) ∧ (M 22 x3.toNatClampNeg = x1 → (¬ M 23 x3.toNatClampNeg = x1 → mj_W 0 24 3 4 [some (.ref 20), some (.int x1), some (.int x2), some (.int (x3 + 1)), some (.int 0)] [] M 0 K) ∧ (M 23 x3.toNatClampNeg = x1 → (x2 = (-1) → mj_W 0 24 3 4 [some (.ref 20), some (.int x1), some (.int x3), some (.int (x3 + 1)), some (.int 1)] [] M 0 K) ∧ (¬ x2 = (-1) → vp_in x2 120 ∧ ((M 26 x2.toNatClampNeg ≤ M 26 x3.toNatClampNeg → mj_W 0 24 3 4 [some (.ref 20), some (.int x1), some (.int x2), some (.int (x3 + 1)), some (.int 1)] [] M 0 K) ∧ (¬ M 26 x2.toNatClampNeg ≤ M 26 x3.toNatClampNeg → mj_W 0 24 3 4 [some (.ref 20), some (.int x1), some (.int x3), some (.int (x3 + 1)), some (.int 1)] [] M 0 K))))))))))) : mj_W 0 24 3 4 [some (.ref 20), some (.int x1), some (.int x2), some (.int x3), o4] [] M 0 K := by
  refine b24_4 ?_
  refine ⟨fun c1 => ?_, fun c1 => ?_⟩
  · have h1a := h.1 c1
    refine b24_89 ?_
    exact h1a
  · have h1a := h.2 c1
    refine b24_12 ?_
    have h2 := h1a.1
    have h3 := h1a.2
    refine sp20 h2 ?_
    refine b24_17 ?_
    refine ⟨fun c4 => ?_, fun c4 => ?_⟩
    · have h4a := h3.1 (mj_bi0.mp c4)
      refine b24_53 ?_
      refine b24_54 ?_
      refine ⟨fun _ => ?_, fun c => absurd c (by decide)⟩
      · refine b24_83 ?_
        exact h4a
    · have h4a := h3.2 (mj_bi1.mp c4)
      refine b24_20 ?_
      have g5 := h4a.1
      refine ⟨g5, ?_⟩
      have h5 := h4a.2
      refine ⟨fun c6 => ?_, fun c6 => ?_⟩
      · have h6a := h5.1 c6
        refine b24_53 ?_
        refine b24_54 ?_
        refine ⟨fun _ => ?_, fun c => absurd c (by decide)⟩
        · refine b24_83 ?_
          exact h6a
      · have h6a := h5.2 c6
        refine b24_29 ?_
        refine ⟨g5, ?_⟩
        refine ⟨fun c7 => ?_, fun c7 => ?_⟩
        · have h7a := h6a.1 c7
          refine b24_53 ?_
          refine b24_54 ?_
          refine ⟨fun _ => ?_, fun c => absurd c (by decide)⟩
          · refine b24_83 ?_
            exact h7a
        · have h7a := h6a.2 c7
          refine b24_39 ?_
          refine ⟨g5, ?_⟩
          refine ⟨fun c8 => ?_, fun c8 => ?_⟩
          · have h8a := h7a.1 c8
            refine b24_53 ?_
            refine b24_54 ?_
            refine ⟨fun _ => ?_, fun c => absurd c (by decide)⟩
            · refine b24_83 ?_
              exact h8a
          · have h8a := h7a.2 c8
            refine b24_49 ?_
            refine b24_54 ?_
            refine ⟨fun c => absurd c (by decide), fun _ => ?_⟩
            · refine b24_61 ?_
              refine ⟨fun c9 => ?_, fun c9 => ?_⟩
              · have h9a := h8a.1 c9
                refine b24_81 ?_
                refine b24_83 ?_
                exact h9a
              · have h9a := h8a.2 c9
                refine b24_66 ?_
                refine ⟨g5, ?_⟩
                have g10 := h9a.1
                refine ⟨g10, ?_⟩
                have h10 := h9a.2
                refine ⟨fun c11 => ?_, fun c11 => ?_⟩
                · have h11a := h10.1 c11
                  refine b24_83 ?_
                  exact h11a
                · have h11a := h10.2 c11
                  refine b24_81 ?_
                  refine b24_83 ?_
                  exact h11a

theorem t28_0 {M : mj_M} {K : mj_K} {x1 : Int32} {x2 : Int32} {x3 : Int32} {x4 : Int32} (h : (M 28 0 < 12 → vp_in (M 28 0) 12 ∧ K 0 (M 28 0) (mj_u (mj_u (mj_u (mj_u (mj_u M 29 ((M 28 0).toNatClampNeg) x1) 34 ((M 28 0).toNatClampNeg) x2) 30 ((M 28 0).toNatClampNeg) x3) 31 ((M 28 0).toNatClampNeg) x4) 28 0 (M 28 0 + 1))) ∧ (¬ M 28 0 < 12 → K 0 (-1) M)) : mj_W 0 28 1 0 [some (.ref 28), some (.int x1), some (.int x2), some (.int x3), some (.int x4), none] [] M 0 K := by
  refine b28_0 ?_
  refine ⟨fun c1 => ?_, fun c1 => ?_⟩
  · have h1a := h.1 c1
    refine b28_15 ?_
    have g2 := h1a.1
    refine ⟨g2, ?_⟩
    have h2 := h1a.2
    exact h2
  · have h1a := h.2 c1
    refine b28_13 ?_
    exact h1a
theorem e28 {M : mj_M} {K : mj_K} {x1 : Int32} {x2 : Int32} {x3 : Int32} {x4 : Int32} (h : (M 28 0 < 12 → vp_in (M 28 0) 12 ∧ K 0 (M 28 0) (mj_u (mj_u (mj_u (mj_u (mj_u M 29 ((M 28 0).toNatClampNeg) x1) 34 ((M 28 0).toNatClampNeg) x2) 30 ((M 28 0).toNatClampNeg) x3) 31 ((M 28 0).toNatClampNeg) x4) 28 0 (M 28 0 + 1))) ∧ (¬ M 28 0 < 12 → K 0 (-1) M)) : mj_Cm 28 1 [.ref 28, .int x1, .int x2, .int x3, .int x4] M K := mj_en rfl rfl rfl (t28_0 h)

theorem t30_0 {M : mj_M} {K : mj_K} {x1 : Int32} (h : mj_W 0 30 3 2 [some (.ref 28), some (.int x1), some (.int 0)] [] M 0 K) : mj_W 0 30 3 0 [some (.ref 28), some (.int x1), none] [] M 0 K := by
  refine b30_0 ?_
  exact h
theorem e30 {M : mj_M} {K : mj_K} {x1 : Int32} (h : mj_W 0 30 3 2 [some (.ref 28), some (.int x1), some (.int 0)] [] M 0 K) : mj_Cm 30 3 [.ref 28, .int x1] M K := mj_en rfl rfl rfl (t30_0 h)

theorem t30_2 {M : mj_M} {K : mj_K} {x1 : Int32} {x2 : Int32} (h : (M 28 0 ≤ x2 → K 0 0 M) ∧ (¬ M 28 0 ≤ x2 → (M 28 0).toInt ≤ ((12 : Nat) : Int) ∧ ((¬ (p29 M x2) → mj_W 0 30 3 2 [some (.ref 28), some (.int x1), some (.int (x2 + 1))] [] M 0 K) ∧ ((p29 M x2) → vp_in x2 12 ∧ ((¬ M 29 x2.toNatClampNeg = x1 → mj_W 0 30 3 2 [some (.ref 28), some (.int x1), some (.int (x2 + 1))] [] M 0 K) ∧ (M 29 x2.toNatClampNeg = x1 → K 0 1 M)))))) : mj_W 0 30 3 2 [some (.ref 28), some (.int x1), some (.int x2)] [] M 0 K := by
  refine b30_2 ?_
  refine ⟨fun c1 => ?_, fun c1 => ?_⟩
  · have h1a := h.1 c1
    refine b30_36 ?_
    rw [mj_nb0]
    exact h1a
  · have h1a := h.2 c1
    refine b30_10 ?_
    have h2 := h1a.1
    have h3 := h1a.2
    refine sp29 h2 ?_
    refine b30_15 ?_
    refine ⟨fun c4 => ?_, fun c4 => ?_⟩
    · have h4a := h3.1 (mj_bi0.mp c4)
      refine b30_30 ?_
      exact h4a
    · have h4a := h3.2 (mj_bi1.mp c4)
      refine b30_18 ?_
      have g5 := h4a.1
      refine ⟨g5, ?_⟩
      have h5 := h4a.2
      refine ⟨fun c6 => ?_, fun c6 => ?_⟩
      · have h6a := h5.1 c6
        refine b30_30 ?_
        exact h6a
      · have h6a := h5.2 c6
        refine b30_28 ?_
        rw [mj_nb1]
        exact h6a

theorem t32_0 {M : mj_M} {K : mj_K} {x1 : Int32} {x2 : Int32} {x3 : Int32} (h : (f35 M x1 x2 x3 = (-1) → K 0 (-1) M) ∧ (¬ f35 M x1 x2 x3 = (-1) → vp_in (f35 M x1 x2 x3) 400 ∧ ((M 36 ((f35 M x1 x2 x3).toNatClampNeg) < 1000 → K 0 (M 36 ((f35 M x1 x2 x3).toNatClampNeg)) M) ∧ (¬ M 36 ((f35 M x1 x2 x3).toNatClampNeg) < 1000 → K 0 (-1) M)))) : mj_W 0 32 2 0 [some (.ref 35), some (.int x1), some (.int x2), some (.int x3), none] [] M 0 K := by
  refine b32_0 ?_
  refine sp35  ?_
  refine b32_6 ?_
  refine ⟨fun c1 => ?_, fun c1 => ?_⟩
  · have h1a := h.1 c1
    refine b32_27 ?_
    refine b32_38 ?_
    exact h1a
  · have h1a := h.2 c1
    refine b32_14 ?_
    have g2 := h1a.1
    refine ⟨g2, ?_⟩
    have h2 := h1a.2
    refine ⟨fun c3 => ?_, fun c3 => ?_⟩
    · have h3a := h2.1 c3
      refine b32_31 ?_
      refine ⟨g2, ?_⟩
      refine b32_38 ?_
      exact h3a
    · have h3a := h2.2 c3
      refine b32_27 ?_
      refine b32_38 ?_
      exact h3a
theorem e32 {M : mj_M} {K : mj_K} {x1 : Int32} {x2 : Int32} {x3 : Int32} (h : (f35 M x1 x2 x3 = (-1) → K 0 (-1) M) ∧ (¬ f35 M x1 x2 x3 = (-1) → vp_in (f35 M x1 x2 x3) 400 ∧ ((M 36 ((f35 M x1 x2 x3).toNatClampNeg) < 1000 → K 0 (M 36 ((f35 M x1 x2 x3).toNatClampNeg)) M) ∧ (¬ M 36 ((f35 M x1 x2 x3).toNatClampNeg) < 1000 → K 0 (-1) M)))) : mj_Cm 32 2 [.ref 35, .int x1, .int x2, .int x3] M K := mj_en rfl rfl rfl (t32_0 h)

theorem t33_0 {M : mj_M} {K : mj_K} {x1 : Int32} {x2 : Int32} {x3 : Int32} (h : (¬ f35 M x1 x2 x3 = (-1) → vp_in (f35 M x1 x2 x3) 400 ∧ K 0 (M 37 ((f35 M x1 x2 x3).toNatClampNeg)) M) ∧ (f35 M x1 x2 x3 = (-1) → K 0 (-1) M)) : mj_W 0 33 2 0 [some (.ref 35), some (.int x1), some (.int x2), some (.int x3), none] [] M 0 K := by
  refine b33_0 ?_
  refine sp35  ?_
  refine b33_6 ?_
  refine ⟨fun c1 => ?_, fun c1 => ?_⟩
  · have h1a := h.1 c1
    refine b33_18 ?_
    have g2 := h1a.1
    refine ⟨g2, ?_⟩
    have h2 := h1a.2
    refine b33_25 ?_
    exact h2
  · have h1a := h.2 c1
    refine b33_14 ?_
    refine b33_25 ?_
    exact h1a
theorem e33 {M : mj_M} {K : mj_K} {x1 : Int32} {x2 : Int32} {x3 : Int32} (h : (¬ f35 M x1 x2 x3 = (-1) → vp_in (f35 M x1 x2 x3) 400 ∧ K 0 (M 37 ((f35 M x1 x2 x3).toNatClampNeg)) M) ∧ (f35 M x1 x2 x3 = (-1) → K 0 (-1) M)) : mj_Cm 33 2 [.ref 35, .int x1, .int x2, .int x3] M K := mj_en rfl rfl rfl (t33_0 h)

theorem t34_0 {M : mj_M} {K : mj_K} {x1 : Int32} (h : mj_W 0 34 4 10 [some (.ref 35), some (.int x1), some (.ref 8), some (.int (if 10 < x1 then 10 else x1)), some (.int 0), none] [] M 0 K) : mj_W 0 34 4 0 [some (.ref 35), some (.int x1), some (.ref 8), none, none, none] [] M 0 K := by
  refine b34_0 ?_
  exact h
theorem e34 {M : mj_M} {K : mj_K} {x1 : Int32} (h : mj_W 0 34 4 10 [some (.ref 35), some (.int x1), some (.ref 8), some (.int (if 10 < x1 then 10 else x1)), some (.int 0), none] [] M 0 K) : mj_Cm 34 4 [.ref 35, .int x1, .ref 8] M K := mj_en rfl rfl rfl (t34_0 h)

theorem t34_10 {M : mj_M} {K : mj_K} {x1 : Int32} {x3 : Int32} {x4 : Int32} {o5 : Option Value} (h : (4 ≤ x4 → K 0 0 M) ∧ (¬ 4 ≤ x4 → mj_Cm 36 1 [.ref 35, .int x4] M (mj_k 0 34 4 22 [some (.ref 35), some (.int x1), some (.ref 8), some (.int x3), some (.int x4), o5] [] 0 none K))) : mj_W 0 34 4 10 [some (.ref 35), some (.int x1), some (.ref 8), some (.int x3), some (.int x4), o5] [] M 0 K := by
  refine b34_10 ?_
  refine ⟨fun c1 => ?_, fun c1 => ?_⟩
  · have h1a := h.1 c1
    refine b34_141 ?_
    exact h1a
  · have h1a := h.2 c1
    refine b34_16 ?_
    exact h1a

theorem t34_25 {M : mj_M} {K : mj_K} {x1 : Int32} {x3 : Int32} {x4 : Int32} {x5 : Int32} (h : (M 8 0 ≤ x5 → mj_Cm 38 1 [.ref 35, .int (x4 * 10 * 10), .int x3] M (mj_k 0 34 4 85 [some (.ref 35), some (.int x1), some (.ref 8), some (.int x3), some (.int x4), some (.int x5)] [] 0 none K)) ∧ (¬ M 8 0 ≤ x5 → vp_in x5 14 ∧ mj_Cm 37 3 [.ref 35, .int x4, .int x5, .int (M 10 x5.toNatClampNeg), .ref 8] M (mj_k 0 34 4 50 [some (.ref 35), some (.int x1), some (.ref 8), some (.int x3), some (.int x4), some (.int x5)] [] 0 none K))) : mj_W 0 34 4 25 [some (.ref 35), some (.int x1), some (.ref 8), some (.int x3), some (.int x4), some (.int x5)] [] M 0 K := by
  refine b34_25 ?_
  refine ⟨fun c1 => ?_, fun c1 => ?_⟩
  · have h1a := h.1 c1
    refine b34_72 ?_
    exact h1a
  · have h1a := h.2 c1
    refine b34_34 ?_
    have g2 := h1a.1
    refine ⟨g2, ?_⟩
    have h2 := h1a.2
    exact h2

theorem t34_88 {M : mj_M} {K : mj_K} {x1 : Int32} {x3 : Int32} {x4 : Int32} {x5 : Int32} (h : (M 8 0 ≤ x5 → mj_W 0 34 4 10 [some (.ref 35), some (.int x1), some (.ref 8), some (.int x3), some (.int (x4 + 1)), some (.int x5)] [] M 0 K) ∧ (¬ M 8 0 ≤ x5 → vp_in x5 14 ∧ mj_Cm 39 3 [.ref 35, .int x4, .int x5, .int (M 10 x5.toNatClampNeg), .ref 8] M (mj_k 0 34 4 113 [some (.ref 35), some (.int x1), some (.ref 8), some (.int x3), some (.int x4), some (.int x5)] [] 0 none K))) : mj_W 0 34 4 88 [some (.ref 35), some (.int x1), some (.ref 8), some (.int x3), some (.int x4), some (.int x5)] [] M 0 K := by
  refine b34_88 ?_
  refine ⟨fun c1 => ?_, fun c1 => ?_⟩
  · have h1a := h.1 c1
    refine b34_135 ?_
    exact h1a
  · have h1a := h.2 c1
    refine b34_97 ?_
    have g2 := h1a.1
    refine ⟨g2, ?_⟩
    have h2 := h1a.2
    exact h2

theorem t34_22 {M : mj_M} {K : mj_K} {x1 : Int32} {x3 : Int32} {x4 : Int32} {o5 : Option Value} (h : mj_W 0 34 4 25 [some (.ref 35), some (.int x1), some (.ref 8), some (.int x3), some (.int x4), some (.int 0)] [] M 0 K) : mj_W 0 34 4 22 [some (.ref 35), some (.int x1), some (.ref 8), some (.int x3), some (.int x4), o5] [] M 0 K := by
  refine b34_22 ?_
  exact h

theorem t34_85 {M : mj_M} {K : mj_K} {x1 : Int32} {x3 : Int32} {x4 : Int32} {x5 : Int32} (h : mj_W 0 34 4 88 [some (.ref 35), some (.int x1), some (.ref 8), some (.int x3), some (.int x4), some (.int 0)] [] M 0 K) : mj_W 0 34 4 85 [some (.ref 35), some (.int x1), some (.ref 8), some (.int x3), some (.int x4), some (.int x5)] [] M 0 K := by
  refine b34_85 ?_
  exact h

theorem t34_50 {M : mj_M} {K : mj_K} {x1 : Int32} {x3 : Int32} {x4 : Int32} {x5 : Int32} (h : vp_in x5 14 ∧ mj_Cm 37 3 [.ref 35, .int x4, .int x5, .int (M 11 x5.toNatClampNeg), .ref 8] M (mj_k 0 34 4 66 [some (.ref 35), some (.int x1), some (.ref 8), some (.int x3), some (.int x4), some (.int x5)] [] 0 none K)) : mj_W 0 34 4 50 [some (.ref 35), some (.int x1), some (.ref 8), some (.int x3), some (.int x4), some (.int x5)] [] M 0 K := by
  refine b34_50 ?_
  have g1 := h.1
  refine ⟨g1, ?_⟩
  have h1 := h.2
  exact h1

theorem t34_113 {M : mj_M} {K : mj_K} {x1 : Int32} {x3 : Int32} {x4 : Int32} {x5 : Int32} (h : vp_in x5 14 ∧ mj_Cm 39 3 [.ref 35, .int x4, .int x5, .int (M 11 x5.toNatClampNeg), .ref 8] M (mj_k 0 34 4 129 [some (.ref 35), some (.int x1), some (.ref 8), some (.int x3), some (.int x4), some (.int x5)] [] 0 none K)) : mj_W 0 34 4 113 [some (.ref 35), some (.int x1), some (.ref 8), some (.int x3), some (.int x4), some (.int x5)] [] M 0 K := by
  refine b34_113 ?_
  have g1 := h.1
  refine ⟨g1, ?_⟩
  have h1 := h.2
  exact h1

theorem t34_66 {M : mj_M} {K : mj_K} {x1 : Int32} {x3 : Int32} {x4 : Int32} {x5 : Int32} (h : mj_W 0 34 4 25 [some (.ref 35), some (.int x1), some (.ref 8), some (.int x3), some (.int x4), some (.int (x5 + 1))] [] M 0 K) : mj_W 0 34 4 66 [some (.ref 35), some (.int x1), some (.ref 8), some (.int x3), some (.int x4), some (.int x5)] [] M 0 K := by
  refine b34_66 ?_
  exact h

theorem t34_129 {M : mj_M} {K : mj_K} {x1 : Int32} {x3 : Int32} {x4 : Int32} {x5 : Int32} (h : mj_W 0 34 4 88 [some (.ref 35), some (.int x1), some (.ref 8), some (.int x3), some (.int x4), some (.int (x5 + 1))] [] M 0 K) : mj_W 0 34 4 129 [some (.ref 35), some (.int x1), some (.ref 8), some (.int x3), some (.int x4), some (.int x5)] [] M 0 K := by
  refine b34_129 ?_
  exact h

theorem t36_0 {M : mj_M} {K : mj_K} {x1 : Int32} (h : mj_W 0 36 1 10 [some (.ref 35), some (.int x1), some (.int (x1 * 10 * 10)), some (.int 0)] [] M 0 K) : mj_W 0 36 1 0 [some (.ref 35), some (.int x1), none, none] [] M 0 K := by
  refine b36_0 ?_
  exact h
theorem e36 {M : mj_M} {K : mj_K} {x1 : Int32} (h : mj_W 0 36 1 10 [some (.ref 35), some (.int x1), some (.int (x1 * 10 * 10)), some (.int 0)] [] M 0 K) : mj_Cm 36 1 [.ref 35, .int x1] M K := mj_en rfl rfl rfl (t36_0 h)

theorem t36_10 {M : mj_M} {K : mj_K} {x1 : Int32} {x2 : Int32} {x3 : Int32} (h : (100 ≤ x3 → K 0 0 M) ∧ (¬ 100 ≤ x3 → (¬ x3 / 10 = x3 - x3 / 10 * 10 → vp_in (x2 + x3) 400 ∧ mj_W 0 36 1 10 [some (.ref 35), some (.int x1), some (.int x2), some (.int (x3 + 1))] [] (mj_u (mj_u M 36 ((x2 + x3).toNatClampNeg) 1000) 37 ((x2 + x3).toNatClampNeg) (-1)) 0 K) ∧ (x3 / 10 = x3 - x3 / 10 * 10 → vp_in (x2 + x3) 400 ∧ mj_W 0 36 1 10 [some (.ref 35), some (.int x1), some (.int x2), some (.int (x3 + 1))] [] (mj_u (mj_u M 36 ((x2 + x3).toNatClampNeg) 0) 37 ((x2 + x3).toNatClampNeg) (-1)) 0 K))) : mj_W 0 36 1 10 [some (.ref 35), some (.int x1), some (.int x2), some (.int x3)] [] M 0 K := by
  refine b36_10 ?_
  refine ⟨fun c1 => ?_, fun c1 => ?_⟩
  · have h1a := h.1 c1
    refine b36_57 ?_
    exact h1a
  · have h1a := h.2 c1
    refine b36_16 ?_
    refine ⟨fun c2 => ?_, fun c2 => ?_⟩
    · have h2a := h1a.1 c2
      refine b36_38 ?_
      refine b36_41 ?_
      have g3 := h2a.1
      refine ⟨g3, ?_⟩
      have h3 := h2a.2
      refine ⟨g3, ?_⟩
      exact h3
    · have h2a := h1a.2 c2
      refine b36_34 ?_
      refine b36_41 ?_
      have g4 := h2a.1
      refine ⟨g4, ?_⟩
      have h4 := h2a.2
      refine ⟨g4, ?_⟩
      exact h4

theorem t37_0 {M : mj_M} {K : mj_K} {x1 : Int32} {x2 : Int32} {x3 : Int32} (h : (M 8 0).toInt ≤ ((14 : Nat) : Int) ∧ ((f35 M x1 x3 (f12 M x2 x3 x1) = (-1) → K 0 0 M) ∧ (¬ f35 M x1 x3 (f12 M x2 x3 x1) = (-1) → vp_in (f35 M x1 x3 (f12 M x2 x3 x1)) 400 ∧ vp_in x2 14 ∧ K 0 0 (mj_u M 36 ((f35 M x1 x3 (f12 M x2 x3 x1)).toNatClampNeg) (if M 12 x2.toNatClampNeg < M 36 ((f35 M x1 x3 (f12 M x2 x3 x1)).toNatClampNeg) then M 12 x2.toNatClampNeg else M 36 ((f35 M x1 x3 (f12 M x2 x3 x1)).toNatClampNeg)))))) : mj_W 0 37 3 0 [some (.ref 35), some (.int x1), some (.int x2), some (.int x3), some (.ref 8), none] [] M 0 K := by
  refine b37_0 ?_
  have h1 := h.1
  have h2 := h.2
  refine sp12 h1 ?_
  refine b37_10 ?_
  refine sp35  ?_
  refine b37_13 ?_
  refine ⟨fun c3 => ?_, fun c3 => ?_⟩
  · have h3a := h2.1 c3
    refine b37_45 ?_
    exact h3a
  · have h3a := h2.2 c3
    refine b37_21 ?_
    have g4 := h3a.1
    refine ⟨g4, ?_⟩
    have h4 := h3a.2
    have g5 := h4.1
    refine ⟨g5, ?_⟩
    have h5 := h4.2
    refine b37_45 ?_
    exact h5
theorem e37 {M : mj_M} {K : mj_K} {x1 : Int32} {x2 : Int32} {x3 : Int32} (h : (M 8 0).toInt ≤ ((14 : Nat) : Int) ∧ ((f35 M x1 x3 (f12 M x2 x3 x1) = (-1) → K 0 0 M) ∧ (¬ f35 M x1 x3 (f12 M x2 x3 x1) = (-1) → vp_in (f35 M x1 x3 (f12 M x2 x3 x1)) 400 ∧ vp_in x2 14 ∧ K 0 0 (mj_u M 36 ((f35 M x1 x3 (f12 M x2 x3 x1)).toNatClampNeg) (if M 12 x2.toNatClampNeg < M 36 ((f35 M x1 x3 (f12 M x2 x3 x1)).toNatClampNeg) then M 12 x2.toNatClampNeg else M 36 ((f35 M x1 x3 (f12 M x2 x3 x1)).toNatClampNeg)))))) : mj_Cm 37 3 [.ref 35, .int x1, .int x2, .int x3, .ref 8] M K := mj_en rfl rfl rfl (t37_0 h)

theorem t38_0 {M : mj_M} {K : mj_K} {x1 : Int32} {x2 : Int32} (h : mj_W 0 38 1 2 [some (.ref 35), some (.int x1), some (.int x2), some (.int 0), none, none, none, none, none] [] M 0 K) : mj_W 0 38 1 0 [some (.ref 35), some (.int x1), some (.int x2), none, none, none, none, none, none] [] M 0 K := by
  refine b38_0 ?_
  exact h
theorem e38 {M : mj_M} {K : mj_K} {x1 : Int32} {x2 : Int32} (h : mj_W 0 38 1 2 [some (.ref 35), some (.int x1), some (.int x2), some (.int 0), none, none, none, none, none] [] M 0 K) : mj_Cm 38 1 [.ref 35, .int x1, .int x2] M K := mj_en rfl rfl rfl (t38_0 h)

theorem t38_2 {M : mj_M} {K : mj_K} {x1 : Int32} {x2 : Int32} {x3 : Int32} {o4 : Option Value} {o5 : Option Value} {o6 : Option Value} {o7 : Option Value} {o8 : Option Value} (h : (x2 ≤ x3 → K 0 0 M) ∧ (¬ x2 ≤ x3 → mj_W 0 38 1 10 [some (.ref 35), some (.int x1), some (.int x2), some (.int x3), some (.int 0), o5, o6, o7, o8] [] M 0 K)) : mj_W 0 38 1 2 [some (.ref 35), some (.int x1), some (.int x2), some (.int x3), o4, o5, o6, o7, o8] [] M 0 K := by
  refine b38_2 ?_
  refine ⟨fun c1 => ?_, fun c1 => ?_⟩
  · have h1a := h.1 c1
    refine b38_117 ?_
    exact h1a
  · have h1a := h.2 c1
    refine b38_7 ?_
    exact h1a

theorem t38_10 {M : mj_M} {K : mj_K} {x1 : Int32} {x2 : Int32} {x3 : Int32} {x4 : Int32} {o5 : Option Value} {o6 : Option Value} {o7 : Option Value} {o8 : Option Value} (h : (x2 ≤ x4 → mj_W 0 38 1 2 [some (.ref 35), some (.int x1), some (.int x2), some (.int (x3 + 1)), some (.int x4), o5, o6, o7, o8] [] M 0 K) ∧ (¬ x2 ≤ x4 → vp_in (x1 + x4 * 10 + x3) 400 ∧ mj_W 0 38 1 35 [some (.ref 35), some (.int x1), some (.int x2), some (.int x3), some (.int x4), some (.int (M 36 ((x1 + x4 * 10 + x3).toNatClampNeg))), some (.int 0), o7, o8] [] M 0 K)) : mj_W 0 38 1 10 [some (.ref 35), some (.int x1), some (.int x2), some (.int x3), some (.int x4), o5, o6, o7, o8] [] M 0 K := by
  refine b38_10 ?_
  refine ⟨fun c1 => ?_, fun c1 => ?_⟩
  · have h1a := h.1 c1
    refine b38_111 ?_
    exact h1a
  · have h1a := h.2 c1
    refine b38_16 ?_
    have g2 := h1a.1
    refine ⟨g2, ?_⟩
    have h2 := h1a.2
    exact h2

theorem t38_35 {M : mj_M} {K : mj_K} {x1 : Int32} {x2 : Int32} {x3 : Int32} {x4 : Int32} {x5 : Int32} {x6 : Int32} {o7 : Option Value} {o8 : Option Value} (h : (x2 ≤ x6 → mj_W 0 38 1 10 [some (.ref 35), some (.int x1), some (.int x2), some (.int x3), some (.int (x4 + 1)), some (.int x5), some (.int x6), o7, o8] [] M 0 K) ∧ (¬ x2 ≤ x6 → (1000 ≤ x5 → mj_W 0 38 1 10 [some (.ref 35), some (.int x1), some (.int x2), some (.int x3), some (.int (x4 + 1)), some (.int x5), some (.int x6), o7, o8] [] M 0 K) ∧ (¬ 1000 ≤ x5 → vp_in (x1 + x3 * 10 + x6) 400 ∧ vp_in (x1 + x4 * 10 + x6) 400 ∧ mj_W 0 38 1 35 [some (.ref 35), some (.int x1), some (.int x2), some (.int x3), some (.int x4), some (.int x5), some (.int (x6 + 1)), some (.int (x5 + M 36 ((x1 + x3 * 10 + x6).toNatClampNeg))), some (.int (x1 + x4 * 10 + x6))] [] (mj_u M 36 ((x1 + x4 * 10 + x6).toNatClampNeg) (if x5 + M 36 ((x1 + x3 * 10 + x6).toNatClampNeg) < M 36 ((x1 + x4 * 10 + x6).toNatClampNeg) then x5 + M 36 ((x1 + x3 * 10 + x6).toNatClampNeg) else M 36 ((x1 + x4 * 10 + x6).toNatClampNeg))) 0 K))) : mj_W 0 38 1 35 [some (.ref 35), some (.int x1), some (.int x2), some (.int x3), some (.int x4), some (.int x5), some (.int x6), o7, o8] [] M 0 K := by
  refine b38_35 ?_
  refine ⟨fun c1 => ?_, fun c1 => ?_⟩
  · have h1a := h.1 c1
    refine b38_105 ?_
    exact h1a
  · have h1a := h.2 c1
    refine b38_41 ?_
    refine ⟨fun c2 => ?_, fun c2 => ?_⟩
    · have h2a := h1a.1 c2
      refine b38_105 ?_
      exact h2a
    · have h2a := h1a.2 c2
      refine b38_49 ?_
      have g3 := h2a.1
      refine ⟨g3, ?_⟩
      have h3 := h2a.2
      have g4 := h3.1
      refine ⟨g4, ?_⟩
      have h4 := h3.2
      exact h4

theorem t39_0 {M : mj_M} {K : mj_K} {x1 : Int32} {x2 : Int32} {x3 : Int32} (h : (M 8 0).toInt ≤ ((14 : Nat) : Int) ∧ mj_W 0 39 3 13 [some (.ref 35), some (.int x1), some (.int x2), some (.int x3), some (.ref 8), some (.int (f12 M x2 x3 x1)), some (.int 0), none, none] [] M 0 K) : mj_W 0 39 3 0 [some (.ref 35), some (.int x1), some (.int x2), some (.int x3), some (.ref 8), none, none, none, none] [] M 0 K := by
  refine b39_0 ?_
  have h1 := h.1
  have h2 := h.2
  refine sp12 h1 ?_
  refine b39_8 ?_
  exact h2
theorem e39 {M : mj_M} {K : mj_K} {x1 : Int32} {x2 : Int32} {x3 : Int32} (h : (M 8 0).toInt ≤ ((14 : Nat) : Int) ∧ mj_W 0 39 3 13 [some (.ref 35), some (.int x1), some (.int x2), some (.int x3), some (.ref 8), some (.int (f12 M x2 x3 x1)), some (.int 0), none, none] [] M 0 K) : mj_Cm 39 3 [.ref 35, .int x1, .int x2, .int x3, .ref 8] M K := mj_en rfl rfl rfl (t39_0 h)

theorem t39_13 {M : mj_M} {K : mj_K} {x1 : Int32} {x2 : Int32} {x3 : Int32} {x5 : Int32} {x6 : Int32} {o7 : Option Value} {o8 : Option Value} (h : (10 ≤ x6 → K 0 0 M) ∧ (¬ 10 ≤ x6 → (x5 = (-1) → K 0 0 M) ∧ (¬ x5 = (-1) → (f35 M x1 x3 x6 = (-1) → mj_W 0 39 3 13 [some (.ref 35), some (.int x1), some (.int x2), some (.int x3), some (.ref 8), some (.int x5), some (.int (x6 + 1)), some (.int (f35 M x1 x3 x6)), some (.int (f35 M x1 x5 x6))] [] M 0 K) ∧ (¬ f35 M x1 x3 x6 = (-1) → (f35 M x1 x5 x6 = (-1) → mj_W 0 39 3 13 [some (.ref 35), some (.int x1), some (.int x2), some (.int x3), some (.ref 8), some (.int x5), some (.int (x6 + 1)), some (.int (f35 M x1 x3 x6)), some (.int (f35 M x1 x5 x6))] [] M 0 K) ∧ (¬ f35 M x1 x5 x6 = (-1) → vp_in (f35 M x1 x3 x6) 400 ∧ ((M 37 ((f35 M x1 x3 x6).toNatClampNeg) = (-1) → (1000 ≤ M 36 ((f35 M x1 x3 x6).toNatClampNeg) → mj_W 0 39 3 13 [some (.ref 35), some (.int x1), some (.int x2), some (.int x3), some (.ref 8), some (.int x5), some (.int (x6 + 1)), some (.int (f35 M x1 x3 x6)), some (.int (f35 M x1 x5 x6))] [] M 0 K) ∧ (¬ 1000 ≤ M 36 ((f35 M x1 x3 x6).toNatClampNeg) → vp_in x2 14 ∧ vp_in (f35 M x1 x5 x6) 400 ∧ ((¬ M 36 ((f35 M x1 x3 x6).toNatClampNeg) = M 12 x2.toNatClampNeg + M 36 ((f35 M x1 x5 x6).toNatClampNeg) → mj_W 0 39 3 13 [some (.ref 35), some (.int x1), some (.int x2), some (.int x3), some (.ref 8), some (.int x5), some (.int (x6 + 1)), some (.int (f35 M x1 x3 x6)), some (.int (f35 M x1 x5 x6))] [] M 0 K) ∧ (M 36 ((f35 M x1 x3 x6).toNatClampNeg) = M 12 x2.toNatClampNeg + M 36 ((f35 M x1 x5 x6).toNatClampNeg) → mj_W 0 39 3 13 [some (.ref 35), some (.int x1), some (.int x2), some (.int x3), some (.ref 8), some (.int x5), some (.int (x6 + 1)), some (.int (f35 M x1 x3 x6)), some (.int (f35 M x1 x5 x6))] [] (mj_u M 37 ((f35 M x1 x3 x6).toNatClampNeg) x2) 0 K)))) ∧ (¬ M 37 ((f35 M x1 x3 x6).toNatClampNeg) = (-1) → mj_W 0 39 3 13 [some (.ref 35), some (.int x1), some (.int x2), some (.int x3), some (.ref 8), some (.int x5), some (.int (x6 + 1)), some (.int (f35 M x1 x3 x6)), some (.int (f35 M x1 x5 x6))] [] M 0 K))))))) : mj_W 0 39 3 13 [some (.ref 35), some (.int x1), some (.int x2), some (.int x3), some (.ref 8), some (.int x5), some (.int x6), o7, o8] [] M 0 K := by
  refine b39_13 ?_
  refine ⟨fun c1 => ?_, fun c1 => ?_⟩
  · have h1a := h.1 c1
    refine b39_123 ?_
    exact h1a
  · have h1a := h.2 c1
    refine b39_20 ?_
    refine ⟨fun c2 => ?_, fun c2 => ?_⟩
    · have h2a := h1a.1 c2
      refine b39_123 ?_
      exact h2a
    · have h2a := h1a.2 c2
      refine b39_26 ?_
      refine sp35  ?_
      refine b39_33 ?_
      refine sp35  ?_
      refine b39_43 ?_
      refine ⟨fun c3 => ?_, fun c3 => ?_⟩
      · have h3a := h2a.1 c3
        refine b39_117 ?_
        exact h3a
      · have h3a := h2a.2 c3
        refine b39_51 ?_
        refine ⟨fun c4 => ?_, fun c4 => ?_⟩
        · have h4a := h3a.1 c4
          refine b39_117 ?_
          exact h4a
        · have h4a := h3a.2 c4
          refine b39_57 ?_
          have g5 := h4a.1
          refine ⟨g5, ?_⟩
          have h5 := h4a.2
          refine ⟨fun c6 => ?_, fun c6 => ?_⟩
          · have h6a := h5.1 c6
            refine b39_71 ?_
            refine ⟨g5, ?_⟩
            refine ⟨fun c7 => ?_, fun c7 => ?_⟩
            · have h7a := h6a.1 c7
              refine b39_117 ?_
              exact h7a
            · have h7a := h6a.2 c7
              refine b39_84 ?_
              refine ⟨g5, ?_⟩
              have g8 := h7a.1
              refine ⟨g8, ?_⟩
              have h8 := h7a.2
              have g9 := h8.1
              refine ⟨g9, ?_⟩
              have h9 := h8.2
              refine ⟨fun c10 => ?_, fun c10 => ?_⟩
              · have h10a := h9.1 c10
                refine b39_117 ?_
                exact h10a
              · have h10a := h9.2 c10
                refine b39_109 ?_
                refine ⟨g5, ?_⟩
                refine b39_117 ?_
                exact h10a
          · have h6a := h5.2 c6
            refine b39_68 ?_
            refine b39_117 ?_
            exact h6a

theorem t42_0 {M : mj_M} {K : mj_K}  (h : mj_Cm 34 4 [.ref 35, .int (M 1 0), .ref 8] M (mj_k 0 42 5 18 [some (.ref 0)] [] 0 none K)) : mj_W 0 42 5 0 [some (.ref 0)] [] M 0 K := by
  refine b42_0 ?_
  exact h
theorem e42 {M : mj_M} {K : mj_K}  (h : mj_Cm 34 4 [.ref 35, .int (M 1 0), .ref 8] M (mj_k 0 42 5 18 [some (.ref 0)] [] 0 none K)) : mj_Cm 42 5 [.ref 0] M K := mj_en rfl rfl rfl (t42_0 h)

theorem t42_18 {M : mj_M} {K : mj_K}  (h : K 0 0 M) : mj_W 0 42 5 18 [some (.ref 0)] [] M 0 K := by
  refine b42_18 ?_
  exact h

theorem t43_0 {M : mj_M} {K : mj_K} {x1 : Int32} (h : ((p18 M x1) → vp_in x1 120 ∧ mj_Cm 32 2 [.ref 35, .int (M 24 x1.toNatClampNeg), .int (M 22 x1.toNatClampNeg), .int (M 23 x1.toNatClampNeg)] M (mj_k 0 43 3 47 [some (.ref 0), some (.int x1)] [] 0 (some .int) K)) ∧ (¬ (p18 M x1) → K 0 (-1) M)) : mj_W 0 43 3 0 [some (.ref 0), some (.int x1)] [] M 0 K := by
  refine b43_0 ?_
  refine sp18  ?_
  refine b43_8 ?_
  refine ⟨fun c1 => ?_, fun c1 => ?_⟩
  · have h1a := h.1 (mj_bi1.mp c1)
    refine b43_13 ?_
    have g2 := h1a.1
    refine ⟨g2, ?_⟩
    have h2 := h1a.2
    exact h2
  · have h1a := h.2 (mj_bi0.mp c1)
    refine b43_11 ?_
    exact h1a
theorem e43 {M : mj_M} {K : mj_K} {x1 : Int32} (h : ((p18 M x1) → vp_in x1 120 ∧ mj_Cm 32 2 [.ref 35, .int (M 24 x1.toNatClampNeg), .int (M 22 x1.toNatClampNeg), .int (M 23 x1.toNatClampNeg)] M (mj_k 0 43 3 47 [some (.ref 0), some (.int x1)] [] 0 (some .int) K)) ∧ (¬ (p18 M x1) → K 0 (-1) M)) : mj_Cm 43 3 [.ref 0, .int x1] M K := mj_en rfl rfl rfl (t43_0 h)

theorem t43_47 {M : mj_M} {K : mj_K} {x1 : Int32} {s0 : Int32} (h : K 0 s0 M) : mj_W 0 43 3 47 [some (.ref 0), some (.int x1)] [.int s0] M 0 K := by
  refine b43_47 ?_
  exact h

theorem t44_0 {M : mj_M} {K : mj_K} {x1 : Int32} (h : (M 20 0).toInt ≤ ((120 : Nat) : Int) ∧ (((p20 M x1) → vp_in x1 120 ∧ mj_Cm 33 2 [.ref 35, .int (M 24 x1.toNatClampNeg), .int (M 22 x1.toNatClampNeg), .int (M 23 x1.toNatClampNeg)] M (mj_k 0 44 3 47 [some (.ref 0), some (.int x1)] [] 0 (some .int) K)) ∧ (¬ (p20 M x1) → K 0 (-1) M))) : mj_W 0 44 3 0 [some (.ref 0), some (.int x1)] [] M 0 K := by
  refine b44_0 ?_
  have h1 := h.1
  have h2 := h.2
  refine sp20 h1 ?_
  refine b44_8 ?_
  refine ⟨fun c3 => ?_, fun c3 => ?_⟩
  · have h3a := h2.1 (mj_bi1.mp c3)
    refine b44_13 ?_
    have g4 := h3a.1
    refine ⟨g4, ?_⟩
    have h4 := h3a.2
    exact h4
  · have h3a := h2.2 (mj_bi0.mp c3)
    refine b44_11 ?_
    exact h3a
theorem e44 {M : mj_M} {K : mj_K} {x1 : Int32} (h : (M 20 0).toInt ≤ ((120 : Nat) : Int) ∧ (((p20 M x1) → vp_in x1 120 ∧ mj_Cm 33 2 [.ref 35, .int (M 24 x1.toNatClampNeg), .int (M 22 x1.toNatClampNeg), .int (M 23 x1.toNatClampNeg)] M (mj_k 0 44 3 47 [some (.ref 0), some (.int x1)] [] 0 (some .int) K)) ∧ (¬ (p20 M x1) → K 0 (-1) M))) : mj_Cm 44 3 [.ref 0, .int x1] M K := mj_en rfl rfl rfl (t44_0 h)

theorem t44_47 {M : mj_M} {K : mj_K} {x1 : Int32} {s0 : Int32} (h : K 0 s0 M) : mj_W 0 44 3 47 [some (.ref 0), some (.int x1)] [.int s0] M 0 K := by
  refine b44_47 ?_
  exact h

theorem t45_0 {M : mj_M} {K : mj_K} {x1 : Int32} (h : mj_W 0 45 4 4 [some (.ref 0), some (.int x1), some (.int 0), some (.int 0)] [] M 0 K) : mj_W 0 45 4 0 [some (.ref 0), some (.int x1), none, none] [] M 0 K := by
  refine b45_0 ?_
  exact h
theorem e45 {M : mj_M} {K : mj_K} {x1 : Int32} (h : mj_W 0 45 4 4 [some (.ref 0), some (.int x1), some (.int 0), some (.int 0)] [] M 0 K) : mj_Cm 45 4 [.ref 0, .int x1] M K := mj_en rfl rfl rfl (t45_0 h)

theorem t45_4 {M : mj_M} {K : mj_K} {x1 : Int32} {x2 : Int32} {x3 : Int32} (h : (M 20 0 ≤ x3 → K 0 x2 M) ∧ (¬ M 20 0 ≤ x3 → (M 20 0).toInt ≤ ((120 : Nat) : Int) ∧ ((¬ (p20 M x3) → mj_W 0 45 4 4 [some (.ref 0), some (.int x1), some (.int x2), some (.int (x3 + 1))] [] M 0 K) ∧ ((p20 M x3) → mj_Cm 44 3 [.ref 0, .int x3] M (mj_k 0 45 4 31 [some (.ref 0), some (.int x1), some (.int x2), some (.int x3)] [] 0 (some .int) K))))) : mj_W 0 45 4 4 [some (.ref 0), some (.int x1), some (.int x2), some (.int x3)] [] M 0 K := by
  refine b45_4 ?_
  refine ⟨fun c1 => ?_, fun c1 => ?_⟩
  · have h1a := h.1 c1
    refine b45_44 ?_
    exact h1a
  · have h1a := h.2 c1
    refine b45_15 ?_
    have h2 := h1a.1
    have h3 := h1a.2
    refine sp20 h2 ?_
    refine b45_23 ?_
    refine ⟨fun c4 => ?_, fun c4 => ?_⟩
    · have h4a := h3.1 (mj_bi0.mp c4)
      refine b45_38 ?_
      exact h4a
    · have h4a := h3.2 (mj_bi1.mp c4)
      refine b45_26 ?_
      exact h4a

theorem t45_31 {M : mj_M} {K : mj_K} {x1 : Int32} {x2 : Int32} {x3 : Int32} {s0 : Int32} (h : (¬ s0 = x1 → mj_W 0 45 4 4 [some (.ref 0), some (.int x1), some (.int x2), some (.int (x3 + 1))] [] M 0 K) ∧ (s0 = x1 → mj_W 0 45 4 4 [some (.ref 0), some (.int x1), some (.int (x2 + 1)), some (.int (x3 + 1))] [] M 0 K)) : mj_W 0 45 4 31 [some (.ref 0), some (.int x1), some (.int x2), some (.int x3)] [.int s0] M 0 K := by
  refine b45_31 ?_
  refine ⟨fun c1 => ?_, fun c1 => ?_⟩
  · have h1a := h.1 c1
    refine b45_38 ?_
    exact h1a
  · have h1a := h.2 c1
    refine b45_35 ?_
    refine b45_38 ?_
    exact h1a

theorem t46_0 {M : mj_M} {K : mj_K} {x1 : Int32} {x2 : Int32} {x3 : Int32} {x4 : Int32} (h : mj_Cm 19 1 [.ref 20, .int x1, .int x2, .int x3, .int x4, .int (M 0 5)] M (mj_k 0 46 4 16 [some (.ref 0), some (.int x1), some (.int x2), some (.int x3), some (.int x4), none] [] 0 (some .int) K)) : mj_W 0 46 4 0 [some (.ref 0), some (.int x1), some (.int x2), some (.int x3), some (.int x4), none] [] M 0 K := by
  refine b46_0 ?_
  exact h
theorem e46 {M : mj_M} {K : mj_K} {x1 : Int32} {x2 : Int32} {x3 : Int32} {x4 : Int32} (h : mj_Cm 19 1 [.ref 20, .int x1, .int x2, .int x3, .int x4, .int (M 0 5)] M (mj_k 0 46 4 16 [some (.ref 0), some (.int x1), some (.int x2), some (.int x3), some (.int x4), none] [] 0 (some .int) K)) : mj_Cm 46 4 [.ref 0, .int x1, .int x2, .int x3, .int x4] M K := mj_en rfl rfl rfl (t46_0 h)

theorem t46_16 {M : mj_M} {K : mj_K} {x1 : Int32} {x2 : Int32} {x3 : Int32} {x4 : Int32} {o5 : Option Value} {s0 : Int32} (h : (¬ (p18 M s0) → K 0 s0 M) ∧ ((p18 M s0) → (¬ (p0 M x1) → K 0 s0 M) ∧ ((p0 M x1) → (¬ (p0 M x2) → K 0 s0 M) ∧ ((p0 M x2) → vp_in x2 10 ∧ ((¬ M 2 x2.toNatClampNeg = 2 → vp_in s0 120 ∧ vp_in x1 10 ∧ mj_Cm 48 3 [.ref 0, .int s0] (mj_u (mj_u M 27 s0.toNatClampNeg (mj_nb 0)) 5 x1.toNatClampNeg (M 5 x1.toNatClampNeg + 1)) (mj_k 0 46 4 109 [some (.ref 0), some (.int x1), some (.int x2), some (.int x3), some (.int x4), some (.int s0)] [] 0 none K)) ∧ (M 2 x2.toNatClampNeg = 2 → (¬ M 8 1 = 0 → vp_in s0 120 ∧ vp_in x1 10 ∧ mj_Cm 48 3 [.ref 0, .int s0] (mj_u (mj_u M 27 s0.toNatClampNeg (mj_nb 0)) 5 x1.toNatClampNeg (M 5 x1.toNatClampNeg + 1)) (mj_k 0 46 4 109 [some (.ref 0), some (.int x1), some (.int x2), some (.int x3), some (.int x4), some (.int s0)] [] 0 none K)) ∧ (M 8 1 = 0 → vp_in s0 120 ∧ vp_in x1 10 ∧ mj_Cm 48 3 [.ref 0, .int s0] (mj_u (mj_u M 27 s0.toNatClampNeg (mj_nb 1)) 5 x1.toNatClampNeg (M 5 x1.toNatClampNeg + 1)) (mj_k 0 46 4 109 [some (.ref 0), some (.int x1), some (.int x2), some (.int x3), some (.int x4), some (.int s0)] [] 0 none K)))))))) : mj_W 0 46 4 16 [some (.ref 0), some (.int x1), some (.int x2), some (.int x3), some (.int x4), o5] [.int s0] M 0 K := by
  refine b46_16 ?_
  refine sp18  ?_
  refine b46_27 ?_
  refine ⟨fun c1 => ?_, fun c1 => ?_⟩
  · have h1a := h.1 (mj_bi0.mp c1)
    refine b46_109 ?_
    exact h1a
  · have h1a := h.2 (mj_bi1.mp c1)
    refine b46_30 ?_
    refine sp0  ?_
    refine b46_38 ?_
    refine ⟨fun c2 => ?_, fun c2 => ?_⟩
    · have h2a := h1a.1 (mj_bi0.mp c2)
      refine b46_109 ?_
      exact h2a
    · have h2a := h1a.2 (mj_bi1.mp c2)
      refine b46_41 ?_
      refine sp0  ?_
      refine b46_49 ?_
      refine ⟨fun c3 => ?_, fun c3 => ?_⟩
      · have h3a := h2a.1 (mj_bi0.mp c3)
        refine b46_109 ?_
        exact h3a
      · have h3a := h2a.2 (mj_bi1.mp c3)
        refine b46_52 ?_
        have g4 := h3a.1
        refine ⟨g4, ?_⟩
        have h4 := h3a.2
        refine ⟨fun c5 => ?_, fun c5 => ?_⟩
        · have h5a := h4.1 c5
          refine b46_88 ?_
          refine b46_89 ?_
          have g6 := h5a.1
          refine ⟨g6, ?_⟩
          have h6 := h5a.2
          have g7 := h6.1
          refine ⟨g7, ?_⟩
          have h7 := h6.2
          exact h7
        · have h5a := h4.2 c5
          refine b46_74 ?_
          refine ⟨fun c8 => ?_, fun c8 => ?_⟩
          · have h8a := h5a.1 c8
            refine b46_88 ?_
            refine b46_89 ?_
            have g9 := h8a.1
            refine ⟨g9, ?_⟩
            have h9 := h8a.2
            have g10 := h9.1
            refine ⟨g10, ?_⟩
            have h10 := h9.2
            exact h10
          · have h8a := h5a.2 c8
            refine b46_84 ?_
            refine b46_89 ?_
            have g11 := h8a.1
            refine ⟨g11, ?_⟩
            have h11 := h8a.2
            have g12 := h11.1
            refine ⟨g12, ?_⟩
            have h12 := h11.2
            exact h12

theorem t46_109 {M : mj_M} {K : mj_K} {x1 : Int32} {x2 : Int32} {x3 : Int32} {x4 : Int32} {x5 : Int32} (h : K 0 x5 M) : mj_W 0 46 4 109 [some (.ref 0), some (.int x1), some (.int x2), some (.int x3), some (.int x4), some (.int x5)] [] M 0 K := by
  refine b46_109 ?_
  exact h

theorem t47_0 {M : mj_M} {K : mj_K} {x1 : Int32} {x2 : Int32} {x3 : Int32} (h : (M 1 0).toInt ≤ ((10 : Nat) : Int) ∧ mj_W 0 47 5 31 [some (.ref 0), some (.int x1), some (.int x2), some (.int x3), some (.int (if 120 - M 20 0 < x3 then 120 - M 20 0 else x3)), some (.int (f4 M x1 (if 120 - M 20 0 < x3 then 120 - M 20 0 else x3))), some (.int 0)] [] M 0 K) : mj_W 0 47 5 0 [some (.ref 0), some (.int x1), some (.int x2), some (.int x3), none, none, none] [] M 0 K := by
  refine b47_0 ?_
  have h1 := h.1
  have h2 := h.2
  refine sp4 h1 ?_
  refine b47_26 ?_
  exact h2
theorem e47 {M : mj_M} {K : mj_K} {x1 : Int32} {x2 : Int32} {x3 : Int32} (h : (M 1 0).toInt ≤ ((10 : Nat) : Int) ∧ mj_W 0 47 5 31 [some (.ref 0), some (.int x1), some (.int x2), some (.int x3), some (.int (if 120 - M 20 0 < x3 then 120 - M 20 0 else x3)), some (.int (f4 M x1 (if 120 - M 20 0 < x3 then 120 - M 20 0 else x3))), some (.int 0)] [] M 0 K) : mj_Cm 47 5 [.ref 0, .int x1, .int x2, .int x3] M K := mj_en rfl rfl rfl (t47_0 h)

theorem t47_31 {M : mj_M} {K : mj_K} {x1 : Int32} {x2 : Int32} {x3 : Int32} {x4 : Int32} {x5 : Int32} {x6 : Int32} (h : (x5 ≤ x6 → K 0 x5 M) ∧ (¬ x5 ≤ x6 → mj_Cm 46 4 [.ref 0, .int x1, .int x2, .int 0, .int (-1)] M (mj_k 0 47 5 46 [some (.ref 0), some (.int x1), some (.int x2), some (.int x3), some (.int x4), some (.int x5), some (.int x6)] [] 0 (some .int) K))) : mj_W 0 47 5 31 [some (.ref 0), some (.int x1), some (.int x2), some (.int x3), some (.int x4), some (.int x5), some (.int x6)] [] M 0 K := by
  refine b47_31 ?_
  refine ⟨fun c1 => ?_, fun c1 => ?_⟩
  · have h1a := h.1 c1
    refine b47_53 ?_
    exact h1a
  · have h1a := h.2 c1
    refine b47_38 ?_
    exact h1a

theorem t47_46 {M : mj_M} {K : mj_K} {x1 : Int32} {x2 : Int32} {x3 : Int32} {x4 : Int32} {x5 : Int32} {x6 : Int32} {s0 : Int32} (h : mj_W 0 47 5 31 [some (.ref 0), some (.int x1), some (.int x2), some (.int x3), some (.int x4), some (.int x5), some (.int (x6 + 1))] [] M 0 K) : mj_W 0 47 5 46 [some (.ref 0), some (.int x1), some (.int x2), some (.int x3), some (.int x4), some (.int x5), some (.int x6)] [.int s0] M 0 K := by
  refine b47_46 ?_
  exact h

theorem t48_0 {M : mj_M} {K : mj_K} {x1 : Int32} (h : (M 20 0).toInt ≤ ((120 : Nat) : Int) ∧ ((¬ (p20 M x1) → K 0 0 M) ∧ ((p20 M x1) → vp_in x1 120 ∧ ((¬ M 22 x1.toNatClampNeg = M 23 x1.toNatClampNeg → K 0 0 M) ∧ (M 22 x1.toNatClampNeg = M 23 x1.toNatClampNeg → (M 1 0).toInt ≤ ((10 : Nat) : Int) ∧ ((¬ (p2 M (M 22 x1.toNatClampNeg)) → K 0 0 M) ∧ ((p2 M (M 22 x1.toNatClampNeg)) → vp_in (M 22 x1.toNatClampNeg) 10 ∧ K 0 0 (mj_u (mj_u M 21 x1.toNatClampNeg 3) 6 ((M 22 x1.toNatClampNeg).toNatClampNeg) (M 6 ((M 22 x1.toNatClampNeg).toNatClampNeg) + 1))))))))) : mj_W 0 48 3 0 [some (.ref 0), some (.int x1), none] [] M 0 K := by
  refine b48_0 ?_
  have h1 := h.1
  have h2 := h.2
  refine sp20 h1 ?_
  refine b48_8 ?_
  refine ⟨fun c3 => ?_, fun c3 => ?_⟩
  · have h3a := h2.1 (mj_bi0.mp c3)
    refine b48_76 ?_
    exact h3a
  · have h3a := h2.2 (mj_bi1.mp c3)
    refine b48_11 ?_
    have g4 := h3a.1
    refine ⟨g4, ?_⟩
    have h4 := h3a.2
    refine ⟨fun c5 => ?_, fun c5 => ?_⟩
    · have h5a := h4.1 c5
      refine b48_76 ?_
      exact h5a
    · have h5a := h4.2 c5
      refine b48_32 ?_
      refine ⟨g4, ?_⟩
      have h6 := h5a.1
      have h7 := h5a.2
      refine sp2 h6 ?_
      refine b48_50 ?_
      refine ⟨fun c8 => ?_, fun c8 => ?_⟩
      · have h8a := h7.1 (mj_bi0.mp c8)
        refine b48_76 ?_
        exact h8a
      · have h8a := h7.2 (mj_bi1.mp c8)
        refine b48_53 ?_
        refine ⟨g4, ?_⟩
        have g9 := h8a.1
        refine ⟨g9, ?_⟩
        have h9 := h8a.2
        refine b48_76 ?_
        exact h9
theorem e48 {M : mj_M} {K : mj_K} {x1 : Int32} (h : (M 20 0).toInt ≤ ((120 : Nat) : Int) ∧ ((¬ (p20 M x1) → K 0 0 M) ∧ ((p20 M x1) → vp_in x1 120 ∧ ((¬ M 22 x1.toNatClampNeg = M 23 x1.toNatClampNeg → K 0 0 M) ∧ (M 22 x1.toNatClampNeg = M 23 x1.toNatClampNeg → (M 1 0).toInt ≤ ((10 : Nat) : Int) ∧ ((¬ (p2 M (M 22 x1.toNatClampNeg)) → K 0 0 M) ∧ ((p2 M (M 22 x1.toNatClampNeg)) → vp_in (M 22 x1.toNatClampNeg) 10 ∧ K 0 0 (mj_u (mj_u M 21 x1.toNatClampNeg 3) 6 ((M 22 x1.toNatClampNeg).toNatClampNeg) (M 6 ((M 22 x1.toNatClampNeg).toNatClampNeg) + 1))))))))) : mj_Cm 48 3 [.ref 0, .int x1] M K := mj_en rfl rfl rfl (t48_0 h)

theorem t49_0 {M : mj_M} {K : mj_K}  (h : mj_Cm 42 5 [.ref 0] (mj_u M 8 1 1) (mj_k 0 49 6 12 [some (.ref 0), none, none] [] 0 none K)) : mj_W 0 49 6 0 [some (.ref 0), none, none] [] M 0 K := by
  refine b49_0 ?_
  exact h
theorem e49 {M : mj_M} {K : mj_K}  (h : mj_Cm 42 5 [.ref 0] (mj_u M 8 1 1) (mj_k 0 49 6 12 [some (.ref 0), none, none] [] 0 none K)) : mj_Cm 49 6 [.ref 0] M K := mj_en rfl rfl rfl (t49_0 h)

theorem t49_16 {M : mj_M} {K : mj_K} {x1 : Int32} {x2 : Int32} (h : (M 20 0 ≤ x2 → K 0 x1 M) ∧ (¬ M 20 0 ≤ x2 → vp_in x2 120 ∧ (((mj_u M 27 x2.toNatClampNeg (mj_nb 0)) 20 0).toInt ≤ ((120 : Nat) : Int) ∧ ((¬ (p21 (mj_u M 27 x2.toNatClampNeg (mj_nb 0)) x2) → mj_Cm 48 3 [.ref 0, .int x2] (mj_u M 27 x2.toNatClampNeg (mj_nb 0)) (mj_k 0 49 6 64 [some (.ref 0), some (.int x1), some (.int x2)] [] 0 none K)) ∧ ((p21 (mj_u M 27 x2.toNatClampNeg (mj_nb 0)) x2) → mj_Cm 50 3 [.ref 0, .int x2] (mj_u M 27 x2.toNatClampNeg (mj_nb 0)) (mj_k 0 49 6 53 [some (.ref 0), some (.int x1), some (.int x2)] [] 0 (some .boolean) K)))))) : mj_W 0 49 6 16 [some (.ref 0), some (.int x1), some (.int x2)] [] M 0 K := by
  refine b49_16 ?_
  refine ⟨fun c1 => ?_, fun c1 => ?_⟩
  · have h1a := h.1 c1
    refine b49_70 ?_
    exact h1a
  · have h1a := h.2 c1
    refine b49_27 ?_
    have g2 := h1a.1
    refine ⟨g2, ?_⟩
    have h2 := h1a.2
    have h3 := h2.1
    have h4 := h2.2
    refine sp21 h3 ?_
    refine b49_45 ?_
    refine ⟨fun c5 => ?_, fun c5 => ?_⟩
    · have h5a := h4.1 (mj_bi0.mp c5)
      refine b49_59 ?_
      exact h5a
    · have h5a := h4.2 (mj_bi1.mp c5)
      refine b49_48 ?_
      exact h5a

theorem t49_12 {M : mj_M} {K : mj_K} {o1 : Option Value} {o2 : Option Value} (h : mj_W 0 49 6 16 [some (.ref 0), some (.int 0), some (.int 0)] [] M 0 K) : mj_W 0 49 6 12 [some (.ref 0), o1, o2] [] M 0 K := by
  refine b49_12 ?_
  exact h

theorem t49_64 {M : mj_M} {K : mj_K} {x1 : Int32} {x2 : Int32} (h : mj_W 0 49 6 16 [some (.ref 0), some (.int x1), some (.int (x2 + 1))] [] M 0 K) : mj_W 0 49 6 64 [some (.ref 0), some (.int x1), some (.int x2)] [] M 0 K := by
  refine b49_64 ?_
  exact h

theorem t49_53 {M : mj_M} {K : mj_K} {x1 : Int32} {x2 : Int32} {s0 : Int32} (h : (s0 = 0 → mj_Cm 48 3 [.ref 0, .int x2] M (mj_k 0 49 6 64 [some (.ref 0), some (.int x1), some (.int x2)] [] 0 none K)) ∧ (¬ s0 = 0 → mj_Cm 48 3 [.ref 0, .int x2] M (mj_k 0 49 6 64 [some (.ref 0), some (.int (x1 + 1)), some (.int x2)] [] 0 none K))) : mj_W 0 49 6 53 [some (.ref 0), some (.int x1), some (.int x2)] [.int s0] M 0 K := by
  refine b49_53 ?_
  refine ⟨fun c1 => ?_, fun c1 => ?_⟩
  · have h1a := h.1 c1
    refine b49_59 ?_
    exact h1a
  · have h1a := h.2 c1
    refine b49_56 ?_
    refine b49_59 ?_
    exact h1a

theorem t50_0 {M : mj_M} {K : mj_K} {x1 : Int32} (h : vp_in x1 120 ∧ mj_W 0 50 3 29 [some (.ref 0), some (.int x1), some (.int (M 24 x1.toNatClampNeg)), some (.int (M 22 x1.toNatClampNeg)), some (.int (-1)), some (.int (-1)), some (.int 0), none] [] M 0 K) : mj_W 0 50 3 0 [some (.ref 0), some (.int x1), none, none, none, none, none, none] [] M 0 K := by
  refine b50_0 ?_
  have g1 := h.1
  refine ⟨g1, ?_⟩
  have h1 := h.2
  exact h1
theorem e50 {M : mj_M} {K : mj_K} {x1 : Int32} (h : vp_in x1 120 ∧ mj_W 0 50 3 29 [some (.ref 0), some (.int x1), some (.int (M 24 x1.toNatClampNeg)), some (.int (M 22 x1.toNatClampNeg)), some (.int (-1)), some (.int (-1)), some (.int 0), none] [] M 0 K) : mj_Cm 50 3 [.ref 0, .int x1] M K := mj_en rfl rfl rfl (t50_0 h)

theorem t50_29 {M : mj_M} {K : mj_K} {x1 : Int32} {x2 : Int32} {x3 : Int32} {x4 : Int32} {x5 : Int32} {x6 : Int32} {o7 : Option Value} (h : (M 1 0 ≤ x6 → (x4 = (-1) → K 0 0 M) ∧ (¬ x4 = (-1) → vp_in x1 120 ∧ ((¬ x4 = M 23 x1.toNatClampNeg → K 0 1 (mj_u M 23 x1.toNatClampNeg x4)) ∧ (x4 = M 23 x1.toNatClampNeg → K 0 0 M)))) ∧ (¬ M 1 0 ≤ x6 → (M 1 0).toInt ≤ ((10 : Nat) : Int) ∧ ((¬ (p2 M x6) → mj_W 0 50 3 29 [some (.ref 0), some (.int x1), some (.int x2), some (.int x3), some (.int x4), some (.int x5), some (.int (x6 + 1)), some (.int (-1))] [] M 0 K) ∧ ((p2 M x6) → mj_Cm 32 2 [.ref 35, .int x2, .int x3, .int x6] M (mj_k 0 50 3 64 [some (.ref 0), some (.int x1), some (.int x2), some (.int x3), some (.int x4), some (.int x5), some (.int x6), o7] [] 0 (some .int) K))))) : mj_W 0 50 3 29 [some (.ref 0), some (.int x1), some (.int x2), some (.int x3), some (.int x4), some (.int x5), some (.int x6), o7] [] M 0 K := by
  refine b50_29 ?_
  refine ⟨fun c1 => ?_, fun c1 => ?_⟩
  · have h1a := h.1 c1
    refine b50_103 ?_
    refine ⟨fun c2 => ?_, fun c2 => ?_⟩
    · have h2a := h1a.1 c2
      refine b50_123 ?_
      rw [mj_nb0]
      exact h2a
    · have h2a := h1a.2 c2
      refine b50_109 ?_
      have g3 := h2a.1
      refine ⟨g3, ?_⟩
      have h3 := h2a.2
      refine ⟨fun c4 => ?_, fun c4 => ?_⟩
      · have h4a := h3.1 c4
        refine b50_125 ?_
        refine ⟨g3, ?_⟩
        rw [mj_nb1]
        exact h4a
      · have h4a := h3.2 c4
        refine b50_123 ?_
        rw [mj_nb0]
        exact h4a
  · have h1a := h.2 c1
    refine b50_41 ?_
    have h5 := h1a.1
    have h6 := h1a.2
    refine sp2 h5 ?_
    refine b50_50 ?_
    refine ⟨fun c7 => ?_, fun c7 => ?_⟩
    · have h7a := h6.1 (mj_bi0.mp c7)
      refine b50_67 ?_
      refine b50_68 ?_
      refine ⟨fun _ => ?_, fun c => absurd c (by decide)⟩
      · refine b50_97 ?_
        exact h7a
    · have h7a := h6.2 (mj_bi1.mp c7)
      refine b50_53 ?_
      exact h7a

theorem t50_64 {M : mj_M} {K : mj_K} {x1 : Int32} {x2 : Int32} {x3 : Int32} {x4 : Int32} {x5 : Int32} {x6 : Int32} {o7 : Option Value} {s0 : Int32} (h : (s0 = (-1) → mj_W 0 50 3 29 [some (.ref 0), some (.int x1), some (.int x2), some (.int x3), some (.int x4), some (.int x5), some (.int (x6 + 1)), some (.int s0)] [] M 0 K) ∧ (¬ s0 = (-1) → (x5 = (-1) → mj_W 0 50 3 29 [some (.ref 0), some (.int x1), some (.int x2), some (.int x3), some (.int x6), some (.int s0), some (.int (x6 + 1)), some (.int s0)] [] M 0 K) ∧ (¬ x5 = (-1) → (x5 ≤ s0 → mj_W 0 50 3 29 [some (.ref 0), some (.int x1), some (.int x2), some (.int x3), some (.int x4), some (.int x5), some (.int (x6 + 1)), some (.int s0)] [] M 0 K) ∧ (¬ x5 ≤ s0 → mj_W 0 50 3 29 [some (.ref 0), some (.int x1), some (.int x2), some (.int x3), some (.int x6), some (.int s0), some (.int (x6 + 1)), some (.int s0)] [] M 0 K)))) : mj_W 0 50 3 64 [some (.ref 0), some (.int x1), some (.int x2), some (.int x3), some (.int x4), some (.int x5), some (.int x6), o7] [.int s0] M 0 K := by
  refine b50_64 ?_
  refine b50_68 ?_
  refine ⟨fun c1 => ?_, fun c1 => ?_⟩
  · have h1a := h.1 c1
    refine b50_97 ?_
    exact h1a
  · have h1a := h.2 c1
    refine b50_76 ?_
    refine ⟨fun c2 => ?_, fun c2 => ?_⟩
    · have h2a := h1a.1 c2
      refine b50_89 ?_
      refine b50_97 ?_
      exact h2a
    · have h2a := h1a.2 c2
      refine b50_82 ?_
      refine ⟨fun c3 => ?_, fun c3 => ?_⟩
      · have h3a := h2a.1 c3
        refine b50_97 ?_
        exact h3a
      · have h3a := h2a.2 c3
        refine b50_89 ?_
        refine b50_97 ?_
        exact h3a

theorem t51_0 {M : mj_M} {K : mj_K}  (h : mj_Cm 52 4 [.ref 0] (mj_u M 0 5 (M 0 5 + 1)) (mj_k 0 51 6 14 [some (.ref 0), none] [] 0 none K)) : mj_W 0 51 6 0 [some (.ref 0), none] [] M 0 K := by
  refine b51_0 ?_
  exact h
theorem e51 {M : mj_M} {K : mj_K}  (h : mj_Cm 52 4 [.ref 0] (mj_u M 0 5 (M 0 5 + 1)) (mj_k 0 51 6 14 [some (.ref 0), none] [] 0 none K)) : mj_Cm 51 6 [.ref 0] M K := mj_en rfl rfl rfl (t51_0 h)

theorem t51_16 {M : mj_M} {K : mj_K} {x1 : Int32} (h : (M 28 0 ≤ x1 → mj_Cm 55 4 [.ref 0] M (mj_k 0 51 6 42 [some (.ref 0), some (.int x1)] [] 0 none K)) ∧ (¬ M 28 0 ≤ x1 → mj_Cm 53 4 [.ref 0, .int x1] M (mj_k 0 51 6 32 [some (.ref 0), some (.int x1)] [] 0 none K))) : mj_W 0 51 6 16 [some (.ref 0), some (.int x1)] [] M 0 K := by
  refine b51_16 ?_
  refine ⟨fun c1 => ?_, fun c1 => ?_⟩
  · have h1a := h.1 c1
    refine b51_38 ?_
    exact h1a
  · have h1a := h.2 c1
    refine b51_27 ?_
    exact h1a

theorem t51_44 {M : mj_M} {K : mj_K} {x1 : Int32} (h : (M 8 0 ≤ x1 → mj_Cm 5 3 [.ref 1] M (mj_k 0 51 6 85 [some (.ref 0), some (.int x1)] [] 0 none K)) ∧ (¬ M 8 0 ≤ x1 → vp_in x1 14 ∧ ((¬ M 16 x1.toNatClampNeg = 0 → mj_W 0 51 6 44 [some (.ref 0), some (.int (x1 + 1))] [] M 0 K) ∧ (M 16 x1.toNatClampNeg = 0 → mj_Cm 56 5 [.ref 0, .int x1] M (mj_k 0 51 6 72 [some (.ref 0), some (.int x1)] [] 0 none K))))) : mj_W 0 51 6 44 [some (.ref 0), some (.int x1)] [] M 0 K := by
  refine b51_44 ?_
  refine ⟨fun c1 => ?_, fun c1 => ?_⟩
  · have h1a := h.1 c1
    refine b51_78 ?_
    exact h1a
  · have h1a := h.2 c1
    refine b51_55 ?_
    have g2 := h1a.1
    refine ⟨g2, ?_⟩
    have h2 := h1a.2
    refine ⟨fun c3 => ?_, fun c3 => ?_⟩
    · have h3a := h2.1 c3
      refine b51_72 ?_
      exact h3a
    · have h3a := h2.2 c3
      refine b51_67 ?_
      exact h3a

theorem t51_14 {M : mj_M} {K : mj_K} {o1 : Option Value} (h : mj_W 0 51 6 16 [some (.ref 0), some (.int 0)] [] M 0 K) : mj_W 0 51 6 14 [some (.ref 0), o1] [] M 0 K := by
  refine b51_14 ?_
  exact h

theorem t51_42 {M : mj_M} {K : mj_K} {x1 : Int32} (h : mj_W 0 51 6 44 [some (.ref 0), some (.int 0)] [] M 0 K) : mj_W 0 51 6 42 [some (.ref 0), some (.int x1)] [] M 0 K := by
  refine b51_42 ?_
  exact h

theorem t51_32 {M : mj_M} {K : mj_K} {x1 : Int32} (h : mj_W 0 51 6 16 [some (.ref 0), some (.int (x1 + 1))] [] M 0 K) : mj_W 0 51 6 32 [some (.ref 0), some (.int x1)] [] M 0 K := by
  refine b51_32 ?_
  exact h

theorem t51_85 {M : mj_M} {K : mj_K} {x1 : Int32} (h : K 0 0 M) : mj_W 0 51 6 85 [some (.ref 0), some (.int x1)] [] M 0 K := by
  refine b51_85 ?_
  exact h

theorem t51_72 {M : mj_M} {K : mj_K} {x1 : Int32} (h : mj_W 0 51 6 44 [some (.ref 0), some (.int (x1 + 1))] [] M 0 K) : mj_W 0 51 6 72 [some (.ref 0), some (.int x1)] [] M 0 K := by
  refine b51_72 ?_
  exact h

theorem t52_0 {M : mj_M} {K : mj_K}  (h : mj_W 0 52 4 2 [some (.ref 0), some (.int 0), none] [] M 0 K) : mj_W 0 52 4 0 [some (.ref 0), none, none] [] M 0 K := by
  refine b52_0 ?_
  exact h
theorem e52 {M : mj_M} {K : mj_K}  (h : mj_W 0 52 4 2 [some (.ref 0), some (.int 0), none] [] M 0 K) : mj_Cm 52 4 [.ref 0] M K := mj_en rfl rfl rfl (t52_0 h)

theorem t52_2 {M : mj_M} {K : mj_K} {x1 : Int32} {o2 : Option Value} (h : (M 20 0 ≤ x1 → K 0 0 M) ∧ (¬ M 20 0 ≤ x1 → vp_in x1 120 ∧ ((¬ M 21 x1.toNatClampNeg = 1 → mj_W 0 52 4 2 [some (.ref 0), some (.int (x1 + 1)), some (.int (M 22 x1.toNatClampNeg))] [] M 0 K) ∧ (M 21 x1.toNatClampNeg = 1 → (M 0 5 < M 26 x1.toNatClampNeg → mj_W 0 52 4 2 [some (.ref 0), some (.int (x1 + 1)), some (.int (M 22 x1.toNatClampNeg))] [] M 0 K) ∧ (¬ M 0 5 < M 26 x1.toNatClampNeg → (¬ (p0 M (M 22 x1.toNatClampNeg)) → mj_W 0 52 4 2 [some (.ref 0), some (.int (x1 + 1)), some (.int (M 22 x1.toNatClampNeg))] [] M 0 K) ∧ ((p0 M (M 22 x1.toNatClampNeg)) → vp_in (M 22 x1.toNatClampNeg) 10 ∧ mj_Cm 48 3 [.ref 0, .int x1] (mj_u (mj_u (mj_u M 21 x1.toNatClampNeg 0) 4 ((M 22 x1.toNatClampNeg).toNatClampNeg) (M 4 ((M 22 x1.toNatClampNeg).toNatClampNeg) - 1)) 5 ((M 22 x1.toNatClampNeg).toNatClampNeg) (M 5 ((M 22 x1.toNatClampNeg).toNatClampNeg) + 1)) (mj_k 0 52 4 104 [some (.ref 0), some (.int x1), some (.int (M 22 x1.toNatClampNeg))] [] 0 none K))))))) : mj_W 0 52 4 2 [some (.ref 0), some (.int x1), o2] [] M 0 K := by
  refine b52_2 ?_
  refine ⟨fun c1 => ?_, fun c1 => ?_⟩
  · have h1a := h.1 c1
    refine b52_110 ?_
    exact h1a
  · have h1a := h.2 c1
    refine b52_13 ?_
    have g2 := h1a.1
    refine ⟨g2, ?_⟩
    have h2 := h1a.2
    refine ⟨fun c3 => ?_, fun c3 => ?_⟩
    · have h3a := h2.1 c3
      refine b52_104 ?_
      exact h3a
    · have h3a := h2.2 c3
      refine b52_36 ?_
      refine ⟨g2, ?_⟩
      refine ⟨fun c4 => ?_, fun c4 => ?_⟩
      · have h4a := h3a.1 c4
        refine b52_104 ?_
        exact h4a
      · have h4a := h3a.2 c4
        refine b52_52 ?_
        refine sp0  ?_
        refine b52_60 ?_
        refine ⟨fun c5 => ?_, fun c5 => ?_⟩
        · have h5a := h4a.1 (mj_bi0.mp c5)
          refine b52_104 ?_
          exact h5a
        · have h5a := h4a.2 (mj_bi1.mp c5)
          refine b52_63 ?_
          refine ⟨g2, ?_⟩
          have g6 := h5a.1
          refine ⟨g6, ?_⟩
          have h6 := h5a.2
          exact h6

theorem t52_104 {M : mj_M} {K : mj_K} {x1 : Int32} {x2 : Int32} (h : mj_W 0 52 4 2 [some (.ref 0), some (.int (x1 + 1)), some (.int x2)] [] M 0 K) : mj_W 0 52 4 104 [some (.ref 0), some (.int x1), some (.int x2)] [] M 0 K := by
  refine b52_104 ?_
  exact h

theorem t53_0 {M : mj_M} {K : mj_K} {x1 : Int32} (h : (M 28 0).toInt ≤ ((12 : Nat) : Int) ∧ (((p29 M x1) → vp_in x1 12 ∧ mj_W 0 53 4 49 [some (.ref 0), some (.int x1), some (.int (M 29 x1.toNatClampNeg)), some (.int (if M 30 x1.toNatClampNeg - M 33 x1.toNatClampNeg < 4 then M 30 x1.toNatClampNeg - M 33 x1.toNatClampNeg else 4)), some (.int 0)] [] M 0 K) ∧ (¬ (p29 M x1) → K 0 0 M))) : mj_W 0 53 4 0 [some (.ref 0), some (.int x1), none, none, none] [] M 0 K := by
  refine b53_0 ?_
  have h1 := h.1
  have h2 := h.2
  refine sp29 h1 ?_
  refine b53_8 ?_
  refine ⟨fun c3 => ?_, fun c3 => ?_⟩
  · have h3a := h2.1 (mj_bi1.mp c3)
    refine b53_12 ?_
    have g4 := h3a.1
    refine ⟨g4, ?_⟩
    have h4 := h3a.2
    exact h4
  · have h3a := h2.2 (mj_bi0.mp c3)
    refine b53_11 ?_
    exact h3a
theorem e53 {M : mj_M} {K : mj_K} {x1 : Int32} (h : (M 28 0).toInt ≤ ((12 : Nat) : Int) ∧ (((p29 M x1) → vp_in x1 12 ∧ mj_W 0 53 4 49 [some (.ref 0), some (.int x1), some (.int (M 29 x1.toNatClampNeg)), some (.int (if M 30 x1.toNatClampNeg - M 33 x1.toNatClampNeg < 4 then M 30 x1.toNatClampNeg - M 33 x1.toNatClampNeg else 4)), some (.int 0)] [] M 0 K) ∧ (¬ (p29 M x1) → K 0 0 M))) : mj_Cm 53 4 [.ref 0, .int x1] M K := mj_en rfl rfl rfl (t53_0 h)

theorem t53_49 {M : mj_M} {K : mj_K} {x1 : Int32} {x2 : Int32} {x3 : Int32} {x4 : Int32} (h : (x3 ≤ x4 → vp_in x1 12 ∧ ((M 30 x1.toNatClampNeg ≤ M 33 x1.toNatClampNeg → (¬ (mj_u M 31 x1.toNatClampNeg (M 31 x1.toNatClampNeg - 1)) 31 x1.toNatClampNeg = 0 → K 0 0 (mj_u M 31 x1.toNatClampNeg (M 31 x1.toNatClampNeg - 1))) ∧ ((mj_u M 31 x1.toNatClampNeg (M 31 x1.toNatClampNeg - 1)) 31 x1.toNatClampNeg = 0 → K 0 0 (mj_u M 31 x1.toNatClampNeg (M 31 x1.toNatClampNeg - 1)))) ∧ (¬ M 30 x1.toNatClampNeg ≤ M 33 x1.toNatClampNeg → mj_Cm 24 3 [.ref 20, .int x2] (mj_u M 31 x1.toNatClampNeg (M 31 x1.toNatClampNeg - 1)) (mj_k 0 53 4 116 [some (.ref 0), some (.int x1), some (.int x2), some (.int x3), some (.int x4)] [] 0 (some .int) K)))) ∧ (¬ x3 ≤ x4 → mj_Cm 24 3 [.ref 20, .int x2] M (mj_k 0 53 4 64 [some (.ref 0), some (.int x1), some (.int x2), some (.int x3), some (.int x4)] [.ref 0] 0 (some .int) K))) : mj_W 0 53 4 49 [some (.ref 0), some (.int x1), some (.int x2), some (.int x3), some (.int x4)] [] M 0 K := by
  refine b53_49 ?_
  refine ⟨fun c1 => ?_, fun c1 => ?_⟩
  · have h1a := h.1 c1
    refine b53_74 ?_
    have g2 := h1a.1
    refine ⟨g2, ?_⟩
    have h2 := h1a.2
    refine ⟨fun c3 => ?_, fun c3 => ?_⟩
    · have h3a := h2.1 c3
      refine b53_124 ?_
      refine b53_125 ?_
      refine ⟨g2, ?_⟩
      refine ⟨fun c4 => ?_, fun c4 => ?_⟩
      · have h4a := h3a.1 c4
        refine b53_180 ?_
        exact h4a
      · have h4a := h3a.2 c4
        refine b53_139 ?_
        refine ⟨fun _ => ?_, fun c => absurd c (by decide)⟩
        · refine b53_180 ?_
          exact h4a
    · have h3a := h2.2 c3
      refine b53_108 ?_
      exact h3a
  · have h1a := h.2 c1
    refine b53_55 ?_
    exact h1a

theorem t53_116 {M : mj_M} {K : mj_K} {x1 : Int32} {x2 : Int32} {x3 : Int32} {x4 : Int32} {s0 : Int32} (h : (s0 = (-1) → vp_in x1 12 ∧ ((¬ M 31 x1.toNatClampNeg = 0 → K 0 0 M) ∧ (M 31 x1.toNatClampNeg = 0 → K 0 0 M))) ∧ (¬ s0 = (-1) → vp_in x1 12 ∧ ((¬ M 31 x1.toNatClampNeg = 0 → K 0 0 M) ∧ (M 31 x1.toNatClampNeg = 0 → (3 ≤ M 32 x1.toNatClampNeg → K 0 0 M) ∧ (¬ 3 ≤ M 32 x1.toNatClampNeg → K 0 0 (mj_u (mj_u M 32 x1.toNatClampNeg (M 32 x1.toNatClampNeg + 1)) 31 x1.toNatClampNeg 1)))))) : mj_W 0 53 4 116 [some (.ref 0), some (.int x1), some (.int x2), some (.int x3), some (.int x4)] [.int s0] M 0 K := by
  refine b53_116 ?_
  refine ⟨fun c1 => ?_, fun c1 => ?_⟩
  · have h1a := h.1 c1
    refine b53_124 ?_
    refine b53_125 ?_
    have g2 := h1a.1
    refine ⟨g2, ?_⟩
    have h2 := h1a.2
    refine ⟨fun c3 => ?_, fun c3 => ?_⟩
    · have h3a := h2.1 c3
      refine b53_180 ?_
      exact h3a
    · have h3a := h2.2 c3
      refine b53_139 ?_
      refine ⟨fun _ => ?_, fun c => absurd c (by decide)⟩
      · refine b53_180 ?_
        exact h3a
  · have h1a := h.2 c1
    refine b53_120 ?_
    refine b53_125 ?_
    have g4 := h1a.1
    refine ⟨g4, ?_⟩
    have h4 := h1a.2
    refine ⟨fun c5 => ?_, fun c5 => ?_⟩
    · have h5a := h4.1 c5
      refine b53_180 ?_
      exact h5a
    · have h5a := h4.2 c5
      refine b53_139 ?_
      refine ⟨fun c => absurd c (by decide), fun _ => ?_⟩
      · refine b53_144 ?_
        refine ⟨g4, ?_⟩
        refine ⟨fun c6 => ?_, fun c6 => ?_⟩
        · have h6a := h5a.1 c6
          refine b53_180 ?_
          exact h6a
        · have h6a := h5a.2 c6
          refine b53_157 ?_
          refine ⟨g4, ?_⟩
          refine b53_180 ?_
          exact h6a

theorem t53_64 {M : mj_M} {K : mj_K} {x1 : Int32} {x2 : Int32} {x3 : Int32} {x4 : Int32} {s1 : Int32} (h : mj_Cm 54 2 [.ref 0, .int s1, .int x1] M (mj_k 0 53 4 68 [some (.ref 0), some (.int x1), some (.int x2), some (.int x3), some (.int x4)] [] 0 none K)) : mj_W 0 53 4 64 [some (.ref 0), some (.int x1), some (.int x2), some (.int x3), some (.int x4)] [.int s1, .ref 0] M 0 K := by
  refine b53_64 ?_
  exact h

theorem t53_68 {M : mj_M} {K : mj_K} {x1 : Int32} {x2 : Int32} {x3 : Int32} {x4 : Int32} (h : mj_W 0 53 4 49 [some (.ref 0), some (.int x1), some (.int x2), some (.int x3), some (.int (x4 + 1))] [] M 0 K) : mj_W 0 53 4 68 [some (.ref 0), some (.int x1), some (.int x2), some (.int x3), some (.int x4)] [] M 0 K := by
  refine b53_68 ?_
  exact h

theorem t54_0 {M : mj_M} {K : mj_K} {x1 : Int32} {x2 : Int32} (h : (¬ (p18 M x1) → K 0 0 M) ∧ ((p18 M x1) → vp_in x1 120 ∧ ((¬ (p0 M (M 22 x1.toNatClampNeg)) → K 0 0 M) ∧ ((p0 M (M 22 x1.toNatClampNeg)) → (¬ (p27 M x2) → K 0 0 M) ∧ ((p27 M x2) → vp_in (M 22 x1.toNatClampNeg) 10 ∧ vp_in x2 12 ∧ K 0 0 (mj_u (mj_u (mj_u M 21 x1.toNatClampNeg 2) 6 ((M 22 x1.toNatClampNeg).toNatClampNeg) (M 6 ((M 22 x1.toNatClampNeg).toNatClampNeg) + 1)) 33 x2.toNatClampNeg (M 33 x2.toNatClampNeg + 1))))))) : mj_W 0 54 2 0 [some (.ref 0), some (.int x1), some (.int x2)] [] M 0 K := by
  refine b54_0 ?_
  refine sp18  ?_
  refine b54_8 ?_
  refine ⟨fun c1 => ?_, fun c1 => ?_⟩
  · have h1a := h.1 (mj_bi0.mp c1)
    refine b54_85 ?_
    exact h1a
  · have h1a := h.2 (mj_bi1.mp c1)
    refine b54_11 ?_
    have g2 := h1a.1
    refine ⟨g2, ?_⟩
    have h2 := h1a.2
    refine sp0  ?_
    refine b54_27 ?_
    refine ⟨fun c3 => ?_, fun c3 => ?_⟩
    · have h3a := h2.1 (mj_bi0.mp c3)
      refine b54_85 ?_
      exact h3a
    · have h3a := h2.2 (mj_bi1.mp c3)
      refine b54_30 ?_
      refine sp27  ?_
      refine b54_38 ?_
      refine ⟨fun c4 => ?_, fun c4 => ?_⟩
      · have h4a := h3a.1 (mj_bi0.mp c4)
        refine b54_85 ?_
        exact h4a
      · have h4a := h3a.2 (mj_bi1.mp c4)
        refine b54_41 ?_
        refine ⟨g2, ?_⟩
        have g5 := h4a.1
        refine ⟨g5, ?_⟩
        have h5 := h4a.2
        have g6 := h5.1
        refine ⟨g6, ?_⟩
        have h6 := h5.2
        refine b54_85 ?_
        exact h6
theorem e54 {M : mj_M} {K : mj_K} {x1 : Int32} {x2 : Int32} (h : (¬ (p18 M x1) → K 0 0 M) ∧ ((p18 M x1) → vp_in x1 120 ∧ ((¬ (p0 M (M 22 x1.toNatClampNeg)) → K 0 0 M) ∧ ((p0 M (M 22 x1.toNatClampNeg)) → (¬ (p27 M x2) → K 0 0 M) ∧ ((p27 M x2) → vp_in (M 22 x1.toNatClampNeg) 10 ∧ vp_in x2 12 ∧ K 0 0 (mj_u (mj_u (mj_u M 21 x1.toNatClampNeg 2) 6 ((M 22 x1.toNatClampNeg).toNatClampNeg) (M 6 ((M 22 x1.toNatClampNeg).toNatClampNeg) + 1)) 33 x2.toNatClampNeg (M 33 x2.toNatClampNeg + 1))))))) : mj_Cm 54 2 [.ref 0, .int x1, .int x2] M K := mj_en rfl rfl rfl (t54_0 h)

theorem t55_0 {M : mj_M} {K : mj_K}  (h : mj_W 0 55 4 2 [some (.ref 0), some (.int 0)] [] M 0 K) : mj_W 0 55 4 0 [some (.ref 0), none] [] M 0 K := by
  refine b55_0 ?_
  exact h
theorem e55 {M : mj_M} {K : mj_K}  (h : mj_W 0 55 4 2 [some (.ref 0), some (.int 0)] [] M 0 K) : mj_Cm 55 4 [.ref 0] M K := mj_en rfl rfl rfl (t55_0 h)

theorem t55_2 {M : mj_M} {K : mj_K} {x1 : Int32} (h : (M 20 0 ≤ x1 → K 0 0 M) ∧ (¬ M 20 0 ≤ x1 → mj_Cm 44 3 [.ref 0, .int x1] M (mj_k 0 55 4 23 [some (.ref 0), some (.int x1)] [.int x1, .ref 38] 0 (some .int) K))) : mj_W 0 55 4 2 [some (.ref 0), some (.int x1)] [] M 0 K := by
  refine b55_2 ?_
  refine ⟨fun c1 => ?_, fun c1 => ?_⟩
  · have h1a := h.1 c1
    refine b55_77 ?_
    exact h1a
  · have h1a := h.2 c1
    refine b55_13 ?_
    exact h1a

theorem t55_23 {M : mj_M} {K : mj_K} {x1 : Int32} {s1 : Int32} {s2 : Int32} (h : vp_in s1 120 ∧ (((mj_u M 38 s1.toNatClampNeg s2) 20 0).toInt ≤ ((120 : Nat) : Int) ∧ (((p22 (mj_u M 38 s1.toNatClampNeg s2) x1) → mj_W 0 55 4 2 [some (.ref 0), some (.int (x1 + 1))] [] (mj_u M 38 s1.toNatClampNeg s2) 0 K) ∧ (¬ (p22 (mj_u M 38 s1.toNatClampNeg s2) x1) → vp_in x1 120 ∧ (((mj_u M 38 s1.toNatClampNeg s2) 8 0).toInt ≤ ((14 : Nat) : Int) ∧ ((¬ (p11 (mj_u M 38 s1.toNatClampNeg s2) ((mj_u M 38 s1.toNatClampNeg s2) 38 x1.toNatClampNeg)) → mj_W 0 55 4 2 [some (.ref 0), some (.int (x1 + 1))] [] (mj_u M 38 s1.toNatClampNeg s2) 0 K) ∧ ((p11 (mj_u M 38 s1.toNatClampNeg s2) ((mj_u M 38 s1.toNatClampNeg s2) 38 x1.toNatClampNeg)) → mj_W 0 55 4 2 [some (.ref 0), some (.int (x1 + 1))] [] (mj_u (mj_u (mj_u M 38 s1.toNatClampNeg s2) 24 x1.toNatClampNeg ((M 24 x1.toNatClampNeg) ||| 2)) 38 x1.toNatClampNeg (-1)) 0 K))))))) : mj_W 0 55 4 23 [some (.ref 0), some (.int x1)] [.int s2, .int s1, .ref 38] M 0 K := by
  refine b55_23 ?_
  have g1 := h.1
  refine ⟨g1, ?_⟩
  have h1 := h.2
  have h2 := h1.1
  have h3 := h1.2
  refine sp22 h2 ?_
  refine b55_32 ?_
  refine ⟨fun c4 => ?_, fun c4 => ?_⟩
  · have h4a := h3.1 (mj_bi1.mp c4)
    refine b55_71 ?_
    exact h4a
  · have h4a := h3.2 (mj_bi0.mp c4)
    refine b55_35 ?_
    have g5 := h4a.1
    refine ⟨g5, ?_⟩
    have h5 := h4a.2
    have h6 := h5.1
    have h7 := h5.2
    refine sp11 h6 ?_
    refine b55_48 ?_
    refine ⟨fun c8 => ?_, fun c8 => ?_⟩
    · have h8a := h7.1 (mj_bi0.mp c8)
      refine b55_71 ?_
      exact h8a
    · have h8a := h7.2 (mj_bi1.mp c8)
      refine b55_51 ?_
      refine ⟨g5, ?_⟩
      refine b55_71 ?_
      exact h8a

theorem t56_0 {M : mj_M} {K : mj_K} {x1 : Int32} (h : mj_Cm 57 4 [.ref 0, .int x1] M (mj_k 0 56 5 5 [some (.ref 0), some (.int x1), none, none] [] 0 none K)) : mj_W 0 56 5 0 [some (.ref 0), some (.int x1), none, none] [] M 0 K := by
  refine b56_0 ?_
  exact h
theorem e56 {M : mj_M} {K : mj_K} {x1 : Int32} (h : mj_Cm 57 4 [.ref 0, .int x1] M (mj_k 0 56 5 5 [some (.ref 0), some (.int x1), none, none] [] 0 none K)) : mj_Cm 56 5 [.ref 0, .int x1] M K := mj_en rfl rfl rfl (t56_0 h)

theorem t56_12 {M : mj_M} {K : mj_K} {x1 : Int32} {x2 : Int32} {o3 : Option Value} (h : (M 0 8 ≤ x2 → K 0 0 M) ∧ (¬ M 0 8 ≤ x2 → (120 ≤ x2 → K 0 0 M) ∧ (¬ 120 ≤ x2 → vp_in x2 120 ∧ ((M 20 0).toInt ≤ ((120 : Nat) : Int) ∧ ((¬ (p20 M (M 39 x2.toNatClampNeg)) → mj_W 0 56 5 12 [some (.ref 0), some (.int x1), some (.int (x2 + 1)), some (.int (M 39 x2.toNatClampNeg))] [] M 0 K) ∧ ((p20 M (M 39 x2.toNatClampNeg)) → mj_Cm 59 4 [.ref 0, .int (M 39 x2.toNatClampNeg), .int x1] M (mj_k 0 56 5 50 [some (.ref 0), some (.int x1), some (.int x2), some (.int (M 39 x2.toNatClampNeg))] [] 0 none K))))))) : mj_W 0 56 5 12 [some (.ref 0), some (.int x1), some (.int x2), o3] [] M 0 K := by
  refine b56_12 ?_
  refine ⟨fun c1 => ?_, fun c1 => ?_⟩
  · have h1a := h.1 c1
    refine b56_56 ?_
    exact h1a
  · have h1a := h.2 c1
    refine b56_20 ?_
    refine ⟨fun c2 => ?_, fun c2 => ?_⟩
    · have h2a := h1a.1 c2
      refine b56_56 ?_
      exact h2a
    · have h2a := h1a.2 c2
      refine b56_26 ?_
      have g3 := h2a.1
      refine ⟨g3, ?_⟩
      have h3 := h2a.2
      have h4 := h3.1
      have h5 := h3.2
      refine sp20 h4 ?_
      refine b56_41 ?_
      refine ⟨fun c6 => ?_, fun c6 => ?_⟩
      · have h6a := h5.1 (mj_bi0.mp c6)
        refine b56_50 ?_
        exact h6a
      · have h6a := h5.2 (mj_bi1.mp c6)
        refine b56_44 ?_
        exact h6a

theorem t56_5 {M : mj_M} {K : mj_K} {x1 : Int32} {o2 : Option Value} {o3 : Option Value} (h : mj_W 0 56 5 12 [some (.ref 0), some (.int x1), some (.int 0), o3] [] (mj_u M 0 9 0) 0 K) : mj_W 0 56 5 5 [some (.ref 0), some (.int x1), o2, o3] [] M 0 K := by
  refine b56_5 ?_
  exact h

theorem t56_50 {M : mj_M} {K : mj_K} {x1 : Int32} {x2 : Int32} {x3 : Int32} (h : mj_W 0 56 5 12 [some (.ref 0), some (.int x1), some (.int (x2 + 1)), some (.int x3)] [] M 0 K) : mj_W 0 56 5 50 [some (.ref 0), some (.int x1), some (.int x2), some (.int x3)] [] M 0 K := by
  refine b56_50 ?_
  exact h

theorem t57_0 {M : mj_M} {K : mj_K} {x1 : Int32} (h : (¬ (p7 (mj_u M 0 8 0) x1) → mj_W 0 57 4 37 [some (.ref 0), some (.int x1), some (.int 0), some (.int 0)] [] (mj_u M 0 8 0) 0 K) ∧ ((p7 (mj_u M 0 8 0) x1) → vp_in x1 14 ∧ ((¬ M 9 x1.toNatClampNeg = 2 → mj_W 0 57 4 37 [some (.ref 0), some (.int x1), some (.int 0), some (.int 0)] [] (mj_u M 0 8 0) 0 K) ∧ (M 9 x1.toNatClampNeg = 2 → mj_W 0 57 4 37 [some (.ref 0), some (.int x1), some (.int 1), some (.int 0)] [] (mj_u M 0 8 0) 0 K)))) : mj_W 0 57 4 0 [some (.ref 0), some (.int x1), none, none] [] M 0 K := by
  refine b57_0 ?_
  refine sp7  ?_
  refine b57_13 ?_
  refine ⟨fun c1 => ?_, fun c1 => ?_⟩
  · have h1a := h.1 (mj_bi0.mp c1)
    refine b57_33 ?_
    refine b57_34 ?_
    exact h1a
  · have h1a := h.2 (mj_bi1.mp c1)
    refine b57_16 ?_
    have g2 := h1a.1
    refine ⟨g2, ?_⟩
    have h2 := h1a.2
    refine ⟨fun c3 => ?_, fun c3 => ?_⟩
    · have h3a := h2.1 c3
      refine b57_33 ?_
      refine b57_34 ?_
      exact h3a
    · have h3a := h2.2 c3
      refine b57_29 ?_
      refine b57_34 ?_
      exact h3a
theorem e57 {M : mj_M} {K : mj_K} {x1 : Int32} (h : (¬ (p7 (mj_u M 0 8 0) x1) → mj_W 0 57 4 37 [some (.ref 0), some (.int x1), some (.int 0), some (.int 0)] [] (mj_u M 0 8 0) 0 K) ∧ ((p7 (mj_u M 0 8 0) x1) → vp_in x1 14 ∧ ((¬ M 9 x1.toNatClampNeg = 2 → mj_W 0 57 4 37 [some (.ref 0), some (.int x1), some (.int 0), some (.int 0)] [] (mj_u M 0 8 0) 0 K) ∧ (M 9 x1.toNatClampNeg = 2 → mj_W 0 57 4 37 [some (.ref 0), some (.int x1), some (.int 1), some (.int 0)] [] (mj_u M 0 8 0) 0 K)))) : mj_Cm 57 4 [.ref 0, .int x1] M K := mj_en rfl rfl rfl (t57_0 h)

theorem t57_37 {M : mj_M} {K : mj_K} {x1 : Int32} {x2 : Int32} {x3 : Int32} (h : (M 20 0 ≤ x3 → K 0 0 M) ∧ (¬ M 20 0 ≤ x3 → vp_in x3 120 ∧ ((¬ M 38 x3.toNatClampNeg = x1 → mj_W 0 57 4 37 [some (.ref 0), some (.int x1), some (.int x2), some (.int (x3 + 1))] [] M 0 K) ∧ (M 38 x3.toNatClampNeg = x1 → mj_Cm 58 3 [.ref 0, .int x3, .int x2] M (mj_k 0 57 4 64 [some (.ref 0), some (.int x1), some (.int x2), some (.int x3)] [] 0 none K))))) : mj_W 0 57 4 37 [some (.ref 0), some (.int x1), some (.int x2), some (.int x3)] [] M 0 K := by
  refine b57_37 ?_
  refine ⟨fun c1 => ?_, fun c1 => ?_⟩
  · have h1a := h.1 c1
    refine b57_70 ?_
    exact h1a
  · have h1a := h.2 c1
    refine b57_48 ?_
    have g2 := h1a.1
    refine ⟨g2, ?_⟩
    have h2 := h1a.2
    refine ⟨fun c3 => ?_, fun c3 => ?_⟩
    · have h3a := h2.1 c3
      refine b57_64 ?_
      exact h3a
    · have h3a := h2.2 c3
      refine b57_58 ?_
      exact h3a

theorem t57_64 {M : mj_M} {K : mj_K} {x1 : Int32} {x2 : Int32} {x3 : Int32} (h : mj_W 0 57 4 37 [some (.ref 0), some (.int x1), some (.int x2), some (.int (x3 + 1))] [] M 0 K) : mj_W 0 57 4 64 [some (.ref 0), some (.int x1), some (.int x2), some (.int x3)] [] M 0 K := by
  refine b57_64 ?_
  exact h

theorem t58_0 {M : mj_M} {K : mj_K} {x1 : Int32} {x2 : Int32} (h : (M 0 8 < 120 → mj_W 0 58 3 15 [some (.ref 0), some (.int x1), some (.int x2), some (.int (M 0 8))] [] M 0 K) ∧ (¬ M 0 8 < 120 → K 0 0 M)) : mj_W 0 58 3 0 [some (.ref 0), some (.int x1), some (.int x2), none] [] M 0 K := by
  refine b58_0 ?_
  refine ⟨fun c1 => ?_, fun c1 => ?_⟩
  · have h1a := h.1 c1
    refine b58_10 ?_
    exact h1a
  · have h1a := h.2 c1
    refine b58_9 ?_
    exact h1a
theorem e58 {M : mj_M} {K : mj_K} {x1 : Int32} {x2 : Int32} (h : (M 0 8 < 120 → mj_W 0 58 3 15 [some (.ref 0), some (.int x1), some (.int x2), some (.int (M 0 8))] [] M 0 K) ∧ (¬ M 0 8 < 120 → K 0 0 M)) : mj_Cm 58 3 [.ref 0, .int x1, .int x2] M K := mj_en rfl rfl rfl (t58_0 h)

theorem t58_15 {M : mj_M} {K : mj_K} {x1 : Int32} {x2 : Int32} {x3 : Int32} (h : (x3 ≤ 0 → vp_in x3 120 ∧ K 0 0 (mj_u (mj_u M 39 x3.toNatClampNeg x1) 0 8 (M 0 8 + 1))) ∧ (¬ x3 ≤ 0 → vp_in (x3 - 1) 120 ∧ ((M 20 0).toInt ≤ ((120 : Nat) : Int) ∧ ((¬ (p25 M x1 (M 39 ((x3 - 1).toNatClampNeg)) x2) → vp_in x3 120 ∧ K 0 0 (mj_u (mj_u M 39 x3.toNatClampNeg x1) 0 8 (M 0 8 + 1))) ∧ ((p25 M x1 (M 39 ((x3 - 1).toNatClampNeg)) x2) → vp_in x3 120 ∧ mj_W 0 58 3 15 [some (.ref 0), some (.int x1), some (.int x2), some (.int (x3 + (-1)))] [] (mj_u M 39 x3.toNatClampNeg (M 39 ((x3 - 1).toNatClampNeg))) 0 K))))) : mj_W 0 58 3 15 [some (.ref 0), some (.int x1), some (.int x2), some (.int x3)] [] M 0 K := by
  refine b58_15 ?_
  refine ⟨fun c1 => ?_, fun c1 => ?_⟩
  · have h1a := h.1 c1
    refine b58_59 ?_
    have g2 := h1a.1
    refine ⟨g2, ?_⟩
    have h2 := h1a.2
    exact h2
  · have h1a := h.2 c1
    refine b58_19 ?_
    have g3 := h1a.1
    refine ⟨g3, ?_⟩
    have h3 := h1a.2
    have h4 := h3.1
    have h5 := h3.2
    refine sp25 h4 ?_
    refine b58_36 ?_
    refine ⟨fun c6 => ?_, fun c6 => ?_⟩
    · have h6a := h5.1 (mj_bi0.mp c6)
      refine b58_59 ?_
      have g7 := h6a.1
      refine ⟨g7, ?_⟩
      have h7 := h6a.2
      exact h7
    · have h6a := h5.2 (mj_bi1.mp c6)
      refine b58_39 ?_
      refine ⟨g3, ?_⟩
      have g8 := h6a.1
      refine ⟨g8, ?_⟩
      have h8 := h6a.2
      exact h8

theorem t59_0 {M : mj_M} {K : mj_K} {x1 : Int32} {x2 : Int32} (h : mj_Cm 60 3 [.ref 0, .int x1, .int x2] M (mj_k 0 59 4 6 [some (.ref 0), some (.int x1), some (.int x2), none, none, none] [] 0 (some .int) K)) : mj_W 0 59 4 0 [some (.ref 0), some (.int x1), some (.int x2), none, none, none] [] M 0 K := by
  refine b59_0 ?_
  exact h
theorem e59 {M : mj_M} {K : mj_K} {x1 : Int32} {x2 : Int32} (h : mj_Cm 60 3 [.ref 0, .int x1, .int x2] M (mj_k 0 59 4 6 [some (.ref 0), some (.int x1), some (.int x2), none, none, none] [] 0 (some .int) K)) : mj_Cm 59 4 [.ref 0, .int x1, .int x2] M K := mj_en rfl rfl rfl (t59_0 h)

theorem t59_49 {M : mj_M} {K : mj_K} {x1 : Int32} {x2 : Int32} {x3 : Int32} {x4 : Int32} {x5 : Int32} (h : (M 20 0 ≤ x5 → K 0 0 M) ∧ (¬ M 20 0 ≤ x5 → vp_in x5 120 ∧ ((¬ M 25 x5.toNatClampNeg = x4 → mj_W 0 59 4 49 [some (.ref 0), some (.int x1), some (.int x2), some (.int x3), some (.int x4), some (.int (x5 + 1))] [] M 0 K) ∧ (M 25 x5.toNatClampNeg = x4 → (M 20 0).toInt ≤ ((120 : Nat) : Int) ∧ ((¬ (p20 M x5) → mj_W 0 59 4 49 [some (.ref 0), some (.int x1), some (.int x2), some (.int x3), some (.int x4), some (.int (x5 + 1))] [] M 0 K) ∧ ((p20 M x5) → mj_Cm 62 3 [.ref 0, .int x5, .int x2] M (mj_k 0 59 4 95 [some (.ref 0), some (.int x1), some (.int x2), some (.int x3), some (.int x4), some (.int x5)] [] 0 none K))))))) : mj_W 0 59 4 49 [some (.ref 0), some (.int x1), some (.int x2), some (.int x3), some (.int x4), some (.int x5)] [] M 0 K := by
  refine b59_49 ?_
  refine ⟨fun c1 => ?_, fun c1 => ?_⟩
  · have h1a := h.1 c1
    refine b59_101 ?_
    exact h1a
  · have h1a := h.2 c1
    refine b59_61 ?_
    have g2 := h1a.1
    refine ⟨g2, ?_⟩
    have h2 := h1a.2
    refine ⟨fun c3 => ?_, fun c3 => ?_⟩
    · have h3a := h2.1 c3
      refine b59_95 ?_
      exact h3a
    · have h3a := h2.2 c3
      refine b59_76 ?_
      have h4 := h3a.1
      have h5 := h3a.2
      refine sp20 h4 ?_
      refine b59_85 ?_
      refine ⟨fun c6 => ?_, fun c6 => ?_⟩
      · have h6a := h5.1 (mj_bi0.mp c6)
        refine b59_95 ?_
        exact h6a
      · have h6a := h5.2 (mj_bi1.mp c6)
        refine b59_88 ?_
        exact h6a

theorem t59_6 {M : mj_M} {K : mj_K} {x1 : Int32} {x2 : Int32} {o3 : Option Value} {o4 : Option Value} {o5 : Option Value} {s0 : Int32} (h : (s0 = 0 → K 0 0 M) ∧ (¬ s0 = 0 → mj_Cm 61 3 [.ref 0, .int s0, .int x1, .int x2] M (mj_k 0 59 4 18 [some (.ref 0), some (.int x1), some (.int x2), some (.int s0), o4, o5] [] 0 (some .boolean) K))) : mj_W 0 59 4 6 [some (.ref 0), some (.int x1), some (.int x2), o3, o4, o5] [.int s0] M 0 K := by
  refine b59_6 ?_
  refine ⟨fun c1 => ?_, fun c1 => ?_⟩
  · have h1a := h.1 c1
    refine b59_21 ?_
    exact h1a
  · have h1a := h.2 c1
    refine b59_11 ?_
    exact h1a

theorem t59_95 {M : mj_M} {K : mj_K} {x1 : Int32} {x2 : Int32} {x3 : Int32} {x4 : Int32} {x5 : Int32} (h : mj_W 0 59 4 49 [some (.ref 0), some (.int x1), some (.int x2), some (.int x3), some (.int x4), some (.int (x5 + 1))] [] M 0 K) : mj_W 0 59 4 95 [some (.ref 0), some (.int x1), some (.int x2), some (.int x3), some (.int x4), some (.int x5)] [] M 0 K := by
  refine b59_95 ?_
  exact h

theorem t59_18 {M : mj_M} {K : mj_K} {x1 : Int32} {x2 : Int32} {x3 : Int32} {o4 : Option Value} {o5 : Option Value} {s0 : Int32} (h : (¬ s0 = 0 → vp_in x1 120 ∧ ((¬ M 25 x1.toNatClampNeg = (-1) → mj_W 0 59 4 49 [some (.ref 0), some (.int x1), some (.int x2), some (.int x3), some (.int (M 25 x1.toNatClampNeg)), some (.int 0)] [] M 0 K) ∧ (M 25 x1.toNatClampNeg = (-1) → mj_Cm 62 3 [.ref 0, .int x1, .int x2] M (mj_k 0 59 4 45 [some (.ref 0), some (.int x1), some (.int x2), some (.int x3), some (.int (M 25 x1.toNatClampNeg)), o5] [] 0 none K)))) ∧ (s0 = 0 → K 0 0 M)) : mj_W 0 59 4 18 [some (.ref 0), some (.int x1), some (.int x2), some (.int x3), o4, o5] [.int s0] M 0 K := by
  refine b59_18 ?_
  refine ⟨fun c1 => ?_, fun c1 => ?_⟩
  · have h1a := h.1 c1
    refine b59_22 ?_
    have g2 := h1a.1
    refine ⟨g2, ?_⟩
    have h2 := h1a.2
    refine ⟨fun c3 => ?_, fun c3 => ?_⟩
    · have h3a := h2.1 c3
      refine b59_46 ?_
      exact h3a
    · have h3a := h2.2 c3
      refine b59_39 ?_
      exact h3a
  · have h1a := h.2 c1
    refine b59_21 ?_
    exact h1a

theorem t59_45 {M : mj_M} {K : mj_K} {x1 : Int32} {x2 : Int32} {x3 : Int32} {x4 : Int32} {o5 : Option Value} (h : K 0 0 M) : mj_W 0 59 4 45 [some (.ref 0), some (.int x1), some (.int x2), some (.int x3), some (.int x4), o5] [] M 0 K := by
  refine b59_45 ?_
  exact h

theorem t60_0 {M : mj_M} {K : mj_K} {x1 : Int32} {x2 : Int32} (h : vp_in x1 120 ∧ ((¬ M 25 x1.toNatClampNeg = (-1) → mj_W 0 60 3 23 [some (.ref 0), some (.int x1), some (.int x2), some (.int (M 25 x1.toNatClampNeg)), some (.int 0), some (.int 0), none] [] M 0 K) ∧ (M 25 x1.toNatClampNeg = (-1) → K 0 1 M))) : mj_W 0 60 3 0 [some (.ref 0), some (.int x1), some (.int x2), none, none, none, none] [] M 0 K := by
  refine b60_0 ?_
  have g1 := h.1
  refine ⟨g1, ?_⟩
  have h1 := h.2
  refine ⟨fun c2 => ?_, fun c2 => ?_⟩
  · have h2a := h1.1 c2
    refine b60_17 ?_
    exact h2a
  · have h2a := h1.2 c2
    refine b60_15 ?_
    exact h2a
theorem e60 {M : mj_M} {K : mj_K} {x1 : Int32} {x2 : Int32} (h : vp_in x1 120 ∧ ((¬ M 25 x1.toNatClampNeg = (-1) → mj_W 0 60 3 23 [some (.ref 0), some (.int x1), some (.int x2), some (.int (M 25 x1.toNatClampNeg)), some (.int 0), some (.int 0), none] [] M 0 K) ∧ (M 25 x1.toNatClampNeg = (-1) → K 0 1 M))) : mj_Cm 60 3 [.ref 0, .int x1, .int x2] M K := mj_en rfl rfl rfl (t60_0 h)

theorem t60_23 {M : mj_M} {K : mj_K} {x1 : Int32} {x2 : Int32} {x3 : Int32} {x4 : Int32} {x5 : Int32} {o6 : Option Value} (h : (M 20 0 ≤ x5 → K 0 x4 M) ∧ (¬ M 20 0 ≤ x5 → vp_in x5 120 ∧ ((¬ M 25 x5.toNatClampNeg = x3 → mj_W 0 60 3 23 [some (.ref 0), some (.int x1), some (.int x2), some (.int x3), some (.int x4), some (.int (x5 + 1)), o6] [] M 0 K) ∧ (M 25 x5.toNatClampNeg = x3 → (M 20 0).toInt ≤ ((120 : Nat) : Int) ∧ ((¬ (p21 M x5) → mj_W 0 60 3 23 [some (.ref 0), some (.int x1), some (.int x2), some (.int x3), some (.int x4), some (.int (x5 + 1)), o6] [] M 0 K) ∧ ((p21 M x5) → (M 20 0).toInt ≤ ((120 : Nat) : Int) ∧ ((¬ (p20 M x5) → K 0 0 M) ∧ ((p20 M x5) → (¬ M 38 x5.toNatClampNeg = x2 → K 0 0 M) ∧ (M 38 x5.toNatClampNeg = x2 → vp_in x1 120 ∧ ((¬ M 22 x5.toNatClampNeg = M 22 x1.toNatClampNeg → K 0 0 M) ∧ (M 22 x5.toNatClampNeg = M 22 x1.toNatClampNeg → mj_W 0 60 3 23 [some (.ref 0), some (.int x1), some (.int x2), some (.int x3), some (.int (x4 + 1)), some (.int (x5 + 1)), some (.int 1)] [] M 0 K))))))))))) : mj_W 0 60 3 23 [some (.ref 0), some (.int x1), some (.int x2), some (.int x3), some (.int x4), some (.int x5), o6] [] M 0 K := by
  refine b60_23 ?_
  refine ⟨fun c1 => ?_, fun c1 => ?_⟩
  · have h1a := h.1 c1
    refine b60_129 ?_
    exact h1a
  · have h1a := h.2 c1
    refine b60_35 ?_
    have g2 := h1a.1
    refine ⟨g2, ?_⟩
    have h2 := h1a.2
    refine ⟨fun c3 => ?_, fun c3 => ?_⟩
    · have h3a := h2.1 c3
      refine b60_123 ?_
      exact h3a
    · have h3a := h2.2 c3
      refine b60_49 ?_
      have h4 := h3a.1
      have h5 := h3a.2
      refine sp21 h4 ?_
      refine b60_58 ?_
      refine ⟨fun c6 => ?_, fun c6 => ?_⟩
      · have h6a := h5.1 (mj_bi0.mp c6)
        refine b60_123 ?_
        exact h6a
      · have h6a := h5.2 (mj_bi1.mp c6)
        refine b60_61 ?_
        have h7 := h6a.1
        have h8 := h6a.2
        refine sp20 h7 ?_
        refine b60_70 ?_
        refine ⟨fun c9 => ?_, fun c9 => ?_⟩
        · have h9a := h8.1 (mj_bi0.mp c9)
          refine b60_110 ?_
          refine b60_111 ?_
          refine ⟨fun c => absurd c (by decide), fun _ => ?_⟩
          · refine b60_118 ?_
            exact h9a
        · have h9a := h8.2 (mj_bi1.mp c9)
          refine b60_73 ?_
          refine ⟨g2, ?_⟩
          refine ⟨fun c10 => ?_, fun c10 => ?_⟩
          · have h10a := h9a.1 c10
            refine b60_110 ?_
            refine b60_111 ?_
            refine ⟨fun c => absurd c (by decide), fun _ => ?_⟩
            · refine b60_118 ?_
              exact h10a
          · have h10a := h9a.2 c10
            refine b60_84 ?_
            refine ⟨g2, ?_⟩
            have g11 := h10a.1
            refine ⟨g11, ?_⟩
            have h11 := h10a.2
            refine ⟨fun c12 => ?_, fun c12 => ?_⟩
            · have h12a := h11.1 c12
              refine b60_110 ?_
              refine b60_111 ?_
              refine ⟨fun c => absurd c (by decide), fun _ => ?_⟩
              · refine b60_118 ?_
                exact h12a
            · have h12a := h11.2 c12
              refine b60_106 ?_
              refine b60_111 ?_
              refine ⟨fun _ => ?_, fun c => absurd c (by decide)⟩
              · refine b60_120 ?_
                refine b60_123 ?_
                exact h12a

theorem t61_0 {M : mj_M} {K : mj_K} {x1 : Int32} {x2 : Int32} {x3 : Int32} (h : (M 8 0).toInt ≤ ((14 : Nat) : Int) ∧ ((M 0 9 + x1 ≤ f10 M x3 → vp_in x2 120 ∧ ((M 8 0).toInt ≤ ((14 : Nat) : Int) ∧ ((M 1 0).toInt ≤ ((10 : Nat) : Int) ∧ ((f4 M (f12 M x3 (M 22 x2.toNatClampNeg) (M 24 x2.toNatClampNeg)) x1 < x1 → K 0 0 M) ∧ (¬ f4 M (f12 M x3 (M 22 x2.toNatClampNeg) (M 24 x2.toNatClampNeg)) x1 < x1 → K 0 1 M))))) ∧ (¬ M 0 9 + x1 ≤ f10 M x3 → (¬ M 0 9 = 0 → vp_in x2 120 ∧ ((M 8 0).toInt ≤ ((14 : Nat) : Int) ∧ K 0 0 M)) ∧ (M 0 9 = 0 → (f10 M x3 ≤ 0 → vp_in x2 120 ∧ ((M 8 0).toInt ≤ ((14 : Nat) : Int) ∧ K 0 0 M)) ∧ (¬ f10 M x3 ≤ 0 → vp_in x2 120 ∧ ((M 8 0).toInt ≤ ((14 : Nat) : Int) ∧ ((M 1 0).toInt ≤ ((10 : Nat) : Int) ∧ ((f4 M (f12 M x3 (M 22 x2.toNatClampNeg) (M 24 x2.toNatClampNeg)) x1 < x1 → K 0 0 M) ∧ (¬ f4 M (f12 M x3 (M 22 x2.toNatClampNeg) (M 24 x2.toNatClampNeg)) x1 < x1 → K 0 1 M))))))))) : mj_W 0 61 3 0 [some (.ref 0), some (.int x1), some (.int x2), some (.int x3), none, none, none] [] M 0 K := by
  refine b61_0 ?_
  have h1 := h.1
  have h2 := h.2
  refine sp10 h1 ?_
  refine b61_8 ?_
  refine ⟨fun c3 => ?_, fun c3 => ?_⟩
  · have h3a := h2.1 c3
    refine b61_33 ?_
    refine b61_38 ?_
    have g4 := h3a.1
    refine ⟨g4, ?_⟩
    have h4 := h3a.2
    have h5 := h4.1
    have h6 := h4.2
    refine sp12 h5 ?_
    refine b61_66 ?_
    refine ⟨fun c => absurd c (by decide), fun _ => ?_⟩
    · refine b61_73 ?_
      have h7 := h6.1
      have h8 := h6.2
      refine sp4 h7 ?_
      refine b61_83 ?_
      refine ⟨fun c9 => ?_, fun c9 => ?_⟩
      · have h9a := h8.1 c9
        refine b61_91 ?_
        refine b61_92 ?_
        rw [mj_nb0]
        exact h9a
      · have h9a := h8.2 c9
        refine b61_87 ?_
        refine b61_92 ?_
        rw [mj_nb1]
        exact h9a
  · have h3a := h2.2 c3
    refine b61_21 ?_
    refine ⟨fun c10 => ?_, fun c10 => ?_⟩
    · have h10a := h3a.1 c10
      refine b61_37 ?_
      refine b61_38 ?_
      have g11 := h10a.1
      refine ⟨g11, ?_⟩
      have h11 := h10a.2
      have h12 := h11.1
      have h13 := h11.2
      refine sp12 h12 ?_
      refine b61_66 ?_
      refine ⟨fun _ => ?_, fun c => absurd c (by decide)⟩
      · refine b61_91 ?_
        refine b61_92 ?_
        rw [mj_nb0]
        exact h13
    · have h10a := h3a.2 c10
      refine b61_28 ?_
      refine ⟨fun c14 => ?_, fun c14 => ?_⟩
      · have h14a := h10a.1 c14
        refine b61_37 ?_
        refine b61_38 ?_
        have g15 := h14a.1
        refine ⟨g15, ?_⟩
        have h15 := h14a.2
        have h16 := h15.1
        have h17 := h15.2
        refine sp12 h16 ?_
        refine b61_66 ?_
        refine ⟨fun _ => ?_, fun c => absurd c (by decide)⟩
        · refine b61_91 ?_
          refine b61_92 ?_
          rw [mj_nb0]
          exact h17
      · have h14a := h10a.2 c14
        refine b61_33 ?_
        refine b61_38 ?_
        have g18 := h14a.1
        refine ⟨g18, ?_⟩
        have h18 := h14a.2
        have h19 := h18.1
        have h20 := h18.2
        refine sp12 h19 ?_
        refine b61_66 ?_
        refine ⟨fun c => absurd c (by decide), fun _ => ?_⟩
        · refine b61_73 ?_
          have h21 := h20.1
          have h22 := h20.2
          refine sp4 h21 ?_
          refine b61_83 ?_
          refine ⟨fun c23 => ?_, fun c23 => ?_⟩
          · have h23a := h22.1 c23
            refine b61_91 ?_
            refine b61_92 ?_
            rw [mj_nb0]
            exact h23a
          · have h23a := h22.2 c23
            refine b61_87 ?_
            refine b61_92 ?_
            rw [mj_nb1]
            exact h23a
theorem e61 {M : mj_M} {K : mj_K} {x1 : Int32} {x2 : Int32} {x3 : Int32} (h : (M 8 0).toInt ≤ ((14 : Nat) : Int) ∧ ((M 0 9 + x1 ≤ f10 M x3 → vp_in x2 120 ∧ ((M 8 0).toInt ≤ ((14 : Nat) : Int) ∧ ((M 1 0).toInt ≤ ((10 : Nat) : Int) ∧ ((f4 M (f12 M x3 (M 22 x2.toNatClampNeg) (M 24 x2.toNatClampNeg)) x1 < x1 → K 0 0 M) ∧ (¬ f4 M (f12 M x3 (M 22 x2.toNatClampNeg) (M 24 x2.toNatClampNeg)) x1 < x1 → K 0 1 M))))) ∧ (¬ M 0 9 + x1 ≤ f10 M x3 → (¬ M 0 9 = 0 → vp_in x2 120 ∧ ((M 8 0).toInt ≤ ((14 : Nat) : Int) ∧ K 0 0 M)) ∧ (M 0 9 = 0 → (f10 M x3 ≤ 0 → vp_in x2 120 ∧ ((M 8 0).toInt ≤ ((14 : Nat) : Int) ∧ K 0 0 M)) ∧ (¬ f10 M x3 ≤ 0 → vp_in x2 120 ∧ ((M 8 0).toInt ≤ ((14 : Nat) : Int) ∧ ((M 1 0).toInt ≤ ((10 : Nat) : Int) ∧ ((f4 M (f12 M x3 (M 22 x2.toNatClampNeg) (M 24 x2.toNatClampNeg)) x1 < x1 → K 0 0 M) ∧ (¬ f4 M (f12 M x3 (M 22 x2.toNatClampNeg) (M 24 x2.toNatClampNeg)) x1 < x1 → K 0 1 M))))))))) : mj_Cm 61 3 [.ref 0, .int x1, .int x2, .int x3] M K := mj_en rfl rfl rfl (t61_0 h)

theorem t62_0 {M : mj_M} {K : mj_K} {x1 : Int32} {x2 : Int32} (h : vp_in x1 120 ∧ ((M 8 0).toInt ≤ ((14 : Nat) : Int) ∧ ((¬ (p0 M (M 22 x1.toNatClampNeg)) → K 0 0 M) ∧ ((p0 M (M 22 x1.toNatClampNeg)) → ((p0 M (f12 M x2 (M 22 x1.toNatClampNeg) (M 24 x1.toNatClampNeg))) → vp_in x2 14 ∧ ((¬ M 22 x1.toNatClampNeg = M 10 x2.toNatClampNeg → vp_in (M 22 x1.toNatClampNeg) 10 ∧ vp_in (f12 M x2 (M 22 x1.toNatClampNeg) (M 24 x1.toNatClampNeg)) 10 ∧ K 0 0 (mj_u (mj_u (mj_u (mj_u (mj_u (mj_u (mj_u M 15 x2.toNatClampNeg (M 15 x2.toNatClampNeg + 1)) 0 9 (M 0 9 + 1)) 6 ((M 22 x1.toNatClampNeg).toNatClampNeg) (M 6 ((M 22 x1.toNatClampNeg).toNatClampNeg) + 1)) 4 ((f12 M x2 (M 22 x1.toNatClampNeg) (M 24 x1.toNatClampNeg)).toNatClampNeg) (M 4 ((f12 M x2 (M 22 x1.toNatClampNeg) (M 24 x1.toNatClampNeg)).toNatClampNeg) + 1)) 21 x1.toNatClampNeg 1) 22 x1.toNatClampNeg (f12 M x2 (M 22 x1.toNatClampNeg) (M 24 x1.toNatClampNeg))) 26 x1.toNatClampNeg ((mj_u (mj_u M 15 x2.toNatClampNeg (M 15 x2.toNatClampNeg + 1)) 0 9 (M 0 9 + 1)) 0 5 + M 12 x2.toNatClampNeg))) ∧ (M 22 x1.toNatClampNeg = M 10 x2.toNatClampNeg → vp_in (M 22 x1.toNatClampNeg) 10 ∧ vp_in (f12 M x2 (M 22 x1.toNatClampNeg) (M 24 x1.toNatClampNeg)) 10 ∧ K 0 0 (mj_u (mj_u (mj_u (mj_u (mj_u (mj_u (mj_u M 14 x2.toNatClampNeg (M 14 x2.toNatClampNeg + 1)) 0 9 (M 0 9 + 1)) 6 ((M 22 x1.toNatClampNeg).toNatClampNeg) (M 6 ((M 22 x1.toNatClampNeg).toNatClampNeg) + 1)) 4 ((f12 M x2 (M 22 x1.toNatClampNeg) (M 24 x1.toNatClampNeg)).toNatClampNeg) (M 4 ((f12 M x2 (M 22 x1.toNatClampNeg) (M 24 x1.toNatClampNeg)).toNatClampNeg) + 1)) 21 x1.toNatClampNeg 1) 22 x1.toNatClampNeg (f12 M x2 (M 22 x1.toNatClampNeg) (M 24 x1.toNatClampNeg))) 26 x1.toNatClampNeg ((mj_u (mj_u M 14 x2.toNatClampNeg (M 14 x2.toNatClampNeg + 1)) 0 9 (M 0 9 + 1)) 0 5 + M 12 x2.toNatClampNeg))))) ∧ (¬ (p0 M (f12 M x2 (M 22 x1.toNatClampNeg) (M 24 x1.toNatClampNeg))) → K 0 0 M))))) : mj_W 0 62 3 0 [some (.ref 0), some (.int x1), some (.int x2), none, none] [] M 0 K := by
  refine b62_0 ?_
  have g1 := h.1
  refine ⟨g1, ?_⟩
  have h1 := h.2
  have h2 := h1.1
  have h3 := h1.2
  refine sp12 h2 ?_
  refine b62_28 ?_
  refine sp0  ?_
  refine b62_38 ?_
  refine ⟨fun c4 => ?_, fun c4 => ?_⟩
  · have h4a := h3.1 (mj_bi0.mp c4)
    refine b62_53 ?_
    exact h4a
  · have h4a := h3.2 (mj_bi1.mp c4)
    refine b62_41 ?_
    refine sp0  ?_
    refine b62_50 ?_
    refine ⟨fun c5 => ?_, fun c5 => ?_⟩
    · have h5a := h4a.1 (mj_bi1.mp c5)
      refine b62_54 ?_
      have g6 := h5a.1
      refine ⟨g6, ?_⟩
      have h6 := h5a.2
      refine ⟨fun c7 => ?_, fun c7 => ?_⟩
      · have h7a := h6.1 c7
        refine b62_83 ?_
        refine ⟨g6, ?_⟩
        refine b62_96 ?_
        have g8 := h7a.1
        refine ⟨g8, ?_⟩
        have h8 := h7a.2
        have g9 := h8.1
        refine ⟨g9, ?_⟩
        have h9 := h8.2
        refine ⟨g1, ?_⟩
        refine ⟨g6, ?_⟩
        exact h9
      · have h7a := h6.2 c7
        refine b62_67 ?_
        refine ⟨g6, ?_⟩
        refine b62_96 ?_
        have g10 := h7a.1
        refine ⟨g10, ?_⟩
        have h10 := h7a.2
        have g11 := h10.1
        refine ⟨g11, ?_⟩
        have h11 := h10.2
        refine ⟨g1, ?_⟩
        refine ⟨g6, ?_⟩
        exact h11
    · have h5a := h4a.2 (mj_bi0.mp c5)
      refine b62_53 ?_
      exact h5a
theorem e62 {M : mj_M} {K : mj_K} {x1 : Int32} {x2 : Int32} (h : vp_in x1 120 ∧ ((M 8 0).toInt ≤ ((14 : Nat) : Int) ∧ ((¬ (p0 M (M 22 x1.toNatClampNeg)) → K 0 0 M) ∧ ((p0 M (M 22 x1.toNatClampNeg)) → ((p0 M (f12 M x2 (M 22 x1.toNatClampNeg) (M 24 x1.toNatClampNeg))) → vp_in x2 14 ∧ ((¬ M 22 x1.toNatClampNeg = M 10 x2.toNatClampNeg → vp_in (M 22 x1.toNatClampNeg) 10 ∧ vp_in (f12 M x2 (M 22 x1.toNatClampNeg) (M 24 x1.toNatClampNeg)) 10 ∧ K 0 0 (mj_u (mj_u (mj_u (mj_u (mj_u (mj_u (mj_u M 15 x2.toNatClampNeg (M 15 x2.toNatClampNeg + 1)) 0 9 (M 0 9 + 1)) 6 ((M 22 x1.toNatClampNeg).toNatClampNeg) (M 6 ((M 22 x1.toNatClampNeg).toNatClampNeg) + 1)) 4 ((f12 M x2 (M 22 x1.toNatClampNeg) (M 24 x1.toNatClampNeg)).toNatClampNeg) (M 4 ((f12 M x2 (M 22 x1.toNatClampNeg) (M 24 x1.toNatClampNeg)).toNatClampNeg) + 1)) 21 x1.toNatClampNeg 1) 22 x1.toNatClampNeg (f12 M x2 (M 22 x1.toNatClampNeg) (M 24 x1.toNatClampNeg))) 26 x1.toNatClampNeg ((mj_u (mj_u M 15 x2.toNatClampNeg (M 15 x2.toNatClampNeg + 1)) 0 9 (M 0 9 + 1)) 0 5 + M 12 x2.toNatClampNeg))) ∧ (M 22 x1.toNatClampNeg = M 10 x2.toNatClampNeg → vp_in (M 22 x1.toNatClampNeg) 10 ∧ vp_in (f12 M x2 (M 22 x1.toNatClampNeg) (M 24 x1.toNatClampNeg)) 10 ∧ K 0 0 (mj_u (mj_u (mj_u (mj_u (mj_u (mj_u (mj_u M 14 x2.toNatClampNeg (M 14 x2.toNatClampNeg + 1)) 0 9 (M 0 9 + 1)) 6 ((M 22 x1.toNatClampNeg).toNatClampNeg) (M 6 ((M 22 x1.toNatClampNeg).toNatClampNeg) + 1)) 4 ((f12 M x2 (M 22 x1.toNatClampNeg) (M 24 x1.toNatClampNeg)).toNatClampNeg) (M 4 ((f12 M x2 (M 22 x1.toNatClampNeg) (M 24 x1.toNatClampNeg)).toNatClampNeg) + 1)) 21 x1.toNatClampNeg 1) 22 x1.toNatClampNeg (f12 M x2 (M 22 x1.toNatClampNeg) (M 24 x1.toNatClampNeg))) 26 x1.toNatClampNeg ((mj_u (mj_u M 14 x2.toNatClampNeg (M 14 x2.toNatClampNeg + 1)) 0 9 (M 0 9 + 1)) 0 5 + M 12 x2.toNatClampNeg))))) ∧ (¬ (p0 M (f12 M x2 (M 22 x1.toNatClampNeg) (M 24 x1.toNatClampNeg))) → K 0 0 M))))) : mj_Cm 62 3 [.ref 0, .int x1, .int x2] M K := mj_en rfl rfl rfl (t62_0 h)

