-- trees of blocks: what remains of a method from a start
theorem t6_0 {M : mj_M} {K : mj_K}  (h : mj_W 2 6 1 10 [some (.ref 42), some (.ref 2), some (.int 0)] [] (mj_u M 42 0 (M 2 0)) 0 K) : mj_W 2 6 1 0 [some (.ref 42), some (.ref 2), none] [] M 0 K := by
  refine b6_0 ?_
  exact h
theorem e6 {M : mj_M} {K : mj_K}  (h : mj_W 2 6 1 10 [some (.ref 42), some (.ref 2), some (.int 0)] [] (mj_u M 42 0 (M 2 0)) 0 K) : mj_Cm 6 1 [.ref 42, .ref 2] M K := mj_en rfl rfl rfl (t6_0 h)

theorem t6_10 {M : mj_M} {K : mj_K} {x2 : Int32} (h : (10 ≤ x2 → K 0 0 M) ∧ (¬ 10 ≤ x2 → vp_in x2 10 ∧ mj_W 2 6 1 10 [some (.ref 42), some (.ref 2), some (.int (x2 + 1))] [] (mj_u (mj_u (mj_u (mj_u (mj_u (mj_u M 43 x2.toNatClampNeg (M 3 x2.toNatClampNeg)) 44 x2.toNatClampNeg (M 4 x2.toNatClampNeg)) 45 x2.toNatClampNeg (M 5 x2.toNatClampNeg)) 46 x2.toNatClampNeg (M 6 x2.toNatClampNeg)) 47 x2.toNatClampNeg (M 7 x2.toNatClampNeg)) 48 x2.toNatClampNeg (mj_nb (M 8 x2.toNatClampNeg))) 0 K)) : mj_W 2 6 1 10 [some (.ref 42), some (.ref 2), some (.int x2)] [] M 0 K := by
  refine b6_10 ?_
  refine ⟨fun c1 => ?_, fun c1 => ?_⟩
  · have h1a := h.1 c1
    refine b6_94 ?_
    exact h1a
  · have h1a := h.2 c1
    refine b6_16 ?_
    have g2 := h1a.1
    refine ⟨g2, ?_⟩
    have h2 := h1a.2
    exact h2

theorem t17_0 {M : mj_M} {K : mj_K}  (h : ((M 9 1 : Int32) = 0 ∨ (M 9 1 : Int32) = 1) ∧ mj_W 2 17 1 18 [some (.ref 49), some (.ref 9), some (.int 0)] [] (mj_u (mj_u M 49 0 (M 9 0)) 49 1 (M 9 1)) 0 K) : mj_W 2 17 1 0 [some (.ref 49), some (.ref 9), none] [] M 0 K := by
  refine b17_0 ?_
  have g1 := h.1
  refine ⟨g1, ?_⟩
  have h1 := h.2
  exact h1
theorem e17 {M : mj_M} {K : mj_K}  (h : ((M 9 1 : Int32) = 0 ∨ (M 9 1 : Int32) = 1) ∧ mj_W 2 17 1 18 [some (.ref 49), some (.ref 9), some (.int 0)] [] (mj_u (mj_u M 49 0 (M 9 0)) 49 1 (M 9 1)) 0 K) : mj_Cm 17 1 [.ref 49, .ref 9] M K := mj_en rfl rfl rfl (t17_0 h)

theorem t17_18 {M : mj_M} {K : mj_K} {x2 : Int32} (h : (14 ≤ x2 → K 0 0 M) ∧ (¬ 14 ≤ x2 → vp_in x2 14 ∧ mj_W 2 17 1 18 [some (.ref 49), some (.ref 9), some (.int (x2 + 1))] [] (mj_u (mj_u (mj_u (mj_u (mj_u (mj_u (mj_u (mj_u (mj_u (mj_u (mj_u M 50 x2.toNatClampNeg (M 10 x2.toNatClampNeg)) 51 x2.toNatClampNeg (M 11 x2.toNatClampNeg)) 52 x2.toNatClampNeg (M 12 x2.toNatClampNeg)) 53 x2.toNatClampNeg (M 13 x2.toNatClampNeg)) 54 x2.toNatClampNeg (M 14 x2.toNatClampNeg)) 55 x2.toNatClampNeg (M 15 x2.toNatClampNeg)) 56 x2.toNatClampNeg (M 16 x2.toNatClampNeg)) 57 x2.toNatClampNeg (mj_nb (M 17 x2.toNatClampNeg))) 58 x2.toNatClampNeg (mj_nb (M 18 x2.toNatClampNeg))) 59 x2.toNatClampNeg (mj_nb (M 19 x2.toNatClampNeg))) 60 x2.toNatClampNeg (mj_nb (M 20 x2.toNatClampNeg))) 0 K)) : mj_W 2 17 1 18 [some (.ref 49), some (.ref 9), some (.int x2)] [] M 0 K := by
  refine b17_18 ?_
  refine ⟨fun c1 => ?_, fun c1 => ?_⟩
  · have h1a := h.1 c1
    refine b17_162 ?_
    exact h1a
  · have h1a := h.2 c1
    refine b17_24 ?_
    have g2 := h1a.1
    refine ⟨g2, ?_⟩
    have h2 := h1a.2
    exact h2

theorem t26_0 {M : mj_M} {K : mj_K}  (h : mj_W 2 26 1 10 [some (.ref 61), some (.ref 21), some (.int 0)] [] (mj_u M 61 0 (M 21 0)) 0 K) : mj_W 2 26 1 0 [some (.ref 61), some (.ref 21), none] [] M 0 K := by
  refine b26_0 ?_
  exact h
theorem e26 {M : mj_M} {K : mj_K}  (h : mj_W 2 26 1 10 [some (.ref 61), some (.ref 21), some (.int 0)] [] (mj_u M 61 0 (M 21 0)) 0 K) : mj_Cm 26 1 [.ref 61, .ref 21] M K := mj_en rfl rfl rfl (t26_0 h)

theorem t26_10 {M : mj_M} {K : mj_K} {x2 : Int32} (h : (M 61 0 ≤ x2 → K 0 0 M) ∧ (¬ M 61 0 ≤ x2 → (120 ≤ x2 → K 0 0 M) ∧ (¬ 120 ≤ x2 → vp_in x2 120 ∧ mj_W 2 26 1 10 [some (.ref 61), some (.ref 21), some (.int (x2 + 1))] [] (mj_u (mj_u (mj_u (mj_u (mj_u (mj_u (mj_u M 62 x2.toNatClampNeg (M 22 x2.toNatClampNeg)) 63 x2.toNatClampNeg (M 23 x2.toNatClampNeg)) 64 x2.toNatClampNeg (M 24 x2.toNatClampNeg)) 65 x2.toNatClampNeg (M 25 x2.toNatClampNeg)) 66 x2.toNatClampNeg (M 26 x2.toNatClampNeg)) 67 x2.toNatClampNeg (M 27 x2.toNatClampNeg)) 68 x2.toNatClampNeg (mj_nb (M 28 x2.toNatClampNeg))) 0 K))) : mj_W 2 26 1 10 [some (.ref 61), some (.ref 21), some (.int x2)] [] M 0 K := by
  refine b26_10 ?_
  refine ⟨fun c1 => ?_, fun c1 => ?_⟩
  · have h1a := h.1 c1
    refine b26_114 ?_
    exact h1a
  · have h1a := h.2 c1
    refine b26_18 ?_
    refine ⟨fun c2 => ?_, fun c2 => ?_⟩
    · have h2a := h1a.1 c2
      refine b26_114 ?_
      exact h2a
    · have h2a := h1a.2 c2
      refine b26_24 ?_
      have g3 := h2a.1
      refine ⟨g3, ?_⟩
      have h3 := h2a.2
      exact h3

theorem t31_0 {M : mj_M} {K : mj_K}  (h : mj_W 2 31 1 10 [some (.ref 69), some (.ref 29), some (.int 0)] [] (mj_u M 69 0 (M 29 0)) 0 K) : mj_W 2 31 1 0 [some (.ref 69), some (.ref 29), none] [] M 0 K := by
  refine b31_0 ?_
  exact h
theorem e31 {M : mj_M} {K : mj_K}  (h : mj_W 2 31 1 10 [some (.ref 69), some (.ref 29), some (.int 0)] [] (mj_u M 69 0 (M 29 0)) 0 K) : mj_Cm 31 1 [.ref 69, .ref 29] M K := mj_en rfl rfl rfl (t31_0 h)

theorem t31_10 {M : mj_M} {K : mj_K} {x2 : Int32} (h : (12 ≤ x2 → K 0 0 M) ∧ (¬ 12 ≤ x2 → vp_in x2 12 ∧ mj_W 2 31 1 10 [some (.ref 69), some (.ref 29), some (.int (x2 + 1))] [] (mj_u (mj_u (mj_u (mj_u (mj_u (mj_u M 70 x2.toNatClampNeg (M 30 x2.toNatClampNeg)) 71 x2.toNatClampNeg (M 31 x2.toNatClampNeg)) 72 x2.toNatClampNeg (M 32 x2.toNatClampNeg)) 73 x2.toNatClampNeg (M 33 x2.toNatClampNeg)) 74 x2.toNatClampNeg (M 34 x2.toNatClampNeg)) 75 x2.toNatClampNeg (M 35 x2.toNatClampNeg)) 0 K)) : mj_W 2 31 1 10 [some (.ref 69), some (.ref 29), some (.int x2)] [] M 0 K := by
  refine b31_10 ?_
  refine ⟨fun c1 => ?_, fun c1 => ?_⟩
  · have h1a := h.1 c1
    refine b31_94 ?_
    exact h1a
  · have h1a := h.2 c1
    refine b31_16 ?_
    have g2 := h1a.1
    refine ⟨g2, ?_⟩
    have h2 := h1a.2
    exact h2

theorem t40_0 {M : mj_M} {K : mj_K}  (h : mj_W 2 40 1 2 [some (.ref 76), some (.ref 36), some (.int 0)] [] M 0 K) : mj_W 2 40 1 0 [some (.ref 76), some (.ref 36), none] [] M 0 K := by
  refine b40_0 ?_
  exact h
theorem e40 {M : mj_M} {K : mj_K}  (h : mj_W 2 40 1 2 [some (.ref 76), some (.ref 36), some (.int 0)] [] M 0 K) : mj_Cm 40 1 [.ref 76, .ref 36] M K := mj_en rfl rfl rfl (t40_0 h)

theorem t40_2 {M : mj_M} {K : mj_K} {x2 : Int32} (h : (400 ≤ x2 → K 0 0 M) ∧ (¬ 400 ≤ x2 → vp_in x2 400 ∧ mj_W 2 40 1 2 [some (.ref 76), some (.ref 36), some (.int (x2 + 1))] [] (mj_u (mj_u M 77 x2.toNatClampNeg (M 37 x2.toNatClampNeg)) 78 x2.toNatClampNeg (M 38 x2.toNatClampNeg)) 0 K)) : mj_W 2 40 1 2 [some (.ref 76), some (.ref 36), some (.int x2)] [] M 0 K := by
  refine b40_2 ?_
  refine ⟨fun c1 => ?_, fun c1 => ?_⟩
  · have h1a := h.1 c1
    refine b40_39 ?_
    exact h1a
  · have h1a := h.2 c1
    refine b40_9 ?_
    have g2 := h1a.1
    refine ⟨g2, ?_⟩
    have h2 := h1a.2
    exact h2

theorem t41_0 {M : mj_M} {K : mj_K}  (h : mj_Cm 6 1 [.ref 42, .ref 2] M (mj_k 2 41 2 11 [some (.ref 41), some (.ref 1)] [] 0 none K)) : mj_W 2 41 2 0 [some (.ref 41), some (.ref 1)] [] M 0 K := by
  refine b41_0 ?_
  exact h
theorem e41 {M : mj_M} {K : mj_K}  (h : mj_Cm 6 1 [.ref 42, .ref 2] M (mj_k 2 41 2 11 [some (.ref 41), some (.ref 1)] [] 0 none K)) : mj_Cm 41 2 [.ref 41, .ref 1] M K := mj_en rfl rfl rfl (t41_0 h)

theorem t41_11 {M : mj_M} {K : mj_K}  (h : mj_Cm 17 1 [.ref 49, .ref 9] M (mj_k 2 41 2 22 [some (.ref 41), some (.ref 1)] [] 0 none K)) : mj_W 2 41 2 11 [some (.ref 41), some (.ref 1)] [] M 0 K := by
  refine b41_11 ?_
  exact h

theorem t41_22 {M : mj_M} {K : mj_K}  (h : mj_Cm 26 1 [.ref 61, .ref 21] M (mj_k 2 41 2 33 [some (.ref 41), some (.ref 1)] [] 0 none K)) : mj_W 2 41 2 22 [some (.ref 41), some (.ref 1)] [] M 0 K := by
  refine b41_22 ?_
  exact h

theorem t41_33 {M : mj_M} {K : mj_K}  (h : mj_Cm 31 1 [.ref 69, .ref 29] M (mj_k 2 41 2 44 [some (.ref 41), some (.ref 1)] [] 0 none K)) : mj_W 2 41 2 33 [some (.ref 41), some (.ref 1)] [] M 0 K := by
  refine b41_33 ?_
  exact h

theorem t41_44 {M : mj_M} {K : mj_K}  (h : mj_Cm 40 1 [.ref 76, .ref 36] M (mj_k 2 41 2 55 [some (.ref 41), some (.ref 1)] [] 0 none K)) : mj_W 2 41 2 44 [some (.ref 41), some (.ref 1)] [] M 0 K := by
  refine b41_44 ?_
  exact h

theorem t41_55 {M : mj_M} {K : mj_K}  (h : K 0 0 (mj_u M 41 5 (M 1 5))) : mj_W 2 41 2 55 [some (.ref 41), some (.ref 1)] [] M 0 K := by
  refine b41_55 ?_
  exact h

theorem t63_0 {M : mj_M} {K : mj_K} {x1 : Int32} {x2 : Int32} (h : mj_Cm 83 1 [.int x1, .int 0, .int 2] M (mj_k 2 63 6 6 [some (.ref 0), some (.int x1), some (.int x2), none] [] 1 none K)) : mj_W 2 63 6 0 [some (.ref 0), some (.int x1), some (.int x2), none] [] M 0 K := by
  refine b63_0 ?_
  exact h
theorem e63 {M : mj_M} {K : mj_K} {x1 : Int32} {x2 : Int32} (h : mj_Cm 83 1 [.int x1, .int 0, .int 2] M (mj_k 2 63 6 6 [some (.ref 0), some (.int x1), some (.int x2), none] [] 1 none K)) : mj_Cm 63 6 [.ref 0, .int x1, .int x2] M K := mj_en rfl rfl rfl (t63_0 h)

theorem t63_6 {M : mj_M} {K : mj_K} {x1 : Int32} {x2 : Int32} {o3 : Option Value} (h : mj_Cm 83 1 [.int x2, .int 1, .int 60] M (mj_k 2 63 6 13 [some (.ref 0), some (.int x1), some (.int x2), o3] [] 2 none K)) : mj_W 2 63 6 6 [some (.ref 0), some (.int x1), some (.int x2), o3] [] M 1 K := by
  refine b63_6 ?_
  exact h

theorem t63_13 {M : mj_M} {K : mj_K} {x1 : Int32} {x2 : Int32} {o3 : Option Value} (h : (10 ≤ M 2 0 → mj_Cm 85 1 [.int 0] M (mj_k 2 63 6 36 [some (.ref 0), some (.int x1), some (.int x2), o3] [] 3 none K)) ∧ (¬ 10 ≤ M 2 0 → mj_Cm 85 1 [.int 1] M (mj_k 2 63 6 36 [some (.ref 0), some (.int x1), some (.int x2), o3] [] 3 none K))) : mj_W 2 63 6 13 [some (.ref 0), some (.int x1), some (.int x2), o3] [] M 2 K := by
  refine b63_13 ?_
  refine ⟨fun c1 => ?_, fun c1 => ?_⟩
  · have h1a := h.1 c1
    refine b63_32 ?_
    refine b63_33 ?_
    exact h1a
  · have h1a := h.2 c1
    refine b63_28 ?_
    refine b63_33 ?_
    exact h1a

theorem t63_36 {M : mj_M} {K : mj_K} {x1 : Int32} {x2 : Int32} {o3 : Option Value} (h : mj_Cm 1 1 [.ref 1, .int x1, .int x2] (mj_v M 1) (mj_k2 2 63 6 48 [some (.ref 0), some (.int x1), some (.int x2), o3] [] M 1 40 3 (some .int) K)) : mj_W 2 63 6 36 [some (.ref 0), some (.int x1), some (.int x2), o3] [] M 3 K := by
  refine b63_36 ?_
  exact h

theorem t63_48 {M : mj_M} {K : mj_K} {x1 : Int32} {x2 : Int32} {o3 : Option Value} {s0 : Int32} (h : mj_Cm 42 5 [.ref 0] (mj_v M 1) (mj_k2 2 63 6 56 [some (.ref 0), some (.int x1), some (.int x2), some (.int s0)] [] M 1 40 3 none K)) : mj_W 2 63 6 48 [some (.ref 0), some (.int x1), some (.int x2), o3] [.int s0] M 3 K := by
  refine b63_48 ?_
  exact h

theorem t63_56 {M : mj_M} {K : mj_K} {x1 : Int32} {x2 : Int32} {x3 : Int32} (h : K 0 x3 M) : mj_W 2 63 6 56 [some (.ref 0), some (.int x1), some (.int x2), some (.int x3)] [] M 3 K := by
  refine b63_56 ?_
  exact h

theorem t64_0 {M : mj_M} {K : mj_K} {x1 : Int32} {x2 : Int32} {x3 : Int32} {x4 : Int32} {x5 : Int32} (h : mj_Cm 86 2 [.ref 0, .int x2] M (mj_k 2 64 6 5 [some (.ref 0), some (.int x1), some (.int x2), some (.int x3), some (.int x4), some (.int x5), none] [] 1 none K)) : mj_W 2 64 6 0 [some (.ref 0), some (.int x1), some (.int x2), some (.int x3), some (.int x4), some (.int x5), none] [] M 0 K := by
  refine b64_0 ?_
  exact h
theorem e64 {M : mj_M} {K : mj_K} {x1 : Int32} {x2 : Int32} {x3 : Int32} {x4 : Int32} {x5 : Int32} (h : mj_Cm 86 2 [.ref 0, .int x2] M (mj_k 2 64 6 5 [some (.ref 0), some (.int x1), some (.int x2), some (.int x3), some (.int x4), some (.int x5), none] [] 1 none K)) : mj_Cm 64 6 [.ref 0, .int x1, .int x2, .int x3, .int x4, .int x5] M K := mj_en rfl rfl rfl (t64_0 h)

theorem t64_5 {M : mj_M} {K : mj_K} {x1 : Int32} {x2 : Int32} {x3 : Int32} {x4 : Int32} {x5 : Int32} {o6 : Option Value} (h : mj_Cm 86 2 [.ref 0, .int x3] M (mj_k 2 64 6 10 [some (.ref 0), some (.int x1), some (.int x2), some (.int x3), some (.int x4), some (.int x5), o6] [] 2 none K)) : mj_W 2 64 6 5 [some (.ref 0), some (.int x1), some (.int x2), some (.int x3), some (.int x4), some (.int x5), o6] [] M 1 K := by
  refine b64_5 ?_
  exact h

theorem t64_10 {M : mj_M} {K : mj_K} {x1 : Int32} {x2 : Int32} {x3 : Int32} {x4 : Int32} {x5 : Int32} {o6 : Option Value} (h : (x2 = x3 → mj_Cm 84 1 [.int 0] M (mj_k 2 64 6 23 [some (.ref 0), some (.int x1), some (.int x2), some (.int x3), some (.int x4), some (.int x5), o6] [] 3 none K)) ∧ (¬ x2 = x3 → mj_Cm 84 1 [.int 1] M (mj_k 2 64 6 23 [some (.ref 0), some (.int x1), some (.int x2), some (.int x3), some (.int x4), some (.int x5), o6] [] 3 none K))) : mj_W 2 64 6 10 [some (.ref 0), some (.int x1), some (.int x2), some (.int x3), some (.int x4), some (.int x5), o6] [] M 2 K := by
  refine b64_10 ?_
  refine ⟨fun c1 => ?_, fun c1 => ?_⟩
  · have h1a := h.1 c1
    refine b64_19 ?_
    refine b64_20 ?_
    exact h1a
  · have h1a := h.2 c1
    refine b64_15 ?_
    refine b64_20 ?_
    exact h1a

theorem t64_23 {M : mj_M} {K : mj_K} {x1 : Int32} {x2 : Int32} {x3 : Int32} {x4 : Int32} {x5 : Int32} {o6 : Option Value} (h : mj_Cm 83 1 [.int x1, .int 0, .int 4] M (mj_k 2 64 6 29 [some (.ref 0), some (.int x1), some (.int x2), some (.int x3), some (.int x4), some (.int x5), o6] [] 4 none K)) : mj_W 2 64 6 23 [some (.ref 0), some (.int x1), some (.int x2), some (.int x3), some (.int x4), some (.int x5), o6] [] M 3 K := by
  refine b64_23 ?_
  exact h

theorem t64_29 {M : mj_M} {K : mj_K} {x1 : Int32} {x2 : Int32} {x3 : Int32} {x4 : Int32} {x5 : Int32} {o6 : Option Value} (h : mj_Cm 83 1 [.int x4, .int 1, .int 5] M (mj_k 2 64 6 36 [some (.ref 0), some (.int x1), some (.int x2), some (.int x3), some (.int x4), some (.int x5), o6] [] 5 none K)) : mj_W 2 64 6 29 [some (.ref 0), some (.int x1), some (.int x2), some (.int x3), some (.int x4), some (.int x5), o6] [] M 4 K := by
  refine b64_29 ?_
  exact h

theorem t64_36 {M : mj_M} {K : mj_K} {x1 : Int32} {x2 : Int32} {x3 : Int32} {x4 : Int32} {x5 : Int32} {o6 : Option Value} (h : mj_Cm 83 1 [.int x5, .int 0, .int 9] M (mj_k 2 64 6 44 [some (.ref 0), some (.int x1), some (.int x2), some (.int x3), some (.int x4), some (.int x5), o6] [] 6 none K)) : mj_W 2 64 6 36 [some (.ref 0), some (.int x1), some (.int x2), some (.int x3), some (.int x4), some (.int x5), o6] [] M 5 K := by
  refine b64_36 ?_
  exact h

theorem t64_44 {M : mj_M} {K : mj_K} {x1 : Int32} {x2 : Int32} {x3 : Int32} {x4 : Int32} {x5 : Int32} {o6 : Option Value} (h : (14 ≤ M 9 0 → mj_Cm 85 1 [.int 0] M (mj_k 2 64 6 67 [some (.ref 0), some (.int x1), some (.int x2), some (.int x3), some (.int x4), some (.int x5), o6] [] 7 none K)) ∧ (¬ 14 ≤ M 9 0 → mj_Cm 85 1 [.int 1] M (mj_k 2 64 6 67 [some (.ref 0), some (.int x1), some (.int x2), some (.int x3), some (.int x4), some (.int x5), o6] [] 7 none K))) : mj_W 2 64 6 44 [some (.ref 0), some (.int x1), some (.int x2), some (.int x3), some (.int x4), some (.int x5), o6] [] M 6 K := by
  refine b64_44 ?_
  refine ⟨fun c1 => ?_, fun c1 => ?_⟩
  · have h1a := h.1 c1
    refine b64_63 ?_
    refine b64_64 ?_
    exact h1a
  · have h1a := h.2 c1
    refine b64_59 ?_
    refine b64_64 ?_
    exact h1a

theorem t64_67 {M : mj_M} {K : mj_K} {x1 : Int32} {x2 : Int32} {x3 : Int32} {x4 : Int32} {x5 : Int32} {o6 : Option Value} (h : mj_Cm 8 1 [.ref 8, .int x1, .int x2, .int x3, .int x4, .int x5] (mj_v M 1) (mj_k2 2 64 6 84 [some (.ref 0), some (.int x1), some (.int x2), some (.int x3), some (.int x4), some (.int x5), o6] [] M 1 40 7 (some .int) K)) : mj_W 2 64 6 67 [some (.ref 0), some (.int x1), some (.int x2), some (.int x3), some (.int x4), some (.int x5), o6] [] M 7 K := by
  refine b64_67 ?_
  exact h

theorem t64_84 {M : mj_M} {K : mj_K} {x1 : Int32} {x2 : Int32} {x3 : Int32} {x4 : Int32} {x5 : Int32} {o6 : Option Value} {s0 : Int32} (h : mj_Cm 42 5 [.ref 0] (mj_v M 1) (mj_k2 2 64 6 93 [some (.ref 0), some (.int x1), some (.int x2), some (.int x3), some (.int x4), some (.int x5), some (.int s0)] [] M 1 40 7 none K)) : mj_W 2 64 6 84 [some (.ref 0), some (.int x1), some (.int x2), some (.int x3), some (.int x4), some (.int x5), o6] [.int s0] M 7 K := by
  refine b64_84 ?_
  exact h

theorem t64_93 {M : mj_M} {K : mj_K} {x1 : Int32} {x2 : Int32} {x3 : Int32} {x4 : Int32} {x5 : Int32} {x6 : Int32} (h : K 0 x6 M) : mj_W 2 64 6 93 [some (.ref 0), some (.int x1), some (.int x2), some (.int x3), some (.int x4), some (.int x5), some (.int x6)] [] M 7 K := by
  refine b64_93 ?_
  exact h

theorem t65_0 {M : mj_M} {K : mj_K} {x1 : Int32} {x2 : Int32} (h : mj_Cm 87 2 [.ref 0, .int x1] M (mj_k 2 65 6 5 [some (.ref 0), some (.int x1), some (.int x2), none] [] 1 none K)) : mj_W 2 65 6 0 [some (.ref 0), some (.int x1), some (.int x2), none] [] M 0 K := by
  refine b65_0 ?_
  exact h
theorem e65 {M : mj_M} {K : mj_K} {x1 : Int32} {x2 : Int32} (h : mj_Cm 87 2 [.ref 0, .int x1] M (mj_k 2 65 6 5 [some (.ref 0), some (.int x1), some (.int x2), none] [] 1 none K)) : mj_Cm 65 6 [.ref 0, .int x1, .int x2] M K := mj_en rfl rfl rfl (t65_0 h)

theorem t65_5 {M : mj_M} {K : mj_K} {x1 : Int32} {x2 : Int32} {o3 : Option Value} (h : vp_in x1 14 ∧ mj_Cm 42 5 [.ref 0] (mj_v (mj_u M 17 x1.toNatClampNeg (mj_nb x2)) 1) (mj_k2 2 65 6 38 [some (.ref 0), some (.int x1), some (.int x2), some (.int (M 17 x1.toNatClampNeg))] [] (mj_u M 17 x1.toNatClampNeg (mj_nb x2)) 1 40 1 none K)) : mj_W 2 65 6 5 [some (.ref 0), some (.int x1), some (.int x2), o3] [] M 1 K := by
  refine b65_5 ?_
  have g1 := h.1
  refine ⟨g1, ?_⟩
  have h1 := h.2
  exact h1

theorem t65_38 {M : mj_M} {K : mj_K} {x1 : Int32} {x2 : Int32} {x3 : Int32} (h : K 0 (mj_nb x3) M) : mj_W 2 65 6 38 [some (.ref 0), some (.int x1), some (.int x2), some (.int x3)] [] M 1 K := by
  refine b65_38 ?_
  exact h

theorem t66_0 {M : mj_M} {K : mj_K}  (h : mj_Cm 9 1 [.ref 8] (mj_v M 1) (mj_k2 2 66 6 10 [some (.ref 0), none] [] M 1 40 0 (some .int) K)) : mj_W 2 66 6 0 [some (.ref 0), none] [] M 0 K := by
  refine b66_0 ?_
  exact h
theorem e66 {M : mj_M} {K : mj_K}  (h : mj_Cm 9 1 [.ref 8] (mj_v M 1) (mj_k2 2 66 6 10 [some (.ref 0), none] [] M 1 40 0 (some .int) K)) : mj_Cm 66 6 [.ref 0] M K := mj_en rfl rfl rfl (t66_0 h)

theorem t66_10 {M : mj_M} {K : mj_K} {o1 : Option Value} {s0 : Int32} (h : mj_Cm 42 5 [.ref 0] (mj_v M 1) (mj_k2 2 66 6 18 [some (.ref 0), some (.int s0)] [] M 1 40 0 none K)) : mj_W 2 66 6 10 [some (.ref 0), o1] [.int s0] M 0 K := by
  refine b66_10 ?_
  exact h

theorem t66_18 {M : mj_M} {K : mj_K} {x1 : Int32} (h : K 0 x1 M) : mj_W 2 66 6 18 [some (.ref 0), some (.int x1)] [] M 0 K := by
  refine b66_18 ?_
  exact h

theorem t67_0 {M : mj_M} {K : mj_K} {x1 : Int32} (h : mj_Cm 87 2 [.ref 0, .int x1] M (mj_k 2 67 6 5 [some (.ref 0), some (.int x1), none] [] 1 none K)) : mj_W 2 67 6 0 [some (.ref 0), some (.int x1), none] [] M 0 K := by
  refine b67_0 ?_
  exact h
theorem e67 {M : mj_M} {K : mj_K} {x1 : Int32} (h : mj_Cm 87 2 [.ref 0, .int x1] M (mj_k 2 67 6 5 [some (.ref 0), some (.int x1), none] [] 1 none K)) : mj_Cm 67 6 [.ref 0, .int x1] M K := mj_en rfl rfl rfl (t67_0 h)

theorem t67_5 {M : mj_M} {K : mj_K} {x1 : Int32} {o2 : Option Value} (h : vp_in x1 14 ∧ ((¬ M 10 x1.toNatClampNeg = 3 → mj_Cm 84 1 [.int 0] M (mj_k 2 67 6 29 [some (.ref 0), some (.int x1), o2] [] 2 none K)) ∧ (M 10 x1.toNatClampNeg = 3 → mj_Cm 84 1 [.int 1] M (mj_k 2 67 6 29 [some (.ref 0), some (.int x1), o2] [] 2 none K)))) : mj_W 2 67 6 5 [some (.ref 0), some (.int x1), o2] [] M 1 K := by
  refine b67_5 ?_
  have g1 := h.1
  refine ⟨g1, ?_⟩
  have h1 := h.2
  refine ⟨fun c2 => ?_, fun c2 => ?_⟩
  · have h2a := h1.1 c2
    refine b67_25 ?_
    refine b67_26 ?_
    exact h2a
  · have h2a := h1.2 c2
    refine b67_21 ?_
    refine b67_26 ?_
    exact h2a

theorem t67_29 {M : mj_M} {K : mj_K} {x1 : Int32} {o2 : Option Value} (h : vp_in x1 14 ∧ ((¬ M 19 x1.toNatClampNeg = 0 → mj_Cm 42 5 [.ref 0] (mj_v (mj_u M 19 x1.toNatClampNeg (mj_nb 0)) 1) (mj_k2 2 67 6 70 [some (.ref 0), some (.int x1), some (.int 0)] [] (mj_u M 19 x1.toNatClampNeg (mj_nb 0)) 1 40 2 none K)) ∧ (M 19 x1.toNatClampNeg = 0 → mj_Cm 42 5 [.ref 0] (mj_v (mj_u M 19 x1.toNatClampNeg (mj_nb 1)) 1) (mj_k2 2 67 6 70 [some (.ref 0), some (.int x1), some (.int 1)] [] (mj_u M 19 x1.toNatClampNeg (mj_nb 1)) 1 40 2 none K)))) : mj_W 2 67 6 29 [some (.ref 0), some (.int x1), o2] [] M 2 K := by
  refine b67_29 ?_
  have g1 := h.1
  refine ⟨g1, ?_⟩
  have h1 := h.2
  refine ⟨fun c2 => ?_, fun c2 => ?_⟩
  · have h2a := h1.1 c2
    refine b67_48 ?_
    refine b67_49 ?_
    refine ⟨g1, ?_⟩
    exact h2a
  · have h2a := h1.2 c2
    refine b67_44 ?_
    refine b67_49 ?_
    refine ⟨g1, ?_⟩
    exact h2a

theorem t67_70 {M : mj_M} {K : mj_K} {x1 : Int32} {x2 : Int32} (h : K 0 (mj_nb x2) M) : mj_W 2 67 6 70 [some (.ref 0), some (.int x1), some (.int x2)] [] M 2 K := by
  refine b67_70 ?_
  exact h

theorem t68_0 {M : mj_M} {K : mj_K} {x1 : Int32} {x2 : Int32} (h : mj_Cm 87 2 [.ref 0, .int x1] M (mj_k 2 68 6 5 [some (.ref 0), some (.int x1), some (.int x2), none] [] 1 none K)) : mj_W 2 68 6 0 [some (.ref 0), some (.int x1), some (.int x2), none] [] M 0 K := by
  refine b68_0 ?_
  exact h
theorem e68 {M : mj_M} {K : mj_K} {x1 : Int32} {x2 : Int32} (h : mj_Cm 87 2 [.ref 0, .int x1] M (mj_k 2 68 6 5 [some (.ref 0), some (.int x1), some (.int x2), none] [] 1 none K)) : mj_Cm 68 6 [.ref 0, .int x1, .int x2] M K := mj_en rfl rfl rfl (t68_0 h)

theorem t68_5 {M : mj_M} {K : mj_K} {x1 : Int32} {x2 : Int32} {o3 : Option Value} (h : vp_in x1 14 ∧ ((¬ M 10 x1.toNatClampNeg = 3 → mj_Cm 84 1 [.int 0] M (mj_k 2 68 6 29 [some (.ref 0), some (.int x1), some (.int x2), o3] [] 2 none K)) ∧ (M 10 x1.toNatClampNeg = 3 → mj_Cm 84 1 [.int 1] M (mj_k 2 68 6 29 [some (.ref 0), some (.int x1), some (.int x2), o3] [] 2 none K)))) : mj_W 2 68 6 5 [some (.ref 0), some (.int x1), some (.int x2), o3] [] M 1 K := by
  refine b68_5 ?_
  have g1 := h.1
  refine ⟨g1, ?_⟩
  have h1 := h.2
  refine ⟨fun c2 => ?_, fun c2 => ?_⟩
  · have h2a := h1.1 c2
    refine b68_25 ?_
    refine b68_26 ?_
    exact h2a
  · have h2a := h1.2 c2
    refine b68_21 ?_
    refine b68_26 ?_
    exact h2a

theorem t68_29 {M : mj_M} {K : mj_K} {x1 : Int32} {x2 : Int32} {o3 : Option Value} (h : vp_in x1 14 ∧ mj_Cm 42 5 [.ref 0] (mj_v (mj_u M 20 x1.toNatClampNeg (mj_nb x2)) 1) (mj_k2 2 68 6 62 [some (.ref 0), some (.int x1), some (.int x2), some (.int (M 20 x1.toNatClampNeg))] [] (mj_u M 20 x1.toNatClampNeg (mj_nb x2)) 1 40 2 none K)) : mj_W 2 68 6 29 [some (.ref 0), some (.int x1), some (.int x2), o3] [] M 2 K := by
  refine b68_29 ?_
  have g1 := h.1
  refine ⟨g1, ?_⟩
  have h1 := h.2
  exact h1

theorem t68_62 {M : mj_M} {K : mj_K} {x1 : Int32} {x2 : Int32} {x3 : Int32} (h : K 0 (mj_nb x3) M) : mj_W 2 68 6 62 [some (.ref 0), some (.int x1), some (.int x2), some (.int x3)] [] M 2 K := by
  refine b68_62 ?_
  exact h

theorem t69_0 {M : mj_M} {K : mj_K} {x1 : Int32} {x2 : Int32} (h : mj_Cm 87 2 [.ref 0, .int x1] M (mj_k 2 69 3 5 [some (.ref 0), some (.int x1), some (.int x2), none] [] 1 none K)) : mj_W 2 69 3 0 [some (.ref 0), some (.int x1), some (.int x2), none] [] M 0 K := by
  refine b69_0 ?_
  exact h
theorem e69 {M : mj_M} {K : mj_K} {x1 : Int32} {x2 : Int32} (h : mj_Cm 87 2 [.ref 0, .int x1] M (mj_k 2 69 3 5 [some (.ref 0), some (.int x1), some (.int x2), none] [] 1 none K)) : mj_Cm 69 3 [.ref 0, .int x1, .int x2] M K := mj_en rfl rfl rfl (t69_0 h)

theorem t69_5 {M : mj_M} {K : mj_K} {x1 : Int32} {x2 : Int32} {o3 : Option Value} (h : mj_Cm 83 1 [.int x2, .int 0, .int 9] M (mj_k 2 69 3 12 [some (.ref 0), some (.int x1), some (.int x2), o3] [] 2 none K)) : mj_W 2 69 3 5 [some (.ref 0), some (.int x1), some (.int x2), o3] [] M 1 K := by
  refine b69_5 ?_
  exact h

theorem t69_12 {M : mj_M} {K : mj_K} {x1 : Int32} {x2 : Int32} {o3 : Option Value} (h : vp_in x1 14 ∧ K 0 (M 14 x1.toNatClampNeg) (mj_u M 14 x1.toNatClampNeg x2)) : mj_W 2 69 3 12 [some (.ref 0), some (.int x1), some (.int x2), o3] [] M 2 K := by
  refine b69_12 ?_
  have g1 := h.1
  refine ⟨g1, ?_⟩
  have h1 := h.2
  exact h1

theorem t70_0 {M : mj_M} {K : mj_K} {x1 : Int32} {x2 : Int32} {x3 : Int32} {x4 : Int32} {x5 : Int32} (h : mj_Cm 86 2 [.ref 0, .int x1] M (mj_k 2 70 5 5 [some (.ref 0), some (.int x1), some (.int x2), some (.int x3), some (.int x4), some (.int x5), none] [] 1 none K)) : mj_W 2 70 5 0 [some (.ref 0), some (.int x1), some (.int x2), some (.int x3), some (.int x4), some (.int x5), none] [] M 0 K := by
  refine b70_0 ?_
  exact h
theorem e70 {M : mj_M} {K : mj_K} {x1 : Int32} {x2 : Int32} {x3 : Int32} {x4 : Int32} {x5 : Int32} (h : mj_Cm 86 2 [.ref 0, .int x1] M (mj_k 2 70 5 5 [some (.ref 0), some (.int x1), some (.int x2), some (.int x3), some (.int x4), some (.int x5), none] [] 1 none K)) : mj_Cm 70 5 [.ref 0, .int x1, .int x2, .int x3, .int x4, .int x5] M K := mj_en rfl rfl rfl (t70_0 h)

theorem t70_5 {M : mj_M} {K : mj_K} {x1 : Int32} {x2 : Int32} {x3 : Int32} {x4 : Int32} {x5 : Int32} {o6 : Option Value} (h : mj_Cm 86 2 [.ref 0, .int x2] M (mj_k 2 70 5 10 [some (.ref 0), some (.int x1), some (.int x2), some (.int x3), some (.int x4), some (.int x5), o6] [] 2 none K)) : mj_W 2 70 5 5 [some (.ref 0), some (.int x1), some (.int x2), some (.int x3), some (.int x4), some (.int x5), o6] [] M 1 K := by
  refine b70_5 ?_
  exact h

theorem t70_10 {M : mj_M} {K : mj_K} {x1 : Int32} {x2 : Int32} {x3 : Int32} {x4 : Int32} {x5 : Int32} {o6 : Option Value} (h : ((mj_v M 1) 1 0).toInt ≤ ((10 : Nat) : Int) ∧ mj_Cm 84 1 [.int (mj_bi (p2 (mj_v M 1) x1))] M (mj_k 2 70 5 24 [some (.ref 0), some (.int x1), some (.int x2), some (.int x3), some (.int x4), some (.int x5), o6] [] 3 none K)) : mj_W 2 70 5 10 [some (.ref 0), some (.int x1), some (.int x2), some (.int x3), some (.int x4), some (.int x5), o6] [] M 2 K := by
  refine b70_10 ?_
  have h1 := h.1
  have h2 := h.2
  refine sp2 h1 ?_
  rw [mj_k2_v]
  refine b70_21 ?_
  exact h2

theorem t70_24 {M : mj_M} {K : mj_K} {x1 : Int32} {x2 : Int32} {x3 : Int32} {x4 : Int32} {x5 : Int32} {o6 : Option Value} (h : vp_in x2 10 ∧ ((M 3 x2.toNatClampNeg = 1 → mj_Cm 84 1 [.int 0] M (mj_k 2 70 5 48 [some (.ref 0), some (.int x1), some (.int x2), some (.int x3), some (.int x4), some (.int x5), o6] [] 4 none K)) ∧ (¬ M 3 x2.toNatClampNeg = 1 → mj_Cm 84 1 [.int 1] M (mj_k 2 70 5 48 [some (.ref 0), some (.int x1), some (.int x2), some (.int x3), some (.int x4), some (.int x5), o6] [] 4 none K)))) : mj_W 2 70 5 24 [some (.ref 0), some (.int x1), some (.int x2), some (.int x3), some (.int x4), some (.int x5), o6] [] M 3 K := by
  refine b70_24 ?_
  have g1 := h.1
  refine ⟨g1, ?_⟩
  have h1 := h.2
  refine ⟨fun c2 => ?_, fun c2 => ?_⟩
  · have h2a := h1.1 c2
    refine b70_44 ?_
    refine b70_45 ?_
    exact h2a
  · have h2a := h1.2 c2
    refine b70_40 ?_
    refine b70_45 ?_
    exact h2a

theorem t70_48 {M : mj_M} {K : mj_K} {x1 : Int32} {x2 : Int32} {x3 : Int32} {x4 : Int32} {x5 : Int32} {o6 : Option Value} (h : mj_Cm 83 1 [.int x5, .int (-1), .int 9] M (mj_k 2 70 5 56 [some (.ref 0), some (.int x1), some (.int x2), some (.int x3), some (.int x4), some (.int x5), o6] [] 5 none K)) : mj_W 2 70 5 48 [some (.ref 0), some (.int x1), some (.int x2), some (.int x3), some (.int x4), some (.int x5), o6] [] M 4 K := by
  refine b70_48 ?_
  exact h

theorem t70_56 {M : mj_M} {K : mj_K} {x1 : Int32} {x2 : Int32} {x3 : Int32} {x4 : Int32} {x5 : Int32} {o6 : Option Value} (h : (120 ≤ M 21 0 → mj_Cm 85 1 [.int 0] M (mj_k 2 70 5 79 [some (.ref 0), some (.int x1), some (.int x2), some (.int x3), some (.int x4), some (.int x5), o6] [] 6 none K)) ∧ (¬ 120 ≤ M 21 0 → mj_Cm 85 1 [.int 1] M (mj_k 2 70 5 79 [some (.ref 0), some (.int x1), some (.int x2), some (.int x3), some (.int x4), some (.int x5), o6] [] 6 none K))) : mj_W 2 70 5 56 [some (.ref 0), some (.int x1), some (.int x2), some (.int x3), some (.int x4), some (.int x5), o6] [] M 5 K := by
  refine b70_56 ?_
  refine ⟨fun c1 => ?_, fun c1 => ?_⟩
  · have h1a := h.1 c1
    refine b70_75 ?_
    refine b70_76 ?_
    exact h1a
  · have h1a := h.2 c1
    refine b70_71 ?_
    refine b70_76 ?_
    exact h1a

theorem t70_79 {M : mj_M} {K : mj_K} {x1 : Int32} {x2 : Int32} {x3 : Int32} {x4 : Int32} {x5 : Int32} {o6 : Option Value} (h : (x3 = 0 → (x4 = 0 → mj_Cm 46 4 [.ref 0, .int x1, .int x2, .int (0 ||| 0), .int x5] (mj_v M 1) (mj_k2 2 70 5 114 [some (.ref 0), some (.int x1), some (.int x2), some (.int x3), some (.int x4), some (.int x5), some (.int (0 ||| 0))] [] M 1 40 6 (some .int) K)) ∧ (¬ x4 = 0 → mj_Cm 46 4 [.ref 0, .int x1, .int x2, .int (0 ||| 2), .int x5] (mj_v M 1) (mj_k2 2 70 5 114 [some (.ref 0), some (.int x1), some (.int x2), some (.int x3), some (.int x4), some (.int x5), some (.int (0 ||| 2))] [] M 1 40 6 (some .int) K))) ∧ (¬ x3 = 0 → (x4 = 0 → mj_Cm 46 4 [.ref 0, .int x1, .int x2, .int (1 ||| 0), .int x5] (mj_v M 1) (mj_k2 2 70 5 114 [some (.ref 0), some (.int x1), some (.int x2), some (.int x3), some (.int x4), some (.int x5), some (.int (1 ||| 0))] [] M 1 40 6 (some .int) K)) ∧ (¬ x4 = 0 → mj_Cm 46 4 [.ref 0, .int x1, .int x2, .int (1 ||| 2), .int x5] (mj_v M 1) (mj_k2 2 70 5 114 [some (.ref 0), some (.int x1), some (.int x2), some (.int x3), some (.int x4), some (.int x5), some (.int (1 ||| 2))] [] M 1 40 6 (some .int) K)))) : mj_W 2 70 5 79 [some (.ref 0), some (.int x1), some (.int x2), some (.int x3), some (.int x4), some (.int x5), o6] [] M 6 K := by
  refine b70_79 ?_
  refine ⟨fun c1 => ?_, fun c1 => ?_⟩
  · have h1a := h.1 c1
    refine b70_87 ?_
    refine b70_88 ?_
    refine ⟨fun c2 => ?_, fun c2 => ?_⟩
    · have h2a := h1a.1 c2
      refine b70_97 ?_
      refine b70_98 ?_
      exact h2a
    · have h2a := h1a.2 c2
      refine b70_93 ?_
      refine b70_98 ?_
      exact h2a
  · have h1a := h.2 c1
    refine b70_83 ?_
    refine b70_88 ?_
    refine ⟨fun c3 => ?_, fun c3 => ?_⟩
    · have h3a := h1a.1 c3
      refine b70_97 ?_
      refine b70_98 ?_
      exact h3a
    · have h3a := h1a.2 c3
      refine b70_93 ?_
      refine b70_98 ?_
      exact h3a

theorem t70_114 {M : mj_M} {K : mj_K} {x1 : Int32} {x2 : Int32} {x3 : Int32} {x4 : Int32} {x5 : Int32} {x6 : Int32} {s0 : Int32} (h : K 0 s0 M) : mj_W 2 70 5 114 [some (.ref 0), some (.int x1), some (.int x2), some (.int x3), some (.int x4), some (.int x5), some (.int x6)] [.int s0] M 6 K := by
  refine b70_114 ?_
  exact h

theorem t71_0 {M : mj_M} {K : mj_K} {x1 : Int32} {x2 : Int32} {x3 : Int32} {x4 : Int32} {x5 : Int32} (h : mj_Cm 86 2 [.ref 0, .int x1] M (mj_k 2 71 6 5 [some (.ref 0), some (.int x1), some (.int x2), some (.int x3), some (.int x4), some (.int x5), none] [] 1 none K)) : mj_W 2 71 6 0 [some (.ref 0), some (.int x1), some (.int x2), some (.int x3), some (.int x4), some (.int x5), none] [] M 0 K := by
  refine b71_0 ?_
  exact h
theorem e71 {M : mj_M} {K : mj_K} {x1 : Int32} {x2 : Int32} {x3 : Int32} {x4 : Int32} {x5 : Int32} (h : mj_Cm 86 2 [.ref 0, .int x1] M (mj_k 2 71 6 5 [some (.ref 0), some (.int x1), some (.int x2), some (.int x3), some (.int x4), some (.int x5), none] [] 1 none K)) : mj_Cm 71 6 [.ref 0, .int x1, .int x2, .int x3, .int x4, .int x5] M K := mj_en rfl rfl rfl (t71_0 h)

theorem t71_5 {M : mj_M} {K : mj_K} {x1 : Int32} {x2 : Int32} {x3 : Int32} {x4 : Int32} {x5 : Int32} {o6 : Option Value} (h : mj_Cm 86 2 [.ref 0, .int x3] M (mj_k 2 71 6 10 [some (.ref 0), some (.int x1), some (.int x2), some (.int x3), some (.int x4), some (.int x5), o6] [] 2 none K)) : mj_W 2 71 6 5 [some (.ref 0), some (.int x1), some (.int x2), some (.int x3), some (.int x4), some (.int x5), o6] [] M 1 K := by
  refine b71_5 ?_
  exact h

theorem t71_10 {M : mj_M} {K : mj_K} {x1 : Int32} {x2 : Int32} {x3 : Int32} {x4 : Int32} {x5 : Int32} {o6 : Option Value} (h : vp_in x1 10 ∧ ((¬ M 3 x1.toNatClampNeg = 2 → mj_Cm 84 1 [.int 0] M (mj_k 2 71 6 34 [some (.ref 0), some (.int x1), some (.int x2), some (.int x3), some (.int x4), some (.int x5), o6] [] 3 none K)) ∧ (M 3 x1.toNatClampNeg = 2 → mj_Cm 84 1 [.int 1] M (mj_k 2 71 6 34 [some (.ref 0), some (.int x1), some (.int x2), some (.int x3), some (.int x4), some (.int x5), o6] [] 3 none K)))) : mj_W 2 71 6 10 [some (.ref 0), some (.int x1), some (.int x2), some (.int x3), some (.int x4), some (.int x5), o6] [] M 2 K := by
  refine b71_10 ?_
  have g1 := h.1
  refine ⟨g1, ?_⟩
  have h1 := h.2
  refine ⟨fun c2 => ?_, fun c2 => ?_⟩
  · have h2a := h1.1 c2
    refine b71_30 ?_
    refine b71_31 ?_
    exact h2a
  · have h2a := h1.2 c2
    refine b71_26 ?_
    refine b71_31 ?_
    exact h2a

theorem t71_34 {M : mj_M} {K : mj_K} {x1 : Int32} {x2 : Int32} {x3 : Int32} {x4 : Int32} {x5 : Int32} {o6 : Option Value} (h : ((mj_v M 1) 1 0).toInt ≤ ((10 : Nat) : Int) ∧ mj_Cm 84 1 [.int (mj_bi (p2 (mj_v M 1) x3))] M (mj_k 2 71 6 48 [some (.ref 0), some (.int x1), some (.int x2), some (.int x3), some (.int x4), some (.int x5), o6] [] 4 none K)) : mj_W 2 71 6 34 [some (.ref 0), some (.int x1), some (.int x2), some (.int x3), some (.int x4), some (.int x5), o6] [] M 3 K := by
  refine b71_34 ?_
  have h1 := h.1
  have h2 := h.2
  refine sp2 h1 ?_
  rw [mj_k2_v]
  refine b71_45 ?_
  exact h2

theorem t71_48 {M : mj_M} {K : mj_K} {x1 : Int32} {x2 : Int32} {x3 : Int32} {x4 : Int32} {x5 : Int32} {o6 : Option Value} (h : mj_Cm 83 1 [.int x2, .int 0, .int 20] M (mj_k 2 71 6 55 [some (.ref 0), some (.int x1), some (.int x2), some (.int x3), some (.int x4), some (.int x5), o6] [] 5 none K)) : mj_W 2 71 6 48 [some (.ref 0), some (.int x1), some (.int x2), some (.int x3), some (.int x4), some (.int x5), o6] [] M 4 K := by
  refine b71_48 ?_
  exact h

theorem t71_55 {M : mj_M} {K : mj_K} {x1 : Int32} {x2 : Int32} {x3 : Int32} {x4 : Int32} {x5 : Int32} {o6 : Option Value} (h : mj_Cm 83 1 [.int x4, .int 0, .int 99] M (mj_k 2 71 6 63 [some (.ref 0), some (.int x1), some (.int x2), some (.int x3), some (.int x4), some (.int x5), o6] [] 6 none K)) : mj_W 2 71 6 55 [some (.ref 0), some (.int x1), some (.int x2), some (.int x3), some (.int x4), some (.int x5), o6] [] M 5 K := by
  refine b71_55 ?_
  exact h

theorem t71_63 {M : mj_M} {K : mj_K} {x1 : Int32} {x2 : Int32} {x3 : Int32} {x4 : Int32} {x5 : Int32} {o6 : Option Value} (h : mj_Cm 83 1 [.int x5, .int 1, .int 9] M (mj_k 2 71 6 71 [some (.ref 0), some (.int x1), some (.int x2), some (.int x3), some (.int x4), some (.int x5), o6] [] 7 none K)) : mj_W 2 71 6 63 [some (.ref 0), some (.int x1), some (.int x2), some (.int x3), some (.int x4), some (.int x5), o6] [] M 6 K := by
  refine b71_63 ?_
  exact h

theorem t71_71 {M : mj_M} {K : mj_K} {x1 : Int32} {x2 : Int32} {x3 : Int32} {x4 : Int32} {x5 : Int32} {o6 : Option Value} (h : (12 ≤ M 29 0 → mj_Cm 85 1 [.int 0] M (mj_k 2 71 6 94 [some (.ref 0), some (.int x1), some (.int x2), some (.int x3), some (.int x4), some (.int x5), o6] [] 8 none K)) ∧ (¬ 12 ≤ M 29 0 → mj_Cm 85 1 [.int 1] M (mj_k 2 71 6 94 [some (.ref 0), some (.int x1), some (.int x2), some (.int x3), some (.int x4), some (.int x5), o6] [] 8 none K))) : mj_W 2 71 6 71 [some (.ref 0), some (.int x1), some (.int x2), some (.int x3), some (.int x4), some (.int x5), o6] [] M 7 K := by
  refine b71_71 ?_
  refine ⟨fun c1 => ?_, fun c1 => ?_⟩
  · have h1a := h.1 c1
    refine b71_90 ?_
    refine b71_91 ?_
    exact h1a
  · have h1a := h.2 c1
    refine b71_86 ?_
    refine b71_91 ?_
    exact h1a

theorem t71_94 {M : mj_M} {K : mj_K} {x1 : Int32} {x2 : Int32} {x3 : Int32} {x4 : Int32} {x5 : Int32} {o6 : Option Value} (h : mj_Cm 30 3 [.ref 28, .int x1] (mj_v M 1) (mj_k2 2 71 6 105 [some (.ref 0), some (.int x1), some (.int x2), some (.int x3), some (.int x4), some (.int x5), o6] [] M 1 40 8 (some .boolean) K)) : mj_W 2 71 6 94 [some (.ref 0), some (.int x1), some (.int x2), some (.int x3), some (.int x4), some (.int x5), o6] [] M 8 K := by
  refine b71_94 ?_
  exact h

theorem t71_105 {M : mj_M} {K : mj_K} {x1 : Int32} {x2 : Int32} {x3 : Int32} {x4 : Int32} {x5 : Int32} {o6 : Option Value} {s0 : Int32} (h : (¬ s0 = 0 → mj_Cm 85 1 [.int 0] M (mj_k 2 71 6 116 [some (.ref 0), some (.int x1), some (.int x2), some (.int x3), some (.int x4), some (.int x5), o6] [] 9 none K)) ∧ (s0 = 0 → mj_Cm 85 1 [.int 1] M (mj_k 2 71 6 116 [some (.ref 0), some (.int x1), some (.int x2), some (.int x3), some (.int x4), some (.int x5), o6] [] 9 none K))) : mj_W 2 71 6 105 [some (.ref 0), some (.int x1), some (.int x2), some (.int x3), some (.int x4), some (.int x5), o6] [.int s0] M 8 K := by
  refine b71_105 ?_
  refine ⟨fun c1 => ?_, fun c1 => ?_⟩
  · have h1a := h.1 c1
    refine b71_112 ?_
    refine b71_113 ?_
    exact h1a
  · have h1a := h.2 c1
    refine b71_108 ?_
    refine b71_113 ?_
    exact h1a

theorem t71_116 {M : mj_M} {K : mj_K} {x1 : Int32} {x2 : Int32} {x3 : Int32} {x4 : Int32} {x5 : Int32} {o6 : Option Value} (h : mj_Cm 47 5 [.ref 0, .int x1, .int x3, .int x2] (mj_v M 1) (mj_k2 2 71 6 126 [some (.ref 0), some (.int x1), some (.int x2), some (.int x3), some (.int x4), some (.int x5), o6] [] M 1 40 9 (some .int) K)) : mj_W 2 71 6 116 [some (.ref 0), some (.int x1), some (.int x2), some (.int x3), some (.int x4), some (.int x5), o6] [] M 9 K := by
  refine b71_116 ?_
  exact h

theorem t71_126 {M : mj_M} {K : mj_K} {x1 : Int32} {x2 : Int32} {x3 : Int32} {x4 : Int32} {x5 : Int32} {o6 : Option Value} {s0 : Int32} (h : mj_Cm 28 1 [.ref 28, .int x1, .int s0, .int x4, .int x5] (mj_v M 1) (mj_k2 2 71 6 145 [some (.ref 0), some (.int x1), some (.int x2), some (.int x3), some (.int x4), some (.int x5), some (.int s0)] [] M 1 40 9 (some .int) K)) : mj_W 2 71 6 126 [some (.ref 0), some (.int x1), some (.int x2), some (.int x3), some (.int x4), some (.int x5), o6] [.int s0] M 9 K := by
  refine b71_126 ?_
  exact h

theorem t71_145 {M : mj_M} {K : mj_K} {x1 : Int32} {x2 : Int32} {x3 : Int32} {x4 : Int32} {x5 : Int32} {x6 : Int32} {s0 : Int32} (h : K 0 s0 M) : mj_W 2 71 6 145 [some (.ref 0), some (.int x1), some (.int x2), some (.int x3), some (.int x4), some (.int x5), some (.int x6)] [.int s0] M 9 K := by
  refine b71_145 ?_
  exact h

theorem t72_0 {M : mj_M} {K : mj_K}  (h : mj_Cm 49 6 [.ref 0] (mj_v M 1) (mj_k2 2 72 7 7 [some (.ref 0)] [] M 1 40 0 (some .int) K)) : mj_W 2 72 7 0 [some (.ref 0)] [] M 0 K := by
  refine b72_0 ?_
  exact h
theorem e72 {M : mj_M} {K : mj_K}  (h : mj_Cm 49 6 [.ref 0] (mj_v M 1) (mj_k2 2 72 7 7 [some (.ref 0)] [] M 1 40 0 (some .int) K)) : mj_Cm 72 7 [.ref 0] M K := mj_en rfl rfl rfl (t72_0 h)

theorem t72_7 {M : mj_M} {K : mj_K} {s0 : Int32} (h : K 0 s0 M) : mj_W 2 72 7 7 [some (.ref 0)] [.int s0] M 0 K := by
  refine b72_7 ?_
  exact h

theorem t73_0 {M : mj_M} {K : mj_K} {x1 : Int32} (h : mj_Cm 83 1 [.int x1, .int 1, .int 60] M (mj_k 2 73 7 7 [some (.ref 0), some (.int x1), none] [] 1 none K)) : mj_W 2 73 7 0 [some (.ref 0), some (.int x1), none] [] M 0 K := by
  refine b73_0 ?_
  exact h
theorem e73 {M : mj_M} {K : mj_K} {x1 : Int32} (h : mj_Cm 83 1 [.int x1, .int 1, .int 60] M (mj_k 2 73 7 7 [some (.ref 0), some (.int x1), none] [] 1 none K)) : mj_Cm 73 7 [.ref 0, .int x1] M K := mj_en rfl rfl rfl (t73_0 h)

theorem t73_9 {M : mj_M} {K : mj_K} {x1 : Int32} {x2 : Int32} (h : (x1 ≤ x2 → K 0 (M 1 5) M) ∧ (¬ x1 ≤ x2 → mj_Cm 51 6 [.ref 0] (mj_v M 1) (mj_k2 2 73 7 21 [some (.ref 0), some (.int x1), some (.int x2)] [] M 1 40 1 none K))) : mj_W 2 73 7 9 [some (.ref 0), some (.int x1), some (.int x2)] [] M 1 K := by
  refine b73_9 ?_
  refine ⟨fun c1 => ?_, fun c1 => ?_⟩
  · have h1a := h.1 c1
    refine b73_27 ?_
    exact h1a
  · have h1a := h.2 c1
    refine b73_14 ?_
    exact h1a

theorem t73_7 {M : mj_M} {K : mj_K} {x1 : Int32} {o2 : Option Value} (h : mj_W 2 73 7 9 [some (.ref 0), some (.int x1), some (.int 0)] [] M 1 K) : mj_W 2 73 7 7 [some (.ref 0), some (.int x1), o2] [] M 1 K := by
  refine b73_7 ?_
  exact h

theorem t73_21 {M : mj_M} {K : mj_K} {x1 : Int32} {x2 : Int32} (h : mj_W 2 73 7 9 [some (.ref 0), some (.int x1), some (.int (x2 + 1))] [] M 1 K) : mj_W 2 73 7 21 [some (.ref 0), some (.int x1), some (.int x2)] [] M 1 K := by
  refine b73_21 ?_
  exact h

theorem t74_0 {M : mj_M} {K : mj_K}  (h : K 0 (M 1 5) M) : mj_W 2 74 1 0 [some (.ref 0)] [] M 0 K := by
  refine b74_0 ?_
  exact h
theorem e74 {M : mj_M} {K : mj_K}  (h : K 0 (M 1 5) M) : mj_Cm 74 1 [.ref 0] M K := mj_en rfl rfl rfl (t74_0 h)

theorem t75_0 {M : mj_M} {K : mj_K} {x1 : Int32} {x2 : Int32} (h : mj_Cm 86 2 [.ref 0, .int x1] M (mj_k 2 75 3 5 [some (.ref 0), some (.int x1), some (.int x2)] [] 1 none K)) : mj_W 2 75 3 0 [some (.ref 0), some (.int x1), some (.int x2)] [] M 0 K := by
  refine b75_0 ?_
  exact h
theorem e75 {M : mj_M} {K : mj_K} {x1 : Int32} {x2 : Int32} (h : mj_Cm 86 2 [.ref 0, .int x1] M (mj_k 2 75 3 5 [some (.ref 0), some (.int x1), some (.int x2)] [] 1 none K)) : mj_Cm 75 3 [.ref 0, .int x1, .int x2] M K := mj_en rfl rfl rfl (t75_0 h)

theorem t75_5 {M : mj_M} {K : mj_K} {x1 : Int32} {x2 : Int32} (h : mj_Cm 83 1 [.int x2, .int 0, .int 4] M (mj_k 2 75 3 11 [some (.ref 0), some (.int x1), some (.int x2)] [] 2 none K)) : mj_W 2 75 3 5 [some (.ref 0), some (.int x1), some (.int x2)] [] M 1 K := by
  refine b75_5 ?_
  exact h

theorem t75_11 {M : mj_M} {K : mj_K} {x1 : Int32} {x2 : Int32} (h : (x2.toInt < 0 ∨ 4 ≤ x2.toInt → vp_in x1 10 ∧ K 0 (M 7 x1.toNatClampNeg) M) ∧ (x2.toInt = 0 → ((mj_v M 1) 1 0).toInt ≤ ((10 : Nat) : Int) ∧ K 0 (f3 (mj_v M 1) x1) M) ∧ (x2.toInt = 1 → vp_in x1 10 ∧ K 0 (M 5 x1.toNatClampNeg) M) ∧ (x2.toInt = 2 → vp_in x1 10 ∧ ((M 8 x1.toNatClampNeg = 0 → K 0 0 M) ∧ (¬ M 8 x1.toNatClampNeg = 0 → K 0 1 M))) ∧ (x2.toInt = 3 → vp_in x1 10 ∧ K 0 (M 6 x1.toNatClampNeg) M)) : mj_W 2 75 3 11 [some (.ref 0), some (.int x1), some (.int x2)] [] M 2 K := by
  refine b75_11 ?_
  refine ⟨fun c => ?_, fun c => ?_, fun c => ?_, fun c => ?_, fun c => ?_, trivial⟩
  · have h1s0 := h.1 c
    refine b75_103 ?_
    have g2 := h1s0.1
    refine ⟨g2, ?_⟩
    have h2 := h1s0.2
    exact h2
  · have h1s1 := h.2.1 c
    refine b75_44 ?_
    have h3 := h1s1.1
    have h4 := h1s1.2
    refine sp3 h3 ?_
    rw [mj_k2_v]
    refine b75_55 ?_
    exact h4
  · have h1s2 := h.2.2.1 c
    refine b75_56 ?_
    have g5 := h1s2.1
    refine ⟨g5, ?_⟩
    have h5 := h1s2.2
    exact h5
  · have h1s3 := h.2.2.2.1 c
    refine b75_69 ?_
    have g6 := h1s3.1
    refine ⟨g6, ?_⟩
    have h6 := h1s3.2
    refine ⟨fun c7 => ?_, fun c7 => ?_⟩
    · have h7a := h6.1 c7
      refine b75_88 ?_
      refine b75_89 ?_
      exact h7a
    · have h7a := h6.2 c7
      refine b75_84 ?_
      refine b75_89 ?_
      exact h7a
  · have h1s4 := h.2.2.2.2 c
    refine b75_90 ?_
    have g8 := h1s4.1
    refine ⟨g8, ?_⟩
    have h8 := h1s4.2
    exact h8

theorem t76_0 {M : mj_M} {K : mj_K} {x1 : Int32} {x2 : Int32} (h : mj_Cm 87 2 [.ref 0, .int x1] M (mj_k 2 76 5 5 [some (.ref 0), some (.int x1), some (.int x2)] [] 1 none K)) : mj_W 2 76 5 0 [some (.ref 0), some (.int x1), some (.int x2)] [] M 0 K := by
  refine b76_0 ?_
  exact h
theorem e76 {M : mj_M} {K : mj_K} {x1 : Int32} {x2 : Int32} (h : mj_Cm 87 2 [.ref 0, .int x1] M (mj_k 2 76 5 5 [some (.ref 0), some (.int x1), some (.int x2)] [] 1 none K)) : mj_Cm 76 5 [.ref 0, .int x1, .int x2] M K := mj_en rfl rfl rfl (t76_0 h)

theorem t76_5 {M : mj_M} {K : mj_K} {x1 : Int32} {x2 : Int32} (h : mj_Cm 83 1 [.int x2, .int 0, .int 4] M (mj_k 2 76 5 11 [some (.ref 0), some (.int x1), some (.int x2)] [] 2 none K)) : mj_W 2 76 5 5 [some (.ref 0), some (.int x1), some (.int x2)] [] M 1 K := by
  refine b76_5 ?_
  exact h

theorem t76_11 {M : mj_M} {K : mj_K} {x1 : Int32} {x2 : Int32} (h : (x2.toInt < 0 ∨ 4 ≤ x2.toInt → ((mj_v M 1) 8 0).toInt ≤ ((14 : Nat) : Int) ∧ K 0 (f10 (mj_v M 1) x1) M) ∧ (x2.toInt = 0 → vp_in x1 14 ∧ ((M 17 x1.toNatClampNeg = 0 → K 0 0 M) ∧ (¬ M 17 x1.toNatClampNeg = 0 → K 0 1 M))) ∧ (x2.toInt = 1 → vp_in x1 14 ∧ K 0 (M 15 x1.toNatClampNeg) M) ∧ (x2.toInt = 2 → vp_in x1 14 ∧ K 0 (M 16 x1.toNatClampNeg) M) ∧ (x2.toInt = 3 → mj_Cm 45 4 [.ref 0, .int x1] (mj_v M 1) (mj_k2 2 76 5 99 [some (.ref 0), some (.int x1), some (.int x2)] [] M 1 40 2 (some .int) K))) : mj_W 2 76 5 11 [some (.ref 0), some (.int x1), some (.int x2)] [] M 2 K := by
  refine b76_11 ?_
  refine ⟨fun c => ?_, fun c => ?_, fun c => ?_, fun c => ?_, fun c => ?_, trivial⟩
  · have h1s0 := h.1 c
    refine b76_100 ?_
    have h2 := h1s0.1
    have h3 := h1s0.2
    refine sp10 h2 ?_
    rw [mj_k2_v]
    refine b76_111 ?_
    exact h3
  · have h1s1 := h.2.1 c
    refine b76_44 ?_
    have g4 := h1s1.1
    refine ⟨g4, ?_⟩
    have h4 := h1s1.2
    refine ⟨fun c5 => ?_, fun c5 => ?_⟩
    · have h5a := h4.1 c5
      refine b76_63 ?_
      refine b76_64 ?_
      exact h5a
    · have h5a := h4.2 c5
      refine b76_59 ?_
      refine b76_64 ?_
      exact h5a
  · have h1s2 := h.2.2.1 c
    refine b76_65 ?_
    have g6 := h1s2.1
    refine ⟨g6, ?_⟩
    have h6 := h1s2.2
    exact h6
  · have h1s3 := h.2.2.2.1 c
    refine b76_78 ?_
    have g7 := h1s3.1
    refine ⟨g7, ?_⟩
    have h7 := h1s3.2
    exact h7
  · have h1s4 := h.2.2.2.2 c
    refine b76_91 ?_
    exact h1s4

theorem t76_99 {M : mj_M} {K : mj_K} {x1 : Int32} {x2 : Int32} {s0 : Int32} (h : K 0 s0 M) : mj_W 2 76 5 99 [some (.ref 0), some (.int x1), some (.int x2)] [.int s0] M 2 K := by
  refine b76_99 ?_
  exact h

theorem t77_0 {M : mj_M} {K : mj_K} {x1 : Int32} {x2 : Int32} (h : mj_Cm 88 2 [.ref 0, .int x1] M (mj_k 2 77 4 5 [some (.ref 0), some (.int x1), some (.int x2)] [] 1 none K)) : mj_W 2 77 4 0 [some (.ref 0), some (.int x1), some (.int x2)] [] M 0 K := by
  refine b77_0 ?_
  exact h
theorem e77 {M : mj_M} {K : mj_K} {x1 : Int32} {x2 : Int32} (h : mj_Cm 88 2 [.ref 0, .int x1] M (mj_k 2 77 4 5 [some (.ref 0), some (.int x1), some (.int x2)] [] 1 none K)) : mj_Cm 77 4 [.ref 0, .int x1, .int x2] M K := mj_en rfl rfl rfl (t77_0 h)

theorem t77_5 {M : mj_M} {K : mj_K} {x1 : Int32} {x2 : Int32} (h : mj_Cm 83 1 [.int x2, .int 0, .int 6] M (mj_k 2 77 4 12 [some (.ref 0), some (.int x1), some (.int x2)] [] 2 none K)) : mj_W 2 77 4 5 [some (.ref 0), some (.int x1), some (.int x2)] [] M 1 K := by
  refine b77_5 ?_
  exact h

theorem t77_12 {M : mj_M} {K : mj_K} {x1 : Int32} {x2 : Int32} (h : (x2.toInt < 0 ∨ 6 ≤ x2.toInt → vp_in x1 120 ∧ K 0 (M 27 x1.toNatClampNeg) M) ∧ (x2.toInt = 0 → vp_in x1 120 ∧ K 0 (M 22 x1.toNatClampNeg) M) ∧ (x2.toInt = 1 → vp_in x1 120 ∧ K 0 (M 23 x1.toNatClampNeg) M) ∧ (x2.toInt = 2 → vp_in x1 120 ∧ K 0 (M 24 x1.toNatClampNeg) M) ∧ (x2.toInt = 3 → mj_Cm 44 3 [.ref 0, .int x1] (mj_v M 1) (mj_k2 2 77 4 99 [some (.ref 0), some (.int x1), some (.int x2)] [] M 1 40 2 (some .int) K)) ∧ (x2.toInt = 4 → ((mj_v M 1) 20 0).toInt ≤ ((120 : Nat) : Int) ∧ ((¬ (p22 (mj_v M 1) x1) → K 0 0 M) ∧ ((p22 (mj_v M 1) x1) → K 0 1 M))) ∧ (x2.toInt = 5 → vp_in x1 120 ∧ ((M 28 x1.toNatClampNeg = 0 → K 0 0 M) ∧ (¬ M 28 x1.toNatClampNeg = 0 → K 0 1 M)))) : mj_W 2 77 4 12 [some (.ref 0), some (.int x1), some (.int x2)] [] M 2 K := by
  refine b77_12 ?_
  refine ⟨fun c => ?_, fun c => ?_, fun c => ?_, fun c => ?_, fun c => ?_, fun c => ?_, fun c => ?_, trivial⟩
  · have h1s0 := h.1 c
    refine b77_141 ?_
    have g2 := h1s0.1
    refine ⟨g2, ?_⟩
    have h2 := h1s0.2
    exact h2
  · have h1s1 := h.2.1 c
    refine b77_52 ?_
    have g3 := h1s1.1
    refine ⟨g3, ?_⟩
    have h3 := h1s1.2
    exact h3
  · have h1s2 := h.2.2.1 c
    refine b77_65 ?_
    have g4 := h1s2.1
    refine ⟨g4, ?_⟩
    have h4 := h1s2.2
    exact h4
  · have h1s3 := h.2.2.2.1 c
    refine b77_78 ?_
    have g5 := h1s3.1
    refine ⟨g5, ?_⟩
    have h5 := h1s3.2
    exact h5
  · have h1s4 := h.2.2.2.2.1 c
    refine b77_91 ?_
    exact h1s4
  · have h1s5 := h.2.2.2.2.2.1 c
    refine b77_100 ?_
    have h6 := h1s5.1
    have h7 := h1s5.2
    refine sp22 h6 ?_
    rw [mj_k2_v]
    refine b77_111 ?_
    refine ⟨fun c8 => ?_, fun c8 => ?_⟩
    · have h8a := h7.1 (mj_bi0.mp c8)
      refine b77_118 ?_
      refine b77_119 ?_
      exact h8a
    · have h8a := h7.2 (mj_bi1.mp c8)
      refine b77_114 ?_
      refine b77_119 ?_
      exact h8a
  · have h1s6 := h.2.2.2.2.2.2 c
    refine b77_120 ?_
    have g9 := h1s6.1
    refine ⟨g9, ?_⟩
    have h9 := h1s6.2
    refine ⟨fun c10 => ?_, fun c10 => ?_⟩
    · have h10a := h9.1 c10
      refine b77_139 ?_
      refine b77_140 ?_
      exact h10a
    · have h10a := h9.2 c10
      refine b77_135 ?_
      refine b77_140 ?_
      exact h10a

theorem t77_99 {M : mj_M} {K : mj_K} {x1 : Int32} {x2 : Int32} {s0 : Int32} (h : K 0 s0 M) : mj_W 2 77 4 99 [some (.ref 0), some (.int x1), some (.int x2)] [.int s0] M 2 K := by
  refine b77_99 ?_
  exact h

theorem t78_0 {M : mj_M} {K : mj_K} {x1 : Int32} {x2 : Int32} (h : mj_Cm 89 2 [.ref 0, .int x1] M (mj_k 2 78 3 5 [some (.ref 0), some (.int x1), some (.int x2)] [] 1 none K)) : mj_W 2 78 3 0 [some (.ref 0), some (.int x1), some (.int x2)] [] M 0 K := by
  refine b78_0 ?_
  exact h
theorem e78 {M : mj_M} {K : mj_K} {x1 : Int32} {x2 : Int32} (h : mj_Cm 89 2 [.ref 0, .int x1] M (mj_k 2 78 3 5 [some (.ref 0), some (.int x1), some (.int x2)] [] 1 none K)) : mj_Cm 78 3 [.ref 0, .int x1, .int x2] M K := mj_en rfl rfl rfl (t78_0 h)

theorem t78_5 {M : mj_M} {K : mj_K} {x1 : Int32} {x2 : Int32} (h : mj_Cm 83 1 [.int x2, .int 0, .int 3] M (mj_k 2 78 3 11 [some (.ref 0), some (.int x1), some (.int x2)] [] 2 none K)) : mj_W 2 78 3 5 [some (.ref 0), some (.int x1), some (.int x2)] [] M 1 K := by
  refine b78_5 ?_
  exact h

theorem t78_11 {M : mj_M} {K : mj_K} {x1 : Int32} {x2 : Int32} (h : (x2.toInt < 0 ∨ 3 ≤ x2.toInt → vp_in x1 12 ∧ K 0 (M 32 x1.toNatClampNeg) M) ∧ (x2.toInt = 0 → vp_in x1 12 ∧ K 0 (M 34 x1.toNatClampNeg) M) ∧ (x2.toInt = 1 → vp_in x1 12 ∧ K 0 (M 35 x1.toNatClampNeg) M) ∧ (x2.toInt = 2 → ((mj_v M 1) 28 0).toInt ≤ ((12 : Nat) : Int) ∧ ((¬ (p29 (mj_v M 1) x1) → K 0 0 M) ∧ ((p29 (mj_v M 1) x1) → K 0 1 M)))) : mj_W 2 78 3 11 [some (.ref 0), some (.int x1), some (.int x2)] [] M 2 K := by
  refine b78_11 ?_
  refine ⟨fun c => ?_, fun c => ?_, fun c => ?_, fun c => ?_, trivial⟩
  · have h1s0 := h.1 c
    refine b78_86 ?_
    have g2 := h1s0.1
    refine ⟨g2, ?_⟩
    have h2 := h1s0.2
    exact h2
  · have h1s1 := h.2.1 c
    refine b78_40 ?_
    have g3 := h1s1.1
    refine ⟨g3, ?_⟩
    have h3 := h1s1.2
    exact h3
  · have h1s2 := h.2.2.1 c
    refine b78_53 ?_
    have g4 := h1s2.1
    refine ⟨g4, ?_⟩
    have h4 := h1s2.2
    exact h4
  · have h1s3 := h.2.2.2 c
    refine b78_66 ?_
    have h5 := h1s3.1
    have h6 := h1s3.2
    refine sp29 h5 ?_
    rw [mj_k2_v]
    refine b78_77 ?_
    refine ⟨fun c7 => ?_, fun c7 => ?_⟩
    · have h7a := h6.1 (mj_bi0.mp c7)
      refine b78_84 ?_
      refine b78_85 ?_
      exact h7a
    · have h7a := h6.2 (mj_bi1.mp c7)
      refine b78_80 ?_
      refine b78_85 ?_
      exact h7a

theorem t79_0 {M : mj_M} {K : mj_K} {x1 : Int32} {x2 : Int32} (h : mj_Cm 86 2 [.ref 0, .int x1] M (mj_k 2 79 7 5 [some (.ref 0), some (.int x1), some (.int x2), none] [] 1 none K)) : mj_W 2 79 7 0 [some (.ref 0), some (.int x1), some (.int x2), none] [] M 0 K := by
  refine b79_0 ?_
  exact h
theorem e79 {M : mj_M} {K : mj_K} {x1 : Int32} {x2 : Int32} (h : mj_Cm 86 2 [.ref 0, .int x1] M (mj_k 2 79 7 5 [some (.ref 0), some (.int x1), some (.int x2), none] [] 1 none K)) : mj_Cm 79 7 [.ref 0, .int x1, .int x2] M K := mj_en rfl rfl rfl (t79_0 h)

theorem t79_25 {M : mj_M} {K : mj_K} {x1 : Int32} {x2 : Int32} {x3 : Int32} (h : (x2 ≤ x3 → ((mj_v M 41) 1 0).toInt ≤ ((10 : Nat) : Int) ∧ K 0 (f3 (mj_v M 41) x1) M) ∧ (¬ x2 ≤ x3 → mj_Cm 51 6 [.ref 0] (mj_v M 41) (mj_k2 2 79 7 37 [some (.ref 0), some (.int x1), some (.int x2), some (.int x3)] [] M 41 40 2 none K))) : mj_W 2 79 7 25 [some (.ref 0), some (.int x1), some (.int x2), some (.int x3)] [] M 2 K := by
  refine b79_25 ?_
  refine ⟨fun c1 => ?_, fun c1 => ?_⟩
  · have h1a := h.1 c1
    refine b79_43 ?_
    have h2 := h1a.1
    have h3 := h1a.2
    refine sp3 h2 ?_
    rw [mj_k2_v]
    refine b79_54 ?_
    exact h3
  · have h1a := h.2 c1
    refine b79_30 ?_
    exact h1a

theorem t79_5 {M : mj_M} {K : mj_K} {x1 : Int32} {x2 : Int32} {o3 : Option Value} (h : mj_Cm 83 1 [.int x2, .int 1, .int 60] M (mj_k 2 79 7 12 [some (.ref 0), some (.int x1), some (.int x2), o3] [] 2 none K)) : mj_W 2 79 7 5 [some (.ref 0), some (.int x1), some (.int x2), o3] [] M 1 K := by
  refine b79_5 ?_
  exact h

theorem t79_37 {M : mj_M} {K : mj_K} {x1 : Int32} {x2 : Int32} {x3 : Int32} (h : mj_W 2 79 7 25 [some (.ref 0), some (.int x1), some (.int x2), some (.int (x3 + 1))] [] M 2 K) : mj_W 2 79 7 37 [some (.ref 0), some (.int x1), some (.int x2), some (.int x3)] [] M 2 K := by
  refine b79_37 ?_
  exact h

theorem t79_12 {M : mj_M} {K : mj_K} {x1 : Int32} {x2 : Int32} {o3 : Option Value} (h : mj_Cm 41 2 [.ref 41, .ref 1] M (mj_k 2 79 7 23 [some (.ref 0), some (.int x1), some (.int x2), o3] [] 2 none K)) : mj_W 2 79 7 12 [some (.ref 0), some (.int x1), some (.int x2), o3] [] M 2 K := by
  refine b79_12 ?_
  exact h

theorem t79_23 {M : mj_M} {K : mj_K} {x1 : Int32} {x2 : Int32} {o3 : Option Value} (h : mj_W 2 79 7 25 [some (.ref 0), some (.int x1), some (.int x2), some (.int 0)] [] M 2 K) : mj_W 2 79 7 23 [some (.ref 0), some (.int x1), some (.int x2), o3] [] M 2 K := by
  refine b79_23 ?_
  exact h

theorem t80_0 {M : mj_M} {K : mj_K}  (h : mj_Cm 41 2 [.ref 41, .ref 1] M (mj_k 2 80 7 11 [some (.ref 0), none] [] 0 none K)) : mj_W 2 80 7 0 [some (.ref 0), none] [] M 0 K := by
  refine b80_0 ?_
  exact h
theorem e80 {M : mj_M} {K : mj_K}  (h : mj_Cm 41 2 [.ref 41, .ref 1] M (mj_k 2 80 7 11 [some (.ref 0), none] [] 0 none K)) : mj_Cm 80 7 [.ref 0] M K := mj_en rfl rfl rfl (t80_0 h)

theorem t80_21 {M : mj_M} {K : mj_K} {x1 : Int32} (h : (100 ≤ x1 → mj_Cm 23 3 [.ref 20] (mj_v M 41) (mj_k2 2 80 7 65 [some (.ref 0), some (.int x1)] [] M 41 40 0 (some .boolean) K)) ∧ (¬ 100 ≤ x1 → mj_Cm 23 3 [.ref 20] (mj_v M 41) (mj_k2 2 80 7 37 [some (.ref 0), some (.int x1)] [] M 41 40 0 (some .boolean) K))) : mj_W 2 80 7 21 [some (.ref 0), some (.int x1)] [] M 0 K := by
  refine b80_21 ?_
  refine ⟨fun c1 => ?_, fun c1 => ?_⟩
  · have h1a := h.1 c1
    refine b80_55 ?_
    exact h1a
  · have h1a := h.2 c1
    refine b80_27 ?_
    exact h1a

theorem t80_11 {M : mj_M} {K : mj_K} {o1 : Option Value} (h : mj_Cm 49 6 [.ref 0] (mj_v M 41) (mj_k2 2 80 7 18 [some (.ref 0), o1] [] M 41 40 0 (some .int) K)) : mj_W 2 80 7 11 [some (.ref 0), o1] [] M 0 K := by
  refine b80_11 ?_
  exact h

theorem t80_65 {M : mj_M} {K : mj_K} {x1 : Int32} {s0 : Int32} (h : (s0 = 0 → K 0 100 M) ∧ (¬ s0 = 0 → K 0 (-1) M)) : mj_W 2 80 7 65 [some (.ref 0), some (.int x1)] [.int s0] M 0 K := by
  refine b80_65 ?_
  refine ⟨fun c1 => ?_, fun c1 => ?_⟩
  · have h1a := h.1 c1
    refine b80_72 ?_
    refine b80_74 ?_
    exact h1a
  · have h1a := h.2 c1
    refine b80_68 ?_
    refine b80_74 ?_
    exact h1a

theorem t80_37 {M : mj_M} {K : mj_K} {x1 : Int32} {s0 : Int32} (h : (¬ s0 = 0 → mj_Cm 51 6 [.ref 0] (mj_v M 41) (mj_k2 2 80 7 49 [some (.ref 0), some (.int x1)] [] M 41 40 0 none K)) ∧ (s0 = 0 → K 0 x1 M)) : mj_W 2 80 7 37 [some (.ref 0), some (.int x1)] [.int s0] M 0 K := by
  refine b80_37 ?_
  refine ⟨fun c1 => ?_, fun c1 => ?_⟩
  · have h1a := h.1 c1
    refine b80_42 ?_
    exact h1a
  · have h1a := h.2 c1
    refine b80_40 ?_
    exact h1a

theorem t80_18 {M : mj_M} {K : mj_K} {o1 : Option Value} {s0 : Int32} (h : mj_W 2 80 7 21 [some (.ref 0), some (.int 0)] [] M 0 K) : mj_W 2 80 7 18 [some (.ref 0), o1] [.int s0] M 0 K := by
  refine b80_18 ?_
  exact h

theorem t80_49 {M : mj_M} {K : mj_K} {x1 : Int32} (h : mj_W 2 80 7 21 [some (.ref 0), some (.int (x1 + 1))] [] M 0 K) : mj_W 2 80 7 49 [some (.ref 0), some (.int x1)] [] M 0 K := by
  refine b80_49 ?_
  exact h

theorem t81_0 {M : mj_M} {K : mj_K} {x1 : Int32} (h : mj_Cm 88 2 [.ref 0, .int x1] M (mj_k 2 81 4 5 [some (.ref 0), some (.int x1)] [] 1 none K)) : mj_W 2 81 4 0 [some (.ref 0), some (.int x1)] [] M 0 K := by
  refine b81_0 ?_
  exact h
theorem e81 {M : mj_M} {K : mj_K} {x1 : Int32} (h : mj_Cm 88 2 [.ref 0, .int x1] M (mj_k 2 81 4 5 [some (.ref 0), some (.int x1)] [] 1 none K)) : mj_Cm 81 4 [.ref 0, .int x1] M K := mj_en rfl rfl rfl (t81_0 h)

theorem t81_5 {M : mj_M} {K : mj_K} {x1 : Int32} (h : mj_Cm 43 3 [.ref 0, .int x1] (mj_v M 1) (mj_k2 2 81 4 13 [some (.ref 0), some (.int x1)] [] M 1 40 1 (some .int) K)) : mj_W 2 81 4 5 [some (.ref 0), some (.int x1)] [] M 1 K := by
  refine b81_5 ?_
  exact h

theorem t81_13 {M : mj_M} {K : mj_K} {x1 : Int32} {s0 : Int32} (h : K 0 s0 M) : mj_W 2 81 4 13 [some (.ref 0), some (.int x1)] [.int s0] M 1 K := by
  refine b81_13 ?_
  exact h

theorem t82_0 {M : mj_M} {K : mj_K} {x1 : Int32} (h : mj_Cm 88 2 [.ref 0, .int x1] M (mj_k 2 82 16 5 [some (.ref 0), some (.int x1), none, none] [] 1 none K)) : mj_W 2 82 16 0 [some (.ref 0), some (.int x1), none, none] [] M 0 K := by
  refine b82_0 ?_
  exact h
theorem e82 {M : mj_M} {K : mj_K} {x1 : Int32} (h : mj_Cm 88 2 [.ref 0, .int x1] M (mj_k 2 82 16 5 [some (.ref 0), some (.int x1), none, none] [] 1 none K)) : mj_Cm 82 16 [.ref 0, .int x1] M K := mj_en rfl rfl rfl (t82_0 h)

theorem t82_5 {M : mj_M} {K : mj_K} {x1 : Int32} {o2 : Option Value} {o3 : Option Value} (h : vp_in x1 120 ∧ mj_Cm 90 15 [.ref 9, .int (M 25 x1.toNatClampNeg), .int (M 23 x1.toNatClampNeg), .int (M 24 x1.toNatClampNeg), .int (1 <<< ((M 23 x1.toNatClampNeg) &&& 31)), .int 0] M (mj_k 2 82 16 59 [some (.ref 0), some (.int x1), some (.int (M 23 x1.toNatClampNeg)), some (.int (M 24 x1.toNatClampNeg))] [] 1 (some .int) K)) : mj_W 2 82 16 5 [some (.ref 0), some (.int x1), o2, o3] [] M 1 K := by
  refine b82_5 ?_
  have g1 := h.1
  refine ⟨g1, ?_⟩
  have h1 := h.2
  exact h1

theorem t82_59 {M : mj_M} {K : mj_K} {x1 : Int32} {x2 : Int32} {x3 : Int32} {s0 : Int32} (h : K 0 s0 M) : mj_W 2 82 16 59 [some (.ref 0), some (.int x1), some (.int x2), some (.int x3)] [.int s0] M 1 K := by
  refine b82_59 ?_
  exact h

theorem t83_0 {M : mj_M} {K : mj_K} {x0 : Int32} {x1 : Int32} {x2 : Int32} (h : (x0 < x1 → K 2 0 M) ∧ (¬ x0 < x1 → (x0 ≤ x2 → K 0 0 M) ∧ (¬ x0 ≤ x2 → K 2 0 M))) : mj_W 2 83 1 0 [some (.int x0), some (.int x1), some (.int x2)] [] M 0 K := by
  refine b83_0 ?_
  refine ⟨fun c1 => ?_, fun c1 => ?_⟩
  · have h1a := h.1 c1
    refine b83_10 ?_
    exact h1a
  · have h1a := h.2 c1
    refine b83_5 ?_
    refine ⟨fun c2 => ?_, fun c2 => ?_⟩
    · have h2a := h1a.1 c2
      refine b83_20 ?_
      exact h2a
    · have h2a := h1a.2 c2
      refine b83_10 ?_
      exact h2a
theorem e83 {M : mj_M} {K : mj_K} {x0 : Int32} {x1 : Int32} {x2 : Int32} (h : (x0 < x1 → K 2 0 M) ∧ (¬ x0 < x1 → (x0 ≤ x2 → K 0 0 M) ∧ (¬ x0 ≤ x2 → K 2 0 M))) : mj_Cm 83 1 [.int x0, .int x1, .int x2] M K := mj_en rfl rfl rfl (t83_0 h)

theorem t84_0 {M : mj_M} {K : mj_K} {x0 : Int32} (h : (¬ x0 = 0 → K 0 0 M) ∧ (x0 = 0 → K 2 0 M)) : mj_W 2 84 1 0 [some (.int x0)] [] M 0 K := by
  refine b84_0 ?_
  refine ⟨fun c1 => ?_, fun c1 => ?_⟩
  · have h1a := h.1 c1
    refine b84_14 ?_
    exact h1a
  · have h1a := h.2 c1
    refine b84_4 ?_
    exact h1a
theorem e84 {M : mj_M} {K : mj_K} {x0 : Int32} (h : (¬ x0 = 0 → K 0 0 M) ∧ (x0 = 0 → K 2 0 M)) : mj_Cm 84 1 [.int x0] M K := mj_en rfl rfl rfl (t84_0 h)

theorem t85_0 {M : mj_M} {K : mj_K} {x0 : Int32} (h : (¬ x0 = 0 → K 0 0 M) ∧ (x0 = 0 → K 3 0 M)) : mj_W 2 85 1 0 [some (.int x0)] [] M 0 K := by
  refine b85_0 ?_
  refine ⟨fun c1 => ?_, fun c1 => ?_⟩
  · have h1a := h.1 c1
    refine b85_14 ?_
    exact h1a
  · have h1a := h.2 c1
    refine b85_4 ?_
    exact h1a
theorem e85 {M : mj_M} {K : mj_K} {x0 : Int32} (h : (¬ x0 = 0 → K 0 0 M) ∧ (x0 = 0 → K 3 0 M)) : mj_Cm 85 1 [.int x0] M K := mj_en rfl rfl rfl (t85_0 h)

theorem t86_0 {M : mj_M} {K : mj_K} {x1 : Int32} (h : ((p0 (mj_v M 1) x1) → K 0 0 M) ∧ (¬ (p0 (mj_v M 1) x1) → K 1 0 M)) : mj_W 2 86 2 0 [some (.ref 0), some (.int x1)] [] M 0 K := by
  refine b86_0 ?_
  refine sp0  ?_
  rw [mj_k2_v]
  refine b86_11 ?_
  refine ⟨fun c1 => ?_, fun c1 => ?_⟩
  · have h1a := h.1 (mj_bi1.mp c1)
    refine b86_24 ?_
    exact h1a
  · have h1a := h.2 (mj_bi0.mp c1)
    refine b86_14 ?_
    exact h1a
theorem e86 {M : mj_M} {K : mj_K} {x1 : Int32} (h : ((p0 (mj_v M 1) x1) → K 0 0 M) ∧ (¬ (p0 (mj_v M 1) x1) → K 1 0 M)) : mj_Cm 86 2 [.ref 0, .int x1] M K := mj_en rfl rfl rfl (t86_0 h)

theorem t87_0 {M : mj_M} {K : mj_K} {x1 : Int32} (h : ((p7 (mj_v M 1) x1) → K 0 0 M) ∧ (¬ (p7 (mj_v M 1) x1) → K 1 0 M)) : mj_W 2 87 2 0 [some (.ref 0), some (.int x1)] [] M 0 K := by
  refine b87_0 ?_
  refine sp7  ?_
  rw [mj_k2_v]
  refine b87_11 ?_
  refine ⟨fun c1 => ?_, fun c1 => ?_⟩
  · have h1a := h.1 (mj_bi1.mp c1)
    refine b87_24 ?_
    exact h1a
  · have h1a := h.2 (mj_bi0.mp c1)
    refine b87_14 ?_
    exact h1a
theorem e87 {M : mj_M} {K : mj_K} {x1 : Int32} (h : ((p7 (mj_v M 1) x1) → K 0 0 M) ∧ (¬ (p7 (mj_v M 1) x1) → K 1 0 M)) : mj_Cm 87 2 [.ref 0, .int x1] M K := mj_en rfl rfl rfl (t87_0 h)

theorem t88_0 {M : mj_M} {K : mj_K} {x1 : Int32} (h : ((p18 (mj_v M 1) x1) → K 0 0 M) ∧ (¬ (p18 (mj_v M 1) x1) → K 1 0 M)) : mj_W 2 88 2 0 [some (.ref 0), some (.int x1)] [] M 0 K := by
  refine b88_0 ?_
  refine sp18  ?_
  rw [mj_k2_v]
  refine b88_11 ?_
  refine ⟨fun c1 => ?_, fun c1 => ?_⟩
  · have h1a := h.1 (mj_bi1.mp c1)
    refine b88_24 ?_
    exact h1a
  · have h1a := h.2 (mj_bi0.mp c1)
    refine b88_14 ?_
    exact h1a
theorem e88 {M : mj_M} {K : mj_K} {x1 : Int32} (h : ((p18 (mj_v M 1) x1) → K 0 0 M) ∧ (¬ (p18 (mj_v M 1) x1) → K 1 0 M)) : mj_Cm 88 2 [.ref 0, .int x1] M K := mj_en rfl rfl rfl (t88_0 h)

theorem t89_0 {M : mj_M} {K : mj_K} {x1 : Int32} (h : ((p27 (mj_v M 1) x1) → K 0 0 M) ∧ (¬ (p27 (mj_v M 1) x1) → K 1 0 M)) : mj_W 2 89 2 0 [some (.ref 0), some (.int x1)] [] M 0 K := by
  refine b89_0 ?_
  refine sp27  ?_
  rw [mj_k2_v]
  refine b89_11 ?_
  refine ⟨fun c1 => ?_, fun c1 => ?_⟩
  · have h1a := h.1 (mj_bi1.mp c1)
    refine b89_24 ?_
    exact h1a
  · have h1a := h.2 (mj_bi0.mp c1)
    refine b89_14 ?_
    exact h1a
theorem e89 {M : mj_M} {K : mj_K} {x1 : Int32} (h : ((p27 (mj_v M 1) x1) → K 0 0 M) ∧ (¬ (p27 (mj_v M 1) x1) → K 1 0 M)) : mj_Cm 89 2 [.ref 0, .int x1] M K := mj_en rfl rfl rfl (t89_0 h)

theorem t90_0 {d : Nat} (hd : mj_ht 90 ≤ d) {M : mj_M} {K : mj_K} {x1 : Int32} {x2 : Int32} {x3 : Int32} {x4 : Int32} {x5 : Int32} (h : (¬ x2 = x3 → (x5 < 10 → mj_W 2 90 d 22 [some (.ref 9), some (.int x1), some (.int x2), some (.int x3), some (.int x4), some (.int x5), some (.int (-1)), some (.int 0), none, none] [] M 0 K) ∧ (¬ x5 < 10 → K 0 (-1) M)) ∧ (x2 = x3 → K 0 0 M)) : mj_W 2 90 d 0 [some (.ref 9), some (.int x1), some (.int x2), some (.int x3), some (.int x4), some (.int x5), none, none, none, none] [] M 0 K := by
  refine b90_0 hd ?_
  refine ⟨fun c1 => ?_, fun c1 => ?_⟩
  · have h1a := h.1 c1
    refine b90_7 hd ?_
    refine ⟨fun c2 => ?_, fun c2 => ?_⟩
    · have h2a := h1a.1 c2
      refine b90_16 hd ?_
      exact h2a
    · have h2a := h1a.2 c2
      refine b90_14 hd ?_
      exact h2a
  · have h1a := h.2 c1
    refine b90_5 hd ?_
    exact h1a
theorem e90 {d : Nat} (hd : mj_ht 90 ≤ d) {M : mj_M} {K : mj_K} {x1 : Int32} {x2 : Int32} {x3 : Int32} {x4 : Int32} {x5 : Int32} (h : (¬ x2 = x3 → (x5 < 10 → mj_W 2 90 d 22 [some (.ref 9), some (.int x1), some (.int x2), some (.int x3), some (.int x4), some (.int x5), some (.int (-1)), some (.int 0), none, none] [] M 0 K) ∧ (¬ x5 < 10 → K 0 (-1) M)) ∧ (x2 = x3 → K 0 0 M)) : mj_Cm 90 d [.ref 9, .int x1, .int x2, .int x3, .int x4, .int x5] M K := mj_en rfl rfl rfl (t90_0 hd h)

theorem t90_22 {d : Nat} (hd : mj_ht 90 ≤ d) {M : mj_M} {K : mj_K} {x1 : Int32} {x2 : Int32} {x3 : Int32} {x4 : Int32} {x5 : Int32} {x6 : Int32} {x7 : Int32} {o8 : Option Value} {o9 : Option Value} (h : (M 9 0 ≤ x7 → K 0 x6 M) ∧ (¬ M 9 0 ≤ x7 → ((mj_v M 1) 8 0).toInt ≤ ((14 : Nat) : Int) ∧ ((f12 (mj_v M 1) x7 x2 x1 = (-1) → mj_W 2 90 d 22 [some (.ref 9), some (.int x1), some (.int x2), some (.int x3), some (.int x4), some (.int x5), some (.int x6), some (.int (x7 + 1)), some (.int (f12 (mj_v M 1) x7 x2 x1)), o9] [] M 0 K) ∧ (¬ f12 (mj_v M 1) x7 x2 x1 = (-1) → (x4 &&& (1 <<< ((f12 (mj_v M 1) x7 x2 x1) &&& 31)) = 0 → mj_Cm 90 (d - 1) [.ref 9, .int x1, .int (f12 (mj_v M 1) x7 x2 x1), .int x3, .int (x4 ||| (1 <<< ((f12 (mj_v M 1) x7 x2 x1) &&& 31))), .int (x5 + 1)] M (mj_k 2 90 d 79 [some (.ref 9), some (.int x1), some (.int x2), some (.int x3), some (.int x4), some (.int x5), some (.int x6), some (.int x7), some (.int (f12 (mj_v M 1) x7 x2 x1)), o9] [] 0 (some .int) K)) ∧ (¬ x4 &&& (1 <<< ((f12 (mj_v M 1) x7 x2 x1) &&& 31)) = 0 → mj_W 2 90 d 22 [some (.ref 9), some (.int x1), some (.int x2), some (.int x3), some (.int x4), some (.int x5), some (.int x6), some (.int (x7 + 1)), some (.int (f12 (mj_v M 1) x7 x2 x1)), o9] [] M 0 K))))) : mj_W 2 90 d 22 [some (.ref 9), some (.int x1), some (.int x2), some (.int x3), some (.int x4), some (.int x5), some (.int x6), some (.int x7), o8, o9] [] M 0 K := by
  refine b90_22 hd ?_
  refine ⟨fun c1 => ?_, fun c1 => ?_⟩
  · have h1a := h.1 c1
    refine b90_126 hd ?_
    exact h1a
  · have h1a := h.2 c1
    refine b90_31 hd ?_
    have h2 := h1a.1
    have h3 := h1a.2
    refine sp12 h2 ?_
    rw [mj_k2_v]
    refine b90_39 hd ?_
    refine ⟨fun c4 => ?_, fun c4 => ?_⟩
    · have h4a := h3.1 c4
      refine b90_120 hd ?_
      exact h4a
    · have h4a := h3.2 c4
      refine b90_47 hd ?_
      refine ⟨fun c5 => ?_, fun c5 => ?_⟩
      · have h5a := h4a.1 c5
        refine b90_60 hd ?_
        exact h5a
      · have h5a := h4a.2 c5
        refine b90_57 hd ?_
        refine b90_120 hd ?_
        exact h5a

theorem t90_79 {d : Nat} (hd : mj_ht 90 ≤ d) {M : mj_M} {K : mj_K} {x1 : Int32} {x2 : Int32} {x3 : Int32} {x4 : Int32} {x5 : Int32} {x6 : Int32} {x7 : Int32} {x8 : Int32} {o9 : Option Value} {s0 : Int32} (h : (s0 = (-1) → mj_W 2 90 d 22 [some (.ref 9), some (.int x1), some (.int x2), some (.int x3), some (.int x4), some (.int x5), some (.int x6), some (.int (x7 + 1)), some (.int x8), some (.int s0)] [] M 0 K) ∧ (¬ s0 = (-1) → (x6 = (-1) → vp_in x7 14 ∧ mj_W 2 90 d 22 [some (.ref 9), some (.int x1), some (.int x2), some (.int x3), some (.int x4), some (.int x5), some (.int (M 13 x7.toNatClampNeg + s0)), some (.int (x7 + 1)), some (.int x8), some (.int s0)] [] M 0 K) ∧ (¬ x6 = (-1) → vp_in x7 14 ∧ ((x6 ≤ M 13 x7.toNatClampNeg + s0 → mj_W 2 90 d 22 [some (.ref 9), some (.int x1), some (.int x2), some (.int x3), some (.int x4), some (.int x5), some (.int x6), some (.int (x7 + 1)), some (.int x8), some (.int s0)] [] M 0 K) ∧ (¬ x6 ≤ M 13 x7.toNatClampNeg + s0 → mj_W 2 90 d 22 [some (.ref 9), some (.int x1), some (.int x2), some (.int x3), some (.int x4), some (.int x5), some (.int (M 13 x7.toNatClampNeg + s0)), some (.int (x7 + 1)), some (.int x8), some (.int s0)] [] M 0 K))))) : mj_W 2 90 d 79 [some (.ref 9), some (.int x1), some (.int x2), some (.int x3), some (.int x4), some (.int x5), some (.int x6), some (.int x7), some (.int x8), o9] [.int s0] M 0 K := by
  refine b90_79 hd ?_
  refine ⟨fun c1 => ?_, fun c1 => ?_⟩
  · have h1a := h.1 c1
    refine b90_120 hd ?_
    exact h1a
  · have h1a := h.2 c1
    refine b90_87 hd ?_
    refine ⟨fun c2 => ?_, fun c2 => ?_⟩
    · have h2a := h1a.1 c2
      refine b90_108 hd ?_
      have g3 := h2a.1
      refine ⟨g3, ?_⟩
      have h3 := h2a.2
      refine b90_120 hd ?_
      exact h3
    · have h2a := h1a.2 c2
      refine b90_93 hd ?_
      have g4 := h2a.1
      refine ⟨g4, ?_⟩
      have h4 := h2a.2
      refine ⟨fun c5 => ?_, fun c5 => ?_⟩
      · have h5a := h4.1 c5
        refine b90_120 hd ?_
        exact h5a
      · have h5a := h4.2 c5
        refine b90_108 hd ?_
        refine ⟨g4, ?_⟩
        refine b90_120 hd ?_
        exact h5a

