-- trees of blocks: what remains of a method from a start
theorem t91_0 {M : mj_M} {K : mj_K}  (h : K 0 (M 0 5) M) : mj_W 1 91 1 0 [some (.ref 0)] [] M 0 K := by
  refine b91_0 ?_
  exact h
theorem e91 {M : mj_M} {K : mj_K}  (h : K 0 (M 0 5) M) : mj_Cm 91 1 [.ref 0] M K := mj_en rfl rfl rfl (t91_0 h)

theorem t93_0 {M : mj_M} {K : mj_K} {x1 : Int32} {x2 : Int32} {x3 : Int32} (h : (¬ x1 = 0 → (¬ x2 = 0 → (x3 = 0 → (¬ (mj_u M 0 5 3) 0 5 = 0 → K 0 0 (mj_u M 0 5 3)) ∧ ((mj_u M 0 5 3) 0 5 = 0 → K 0 1 (mj_u M 0 5 3))) ∧ (¬ x3 = 0 → (¬ (mj_u M 0 5 0) 0 5 = 0 → K 0 0 (mj_u M 0 5 0)) ∧ ((mj_u M 0 5 0) 0 5 = 0 → K 0 1 (mj_u M 0 5 0)))) ∧ (x2 = 0 → (¬ (mj_u M 0 5 2) 0 5 = 0 → K 0 0 (mj_u M 0 5 2)) ∧ ((mj_u M 0 5 2) 0 5 = 0 → K 0 1 (mj_u M 0 5 2)))) ∧ (x1 = 0 → (¬ (mj_u M 0 5 1) 0 5 = 0 → K 0 0 (mj_u M 0 5 1)) ∧ ((mj_u M 0 5 1) 0 5 = 0 → K 0 1 (mj_u M 0 5 1)))) : mj_W 1 93 1 0 [some (.ref 0), some (.int x1), some (.int x2), some (.int x3)] [] M 0 K := by
  refine b93_0 ?_
  refine ⟨fun c1 => ?_, fun c1 => ?_⟩
  · have h1a := h.1 c1
    refine b93_9 ?_
    refine ⟨fun c2 => ?_, fun c2 => ?_⟩
    · have h2a := h1a.1 c2
      refine b93_17 ?_
      refine ⟨fun c3 => ?_, fun c3 => ?_⟩
      · have h3a := h2a.1 c3
        refine b93_25 ?_
        refine b93_26 ?_
        refine ⟨fun c4 => ?_, fun c4 => ?_⟩
        · have h4a := h3a.1 c4
          refine b93_40 ?_
          refine b93_41 ?_
          rw [mj_nb0]
          exact h4a
        · have h4a := h3a.2 c4
          refine b93_36 ?_
          refine b93_41 ?_
          rw [mj_nb1]
          exact h4a
      · have h3a := h2a.2 c3
        refine b93_21 ?_
        refine b93_26 ?_
        refine ⟨fun c5 => ?_, fun c5 => ?_⟩
        · have h5a := h3a.1 c5
          refine b93_40 ?_
          refine b93_41 ?_
          rw [mj_nb0]
          exact h5a
        · have h5a := h3a.2 c5
          refine b93_36 ?_
          refine b93_41 ?_
          rw [mj_nb1]
          exact h5a
    · have h2a := h1a.2 c2
      refine b93_13 ?_
      refine b93_26 ?_
      refine ⟨fun c6 => ?_, fun c6 => ?_⟩
      · have h6a := h2a.1 c6
        refine b93_40 ?_
        refine b93_41 ?_
        rw [mj_nb0]
        exact h6a
      · have h6a := h2a.2 c6
        refine b93_36 ?_
        refine b93_41 ?_
        rw [mj_nb1]
        exact h6a
  · have h1a := h.2 c1
    refine b93_5 ?_
    refine b93_26 ?_
    refine ⟨fun c7 => ?_, fun c7 => ?_⟩
    · have h7a := h1a.1 c7
      refine b93_40 ?_
      refine b93_41 ?_
      rw [mj_nb0]
      exact h7a
    · have h7a := h1a.2 c7
      refine b93_36 ?_
      refine b93_41 ?_
      rw [mj_nb1]
      exact h7a
theorem e93 {M : mj_M} {K : mj_K} {x1 : Int32} {x2 : Int32} {x3 : Int32} (h : (¬ x1 = 0 → (¬ x2 = 0 → (x3 = 0 → (¬ (mj_u M 0 5 3) 0 5 = 0 → K 0 0 (mj_u M 0 5 3)) ∧ ((mj_u M 0 5 3) 0 5 = 0 → K 0 1 (mj_u M 0 5 3))) ∧ (¬ x3 = 0 → (¬ (mj_u M 0 5 0) 0 5 = 0 → K 0 0 (mj_u M 0 5 0)) ∧ ((mj_u M 0 5 0) 0 5 = 0 → K 0 1 (mj_u M 0 5 0)))) ∧ (x2 = 0 → (¬ (mj_u M 0 5 2) 0 5 = 0 → K 0 0 (mj_u M 0 5 2)) ∧ ((mj_u M 0 5 2) 0 5 = 0 → K 0 1 (mj_u M 0 5 2)))) ∧ (x1 = 0 → (¬ (mj_u M 0 5 1) 0 5 = 0 → K 0 0 (mj_u M 0 5 1)) ∧ ((mj_u M 0 5 1) 0 5 = 0 → K 0 1 (mj_u M 0 5 1)))) : mj_Cm 93 1 [.ref 0, .int x1, .int x2, .int x3] M K := mj_en rfl rfl rfl (t93_0 h)

theorem t100_0 {M : mj_M} {K : mj_K} {x1 : Int32} {x2 : Int32} (h : (¬ (p92 M x1 0 2) → (10 ≤ M 1 1238 → mj_Cm 93 1 [.ref 0, .int 0, .int 0, .int 1] M (mj_k 1 100 2 47 [some (.ref 0), some (.int x1), some (.int x2), none] [] 0 (some .boolean) K)) ∧ (¬ 10 ≤ M 1 1238 → mj_Cm 93 1 [.ref 0, .int 0, .int 1, .int 1] M (mj_k 1 100 2 47 [some (.ref 0), some (.int x1), some (.int x2), none] [] 0 (some .boolean) K))) ∧ ((p92 M x1 0 2) → (¬ (p92 M x2 1 60) → (10 ≤ M 1 1238 → mj_Cm 93 1 [.ref 0, .int 0, .int 0, .int 1] M (mj_k 1 100 2 47 [some (.ref 0), some (.int x1), some (.int x2), none] [] 0 (some .boolean) K)) ∧ (¬ 10 ≤ M 1 1238 → mj_Cm 93 1 [.ref 0, .int 0, .int 1, .int 1] M (mj_k 1 100 2 47 [some (.ref 0), some (.int x1), some (.int x2), none] [] 0 (some .boolean) K))) ∧ ((p92 M x2 1 60) → (10 ≤ M 1 1238 → mj_Cm 93 1 [.ref 0, .int 1, .int 0, .int 1] M (mj_k 1 100 2 47 [some (.ref 0), some (.int x1), some (.int x2), none] [] 0 (some .boolean) K)) ∧ (¬ 10 ≤ M 1 1238 → mj_Cm 93 1 [.ref 0, .int 1, .int 1, .int 1] M (mj_k 1 100 2 47 [some (.ref 0), some (.int x1), some (.int x2), none] [] 0 (some .boolean) K))))) : mj_W 1 100 2 0 [some (.ref 0), some (.int x1), some (.int x2), none] [] M 0 K := by
  refine b100_0 ?_
  refine sp92  ?_
  refine b100_7 ?_
  refine ⟨fun c1 => ?_, fun c1 => ?_⟩
  · have h1a := h.1 (mj_bi0.mp c1)
    refine b100_24 ?_
    refine b100_25 ?_
    refine ⟨fun c2 => ?_, fun c2 => ?_⟩
    · have h2a := h1a.1 c2
      refine b100_42 ?_
      refine b100_43 ?_
      exact h2a
    · have h2a := h1a.2 c2
      refine b100_38 ?_
      refine b100_43 ?_
      exact h2a
  · have h1a := h.2 (mj_bi1.mp c1)
    refine b100_10 ?_
    refine sp92  ?_
    refine b100_17 ?_
    refine ⟨fun c3 => ?_, fun c3 => ?_⟩
    · have h3a := h1a.1 (mj_bi0.mp c3)
      refine b100_24 ?_
      refine b100_25 ?_
      refine ⟨fun c4 => ?_, fun c4 => ?_⟩
      · have h4a := h3a.1 c4
        refine b100_42 ?_
        refine b100_43 ?_
        exact h4a
      · have h4a := h3a.2 c4
        refine b100_38 ?_
        refine b100_43 ?_
        exact h4a
    · have h3a := h1a.2 (mj_bi1.mp c3)
      refine b100_20 ?_
      refine b100_25 ?_
      refine ⟨fun c5 => ?_, fun c5 => ?_⟩
      · have h5a := h3a.1 c5
        refine b100_42 ?_
        refine b100_43 ?_
        exact h5a
      · have h5a := h3a.2 c5
        refine b100_38 ?_
        refine b100_43 ?_
        exact h5a
theorem e100 {M : mj_M} {K : mj_K} {x1 : Int32} {x2 : Int32} (h : (¬ (p92 M x1 0 2) → (10 ≤ M 1 1238 → mj_Cm 93 1 [.ref 0, .int 0, .int 0, .int 1] M (mj_k 1 100 2 47 [some (.ref 0), some (.int x1), some (.int x2), none] [] 0 (some .boolean) K)) ∧ (¬ 10 ≤ M 1 1238 → mj_Cm 93 1 [.ref 0, .int 0, .int 1, .int 1] M (mj_k 1 100 2 47 [some (.ref 0), some (.int x1), some (.int x2), none] [] 0 (some .boolean) K))) ∧ ((p92 M x1 0 2) → (¬ (p92 M x2 1 60) → (10 ≤ M 1 1238 → mj_Cm 93 1 [.ref 0, .int 0, .int 0, .int 1] M (mj_k 1 100 2 47 [some (.ref 0), some (.int x1), some (.int x2), none] [] 0 (some .boolean) K)) ∧ (¬ 10 ≤ M 1 1238 → mj_Cm 93 1 [.ref 0, .int 0, .int 1, .int 1] M (mj_k 1 100 2 47 [some (.ref 0), some (.int x1), some (.int x2), none] [] 0 (some .boolean) K))) ∧ ((p92 M x2 1 60) → (10 ≤ M 1 1238 → mj_Cm 93 1 [.ref 0, .int 1, .int 0, .int 1] M (mj_k 1 100 2 47 [some (.ref 0), some (.int x1), some (.int x2), none] [] 0 (some .boolean) K)) ∧ (¬ 10 ≤ M 1 1238 → mj_Cm 93 1 [.ref 0, .int 1, .int 1, .int 1] M (mj_k 1 100 2 47 [some (.ref 0), some (.int x1), some (.int x2), none] [] 0 (some .boolean) K))))) : mj_Cm 100 2 [.ref 0, .int x1, .int x2] M K := mj_en rfl rfl rfl (t100_0 h)

theorem t100_47 {M : mj_M} {K : mj_K} {x1 : Int32} {x2 : Int32} {o3 : Option Value} {s0 : Int32} (h : (¬ s0 = 0 → vp_in (5 * M 1 1238 + 1114) 1242 ∧ vp_in (5 * M 1 1238 + 1115) 1242 ∧ K 0 ((mj_u (mj_u (mj_u M 1 ((5 * M 1 1238 + 1114).toNatClampNeg) x1) 1 ((5 * M 1 1238 + 1115).toNatClampNeg) x2) 1 1238 ((mj_u (mj_u M 1 ((5 * M 1 1238 + 1114).toNatClampNeg) x1) 1 ((5 * M 1 1238 + 1115).toNatClampNeg) x2) 1 1238 + 1)) 1 1238 - 1) (mj_u (mj_u (mj_u M 1 ((5 * M 1 1238 + 1114).toNatClampNeg) x1) 1 ((5 * M 1 1238 + 1115).toNatClampNeg) x2) 1 1238 ((mj_u (mj_u M 1 ((5 * M 1 1238 + 1114).toNatClampNeg) x1) 1 ((5 * M 1 1238 + 1115).toNatClampNeg) x2) 1 1238 + 1))) ∧ (s0 = 0 → K 0 0 M)) : mj_W 1 100 2 47 [some (.ref 0), some (.int x1), some (.int x2), o3] [.int s0] M 0 K := by
  refine b100_47 ?_
  refine ⟨fun c1 => ?_, fun c1 => ?_⟩
  · have h1a := h.1 c1
    refine b100_52 ?_
    have g2 := h1a.1
    refine ⟨g2, ?_⟩
    have h2 := h1a.2
    have g3 := h2.1
    refine ⟨g3, ?_⟩
    have h3 := h2.2
    exact h3
  · have h1a := h.2 c1
    refine b100_50 ?_
    exact h1a

theorem t101_0 {M : mj_M} {K : mj_K} {x1 : Int32} {x2 : Int32} {x3 : Int32} {x4 : Int32} {x5 : Int32} (h : (¬ (p94 M x2) → (x2 = x3 → (14 ≤ M 1 1239 → mj_Cm 93 1 [.ref 0, .int 0, .int 0, .int 0] M (mj_k 1 101 3 91 [some (.ref 0), some (.int x1), some (.int x2), some (.int x3), some (.int x4), some (.int x5), some (.int 0), some (.int 0), none] [] 0 (some .boolean) K)) ∧ (¬ 14 ≤ M 1 1239 → mj_Cm 93 1 [.ref 0, .int 0, .int 0, .int 1] M (mj_k 1 101 3 91 [some (.ref 0), some (.int x1), some (.int x2), some (.int x3), some (.int x4), some (.int x5), some (.int 0), some (.int 0), none] [] 0 (some .boolean) K))) ∧ (¬ x2 = x3 → (¬ (p92 M x1 0 4) → (14 ≤ M 1 1239 → mj_Cm 93 1 [.ref 0, .int 0, .int 0, .int 0] M (mj_k 1 101 3 91 [some (.ref 0), some (.int x1), some (.int x2), some (.int x3), some (.int x4), some (.int x5), some (.int 0), some (.int 0), none] [] 0 (some .boolean) K)) ∧ (¬ 14 ≤ M 1 1239 → mj_Cm 93 1 [.ref 0, .int 0, .int 0, .int 1] M (mj_k 1 101 3 91 [some (.ref 0), some (.int x1), some (.int x2), some (.int x3), some (.int x4), some (.int x5), some (.int 0), some (.int 0), none] [] 0 (some .boolean) K))) ∧ ((p92 M x1 0 4) → (¬ (p92 M x4 1 5) → (14 ≤ M 1 1239 → mj_Cm 93 1 [.ref 0, .int 0, .int 0, .int 0] M (mj_k 1 101 3 91 [some (.ref 0), some (.int x1), some (.int x2), some (.int x3), some (.int x4), some (.int x5), some (.int 0), some (.int 0), none] [] 0 (some .boolean) K)) ∧ (¬ 14 ≤ M 1 1239 → mj_Cm 93 1 [.ref 0, .int 0, .int 0, .int 1] M (mj_k 1 101 3 91 [some (.ref 0), some (.int x1), some (.int x2), some (.int x3), some (.int x4), some (.int x5), some (.int 0), some (.int 0), none] [] 0 (some .boolean) K))) ∧ ((p92 M x4 1 5) → (¬ (p92 M x5 0 9) → (14 ≤ M 1 1239 → mj_Cm 93 1 [.ref 0, .int 0, .int 0, .int 0] M (mj_k 1 101 3 91 [some (.ref 0), some (.int x1), some (.int x2), some (.int x3), some (.int x4), some (.int x5), some (.int 0), some (.int 0), none] [] 0 (some .boolean) K)) ∧ (¬ 14 ≤ M 1 1239 → mj_Cm 93 1 [.ref 0, .int 0, .int 0, .int 1] M (mj_k 1 101 3 91 [some (.ref 0), some (.int x1), some (.int x2), some (.int x3), some (.int x4), some (.int x5), some (.int 0), some (.int 0), none] [] 0 (some .boolean) K))) ∧ ((p92 M x5 0 9) → (14 ≤ M 1 1239 → mj_Cm 93 1 [.ref 0, .int 0, .int 1, .int 0] M (mj_k 1 101 3 91 [some (.ref 0), some (.int x1), some (.int x2), some (.int x3), some (.int x4), some (.int x5), some (.int 0), some (.int 1), none] [] 0 (some .boolean) K)) ∧ (¬ 14 ≤ M 1 1239 → mj_Cm 93 1 [.ref 0, .int 0, .int 1, .int 1] M (mj_k 1 101 3 91 [some (.ref 0), some (.int x1), some (.int x2), some (.int x3), some (.int x4), some (.int x5), some (.int 0), some (.int 1), none] [] 0 (some .boolean) K))))))) ∧ ((p94 M x2) → (¬ (p94 M x3) → (x2 = x3 → (14 ≤ M 1 1239 → mj_Cm 93 1 [.ref 0, .int 0, .int 0, .int 0] M (mj_k 1 101 3 91 [some (.ref 0), some (.int x1), some (.int x2), some (.int x3), some (.int x4), some (.int x5), some (.int 0), some (.int 0), none] [] 0 (some .boolean) K)) ∧ (¬ 14 ≤ M 1 1239 → mj_Cm 93 1 [.ref 0, .int 0, .int 0, .int 1] M (mj_k 1 101 3 91 [some (.ref 0), some (.int x1), some (.int x2), some (.int x3), some (.int x4), some (.int x5), some (.int 0), some (.int 0), none] [] 0 (some .boolean) K))) ∧ (¬ x2 = x3 → (¬ (p92 M x1 0 4) → (14 ≤ M 1 1239 → mj_Cm 93 1 [.ref 0, .int 0, .int 0, .int 0] M (mj_k 1 101 3 91 [some (.ref 0), some (.int x1), some (.int x2), some (.int x3), some (.int x4), some (.int x5), some (.int 0), some (.int 0), none] [] 0 (some .boolean) K)) ∧ (¬ 14 ≤ M 1 1239 → mj_Cm 93 1 [.ref 0, .int 0, .int 0, .int 1] M (mj_k 1 101 3 91 [some (.ref 0), some (.int x1), some (.int x2), some (.int x3), some (.int x4), some (.int x5), some (.int 0), some (.int 0), none] [] 0 (some .boolean) K))) ∧ ((p92 M x1 0 4) → (¬ (p92 M x4 1 5) → (14 ≤ M 1 1239 → mj_Cm 93 1 [.ref 0, .int 0, .int 0, .int 0] M (mj_k 1 101 3 91 [some (.ref 0), some (.int x1), some (.int x2), some (.int x3), some (.int x4), some (.int x5), some (.int 0), some (.int 0), none] [] 0 (some .boolean) K)) ∧ (¬ 14 ≤ M 1 1239 → mj_Cm 93 1 [.ref 0, .int 0, .int 0, .int 1] M (mj_k 1 101 3 91 [some (.ref 0), some (.int x1), some (.int x2), some (.int x3), some (.int x4), some (.int x5), some (.int 0), some (.int 0), none] [] 0 (some .boolean) K))) ∧ ((p92 M x4 1 5) → (¬ (p92 M x5 0 9) → (14 ≤ M 1 1239 → mj_Cm 93 1 [.ref 0, .int 0, .int 0, .int 0] M (mj_k 1 101 3 91 [some (.ref 0), some (.int x1), some (.int x2), some (.int x3), some (.int x4), some (.int x5), some (.int 0), some (.int 0), none] [] 0 (some .boolean) K)) ∧ (¬ 14 ≤ M 1 1239 → mj_Cm 93 1 [.ref 0, .int 0, .int 0, .int 1] M (mj_k 1 101 3 91 [some (.ref 0), some (.int x1), some (.int x2), some (.int x3), some (.int x4), some (.int x5), some (.int 0), some (.int 0), none] [] 0 (some .boolean) K))) ∧ ((p92 M x5 0 9) → (14 ≤ M 1 1239 → mj_Cm 93 1 [.ref 0, .int 0, .int 1, .int 0] M (mj_k 1 101 3 91 [some (.ref 0), some (.int x1), some (.int x2), some (.int x3), some (.int x4), some (.int x5), some (.int 0), some (.int 1), none] [] 0 (some .boolean) K)) ∧ (¬ 14 ≤ M 1 1239 → mj_Cm 93 1 [.ref 0, .int 0, .int 1, .int 1] M (mj_k 1 101 3 91 [some (.ref 0), some (.int x1), some (.int x2), some (.int x3), some (.int x4), some (.int x5), some (.int 0), some (.int 1), none] [] 0 (some .boolean) K))))))) ∧ ((p94 M x3) → (x2 = x3 → (14 ≤ M 1 1239 → mj_Cm 93 1 [.ref 0, .int 1, .int 0, .int 0] M (mj_k 1 101 3 91 [some (.ref 0), some (.int x1), some (.int x2), some (.int x3), some (.int x4), some (.int x5), some (.int 1), some (.int 0), none] [] 0 (some .boolean) K)) ∧ (¬ 14 ≤ M 1 1239 → mj_Cm 93 1 [.ref 0, .int 1, .int 0, .int 1] M (mj_k 1 101 3 91 [some (.ref 0), some (.int x1), some (.int x2), some (.int x3), some (.int x4), some (.int x5), some (.int 1), some (.int 0), none] [] 0 (some .boolean) K))) ∧ (¬ x2 = x3 → (¬ (p92 M x1 0 4) → (14 ≤ M 1 1239 → mj_Cm 93 1 [.ref 0, .int 1, .int 0, .int 0] M (mj_k 1 101 3 91 [some (.ref 0), some (.int x1), some (.int x2), some (.int x3), some (.int x4), some (.int x5), some (.int 1), some (.int 0), none] [] 0 (some .boolean) K)) ∧ (¬ 14 ≤ M 1 1239 → mj_Cm 93 1 [.ref 0, .int 1, .int 0, .int 1] M (mj_k 1 101 3 91 [some (.ref 0), some (.int x1), some (.int x2), some (.int x3), some (.int x4), some (.int x5), some (.int 1), some (.int 0), none] [] 0 (some .boolean) K))) ∧ ((p92 M x1 0 4) → (¬ (p92 M x4 1 5) → (14 ≤ M 1 1239 → mj_Cm 93 1 [.ref 0, .int 1, .int 0, .int 0] M (mj_k 1 101 3 91 [some (.ref 0), some (.int x1), some (.int x2), some (.int x3), some (.int x4), some (.int x5), some (.int 1), some (.int 0), none] [] 0 (some .boolean) K)) ∧ (¬ 14 ≤ M 1 1239 → mj_Cm 93 1 [.ref 0, .int 1, .int 0, .int 1] M (mj_k 1 101 3 91 [some (.ref 0), some (.int x1), some (.int x2), some (.int x3), some (.int x4), some (.int x5), some (.int 1), some (.int 0), none] [] 0 (some .boolean) K))) ∧ ((p92 M x4 1 5) → (¬ (p92 M x5 0 9) → (14 ≤ M 1 1239 → mj_Cm 93 1 [.ref 0, .int 1, .int 0, .int 0] M (mj_k 1 101 3 91 [some (.ref 0), some (.int x1), some (.int x2), some (.int x3), some (.int x4), some (.int x5), some (.int 1), some (.int 0), none] [] 0 (some .boolean) K)) ∧ (¬ 14 ≤ M 1 1239 → mj_Cm 93 1 [.ref 0, .int 1, .int 0, .int 1] M (mj_k 1 101 3 91 [some (.ref 0), some (.int x1), some (.int x2), some (.int x3), some (.int x4), some (.int x5), some (.int 1), some (.int 0), none] [] 0 (some .boolean) K))) ∧ ((p92 M x5 0 9) → (14 ≤ M 1 1239 → mj_Cm 93 1 [.ref 0, .int 1, .int 1, .int 0] M (mj_k 1 101 3 91 [some (.ref 0), some (.int x1), some (.int x2), some (.int x3), some (.int x4), some (.int x5), some (.int 1), some (.int 1), none] [] 0 (some .boolean) K)) ∧ (¬ 14 ≤ M 1 1239 → mj_Cm 93 1 [.ref 0, .int 1, .int 1, .int 1] M (mj_k 1 101 3 91 [some (.ref 0), some (.int x1), some (.int x2), some (.int x3), some (.int x4), some (.int x5), some (.int 1), some (.int 1), none] [] 0 (some .boolean) K))))))))) : mj_W 1 101 3 0 [some (.ref 0), some (.int x1), some (.int x2), some (.int x3), some (.int x4), some (.int x5), none, none, none] [] M 0 K := by
  refine b101_0 ?_
  refine sp94  ?_
  refine b101_5 ?_
  refine ⟨fun c1 => ?_, fun c1 => ?_⟩
  · have h1a := h.1 (mj_bi0.mp c1)
    refine b101_20 ?_
    refine b101_21 ?_
    refine ⟨fun c2 => ?_, fun c2 => ?_⟩
    · have h2a := h1a.1 c2
      refine b101_62 ?_
      refine b101_63 ?_
      refine ⟨fun c3 => ?_, fun c3 => ?_⟩
      · have h3a := h2a.1 c3
        refine b101_87 ?_
        refine b101_88 ?_
        exact h3a
      · have h3a := h2a.2 c3
        refine b101_83 ?_
        refine b101_88 ?_
        exact h3a
    · have h2a := h1a.2 c2
      refine b101_28 ?_
      refine sp92  ?_
      refine b101_34 ?_
      refine ⟨fun c4 => ?_, fun c4 => ?_⟩
      · have h4a := h2a.1 (mj_bi0.mp c4)
        refine b101_62 ?_
        refine b101_63 ?_
        refine ⟨fun c5 => ?_, fun c5 => ?_⟩
        · have h5a := h4a.1 c5
          refine b101_87 ?_
          refine b101_88 ?_
          exact h5a
        · have h5a := h4a.2 c5
          refine b101_83 ?_
          refine b101_88 ?_
          exact h5a
      · have h4a := h2a.2 (mj_bi1.mp c4)
        refine b101_37 ?_
        refine sp92  ?_
        refine b101_44 ?_
        refine ⟨fun c6 => ?_, fun c6 => ?_⟩
        · have h6a := h4a.1 (mj_bi0.mp c6)
          refine b101_62 ?_
          refine b101_63 ?_
          refine ⟨fun c7 => ?_, fun c7 => ?_⟩
          · have h7a := h6a.1 c7
            refine b101_87 ?_
            refine b101_88 ?_
            exact h7a
          · have h7a := h6a.2 c7
            refine b101_83 ?_
            refine b101_88 ?_
            exact h7a
        · have h6a := h4a.2 (mj_bi1.mp c6)
          refine b101_47 ?_
          refine sp92  ?_
          refine b101_55 ?_
          refine ⟨fun c8 => ?_, fun c8 => ?_⟩
          · have h8a := h6a.1 (mj_bi0.mp c8)
            refine b101_62 ?_
            refine b101_63 ?_
            refine ⟨fun c9 => ?_, fun c9 => ?_⟩
            · have h9a := h8a.1 c9
              refine b101_87 ?_
              refine b101_88 ?_
              exact h9a
            · have h9a := h8a.2 c9
              refine b101_83 ?_
              refine b101_88 ?_
              exact h9a
          · have h8a := h6a.2 (mj_bi1.mp c8)
            refine b101_58 ?_
            refine b101_63 ?_
            refine ⟨fun c10 => ?_, fun c10 => ?_⟩
            · have h10a := h8a.1 c10
              refine b101_87 ?_
              refine b101_88 ?_
              exact h10a
            · have h10a := h8a.2 c10
              refine b101_83 ?_
              refine b101_88 ?_
              exact h10a
  · have h1a := h.2 (mj_bi1.mp c1)
    refine b101_8 ?_
    refine sp94  ?_
    refine b101_13 ?_
    refine ⟨fun c11 => ?_, fun c11 => ?_⟩
    · have h11a := h1a.1 (mj_bi0.mp c11)
      refine b101_20 ?_
      refine b101_21 ?_
      refine ⟨fun c12 => ?_, fun c12 => ?_⟩
      · have h12a := h11a.1 c12
        refine b101_62 ?_
        refine b101_63 ?_
        refine ⟨fun c13 => ?_, fun c13 => ?_⟩
        · have h13a := h12a.1 c13
          refine b101_87 ?_
          refine b101_88 ?_
          exact h13a
        · have h13a := h12a.2 c13
          refine b101_83 ?_
          refine b101_88 ?_
          exact h13a
      · have h12a := h11a.2 c12
        refine b101_28 ?_
        refine sp92  ?_
        refine b101_34 ?_
        refine ⟨fun c14 => ?_, fun c14 => ?_⟩
        · have h14a := h12a.1 (mj_bi0.mp c14)
          refine b101_62 ?_
          refine b101_63 ?_
          refine ⟨fun c15 => ?_, fun c15 => ?_⟩
          · have h15a := h14a.1 c15
            refine b101_87 ?_
            refine b101_88 ?_
            exact h15a
          · have h15a := h14a.2 c15
            refine b101_83 ?_
            refine b101_88 ?_
            exact h15a
        · have h14a := h12a.2 (mj_bi1.mp c14)
          refine b101_37 ?_
          refine sp92  ?_
          refine b101_44 ?_
          refine ⟨fun c16 => ?_, fun c16 => ?_⟩
          · have h16a := h14a.1 (mj_bi0.mp c16)
            refine b101_62 ?_
            refine b101_63 ?_
            refine ⟨fun c17 => ?_, fun c17 => ?_⟩
            · have h17a := h16a.1 c17
              refine b101_87 ?_
              refine b101_88 ?_
              exact h17a
            · have h17a := h16a.2 c17
              refine b101_83 ?_
              refine b101_88 ?_
              exact h17a
          · have h16a := h14a.2 (mj_bi1.mp c16)
            refine b101_47 ?_
            refine sp92  ?_
            refine b101_55 ?_
            refine ⟨fun c18 => ?_, fun c18 => ?_⟩
            · have h18a := h16a.1 (mj_bi0.mp c18)
              refine b101_62 ?_
              refine b101_63 ?_
              refine ⟨fun c19 => ?_, fun c19 => ?_⟩
              · have h19a := h18a.1 c19
                refine b101_87 ?_
                refine b101_88 ?_
                exact h19a
              · have h19a := h18a.2 c19
                refine b101_83 ?_
                refine b101_88 ?_
                exact h19a
            · have h18a := h16a.2 (mj_bi1.mp c18)
              refine b101_58 ?_
              refine b101_63 ?_
              refine ⟨fun c20 => ?_, fun c20 => ?_⟩
              · have h20a := h18a.1 c20
                refine b101_87 ?_
                refine b101_88 ?_
                exact h20a
              · have h20a := h18a.2 c20
                refine b101_83 ?_
                refine b101_88 ?_
                exact h20a
    · have h11a := h1a.2 (mj_bi1.mp c11)
      refine b101_16 ?_
      refine b101_21 ?_
      refine ⟨fun c21 => ?_, fun c21 => ?_⟩
      · have h21a := h11a.1 c21
        refine b101_62 ?_
        refine b101_63 ?_
        refine ⟨fun c22 => ?_, fun c22 => ?_⟩
        · have h22a := h21a.1 c22
          refine b101_87 ?_
          refine b101_88 ?_
          exact h22a
        · have h22a := h21a.2 c22
          refine b101_83 ?_
          refine b101_88 ?_
          exact h22a
      · have h21a := h11a.2 c21
        refine b101_28 ?_
        refine sp92  ?_
        refine b101_34 ?_
        refine ⟨fun c23 => ?_, fun c23 => ?_⟩
        · have h23a := h21a.1 (mj_bi0.mp c23)
          refine b101_62 ?_
          refine b101_63 ?_
          refine ⟨fun c24 => ?_, fun c24 => ?_⟩
          · have h24a := h23a.1 c24
            refine b101_87 ?_
            refine b101_88 ?_
            exact h24a
          · have h24a := h23a.2 c24
            refine b101_83 ?_
            refine b101_88 ?_
            exact h24a
        · have h23a := h21a.2 (mj_bi1.mp c23)
          refine b101_37 ?_
          refine sp92  ?_
          refine b101_44 ?_
          refine ⟨fun c25 => ?_, fun c25 => ?_⟩
          · have h25a := h23a.1 (mj_bi0.mp c25)
            refine b101_62 ?_
            refine b101_63 ?_
            refine ⟨fun c26 => ?_, fun c26 => ?_⟩
            · have h26a := h25a.1 c26
              refine b101_87 ?_
              refine b101_88 ?_
              exact h26a
            · have h26a := h25a.2 c26
              refine b101_83 ?_
              refine b101_88 ?_
              exact h26a
          · have h25a := h23a.2 (mj_bi1.mp c25)
            refine b101_47 ?_
            refine sp92  ?_
            refine b101_55 ?_
            refine ⟨fun c27 => ?_, fun c27 => ?_⟩
            · have h27a := h25a.1 (mj_bi0.mp c27)
              refine b101_62 ?_
              refine b101_63 ?_
              refine ⟨fun c28 => ?_, fun c28 => ?_⟩
              · have h28a := h27a.1 c28
                refine b101_87 ?_
                refine b101_88 ?_
                exact h28a
              · have h28a := h27a.2 c28
                refine b101_83 ?_
                refine b101_88 ?_
                exact h28a
            · have h27a := h25a.2 (mj_bi1.mp c27)
              refine b101_58 ?_
              refine b101_63 ?_
              refine ⟨fun c29 => ?_, fun c29 => ?_⟩
              · have h29a := h27a.1 c29
                refine b101_87 ?_
                refine b101_88 ?_
                exact h29a
              · have h29a := h27a.2 c29
                refine b101_83 ?_
                refine b101_88 ?_
                exact h29a
theorem e101 {M : mj_M} {K : mj_K} {x1 : Int32} {x2 : Int32} {x3 : Int32} {x4 : Int32} {x5 : Int32} (h : (¬ (p94 M x2) → (x2 = x3 → (14 ≤ M 1 1239 → mj_Cm 93 1 [.ref 0, .int 0, .int 0, .int 0] M (mj_k 1 101 3 91 [some (.ref 0), some (.int x1), some (.int x2), some (.int x3), some (.int x4), some (.int x5), some (.int 0), some (.int 0), none] [] 0 (some .boolean) K)) ∧ (¬ 14 ≤ M 1 1239 → mj_Cm 93 1 [.ref 0, .int 0, .int 0, .int 1] M (mj_k 1 101 3 91 [some (.ref 0), some (.int x1), some (.int x2), some (.int x3), some (.int x4), some (.int x5), some (.int 0), some (.int 0), none] [] 0 (some .boolean) K))) ∧ (¬ x2 = x3 → (¬ (p92 M x1 0 4) → (14 ≤ M 1 1239 → mj_Cm 93 1 [.ref 0, .int 0, .int 0, .int 0] M (mj_k 1 101 3 91 [some (.ref 0), some (.int x1), some (.int x2), some (.int x3), some (.int x4), some (.int x5), some (.int 0), some (.int 0), none] [] 0 (some .boolean) K)) ∧ (¬ 14 ≤ M 1 1239 → mj_Cm 93 1 [.ref 0, .int 0, .int 0, .int 1] M (mj_k 1 101 3 91 [some (.ref 0), some (.int x1), some (.int x2), some (.int x3), some (.int x4), some (.int x5), some (.int 0), some (.int 0), none] [] 0 (some .boolean) K))) ∧ ((p92 M x1 0 4) → (¬ (p92 M x4 1 5) → (14 ≤ M 1 1239 → mj_Cm 93 1 [.ref 0, .int 0, .int 0, .int 0] M (mj_k 1 101 3 91 [some (.ref 0), some (.int x1), some (.int x2), some (.int x3), some (.int x4), some (.int x5), some (.int 0), some (.int 0), none] [] 0 (some .boolean) K)) ∧ (¬ 14 ≤ M 1 1239 → mj_Cm 93 1 [.ref 0, .int 0, .int 0, .int 1] M (mj_k 1 101 3 91 [some (.ref 0), some (.int x1), some (.int x2), some (.int x3), some (.int x4), some (.int x5), some (.int 0), some (.int 0), none] [] 0 (some .boolean) K))) ∧ ((p92 M x4 1 5) → (¬ (p92 M x5 0 9) → (14 ≤ M 1 1239 → mj_Cm 93 1 [.ref 0, .int 0, .int 0, .int 0] M (mj_k 1 101 3 91 [some (.ref 0), some (.int x1), some (.int x2), some (.int x3), some (.int x4), some (.int x5), some (.int 0), some (.int 0), none] [] 0 (some .boolean) K)) ∧ (¬ 14 ≤ M 1 1239 → mj_Cm 93 1 [.ref 0, .int 0, .int 0, .int 1] M (mj_k 1 101 3 91 [some (.ref 0), some (.int x1), some (.int x2), some (.int x3), some (.int x4), some (.int x5), some (.int 0), some (.int 0), none] [] 0 (some .boolean) K))) ∧ ((p92 M x5 0 9) → (14 ≤ M 1 1239 → mj_Cm 93 1 [.ref 0, .int 0, .int 1, .int 0] M (mj_k 1 101 3 91 [some (.ref 0), some (.int x1), some (.int x2), some (.int x3), some (.int x4), some (.int x5), some (.int 0), some (.int 1), none] [] 0 (some .boolean) K)) ∧ (¬ 14 ≤ M 1 1239 → mj_Cm 93 1 [.ref 0, .int 0, .int 1, .int 1] M (mj_k 1 101 3 91 [some (.ref 0), some (.int x1), some (.int x2), some (.int x3), some (.int x4), some (.int x5), some (.int 0), some (.int 1), none] [] 0 (some .boolean) K))))))) ∧ ((p94 M x2) → (¬ (p94 M x3) → (x2 = x3 → (14 ≤ M 1 1239 → mj_Cm 93 1 [.ref 0, .int 0, .int 0, .int 0] M (mj_k 1 101 3 91 [some (.ref 0), some (.int x1), some (.int x2), some (.int x3), some (.int x4), some (.int x5), some (.int 0), some (.int 0), none] [] 0 (some .boolean) K)) ∧ (¬ 14 ≤ M 1 1239 → mj_Cm 93 1 [.ref 0, .int 0, .int 0, .int 1] M (mj_k 1 101 3 91 [some (.ref 0), some (.int x1), some (.int x2), some (.int x3), some (.int x4), some (.int x5), some (.int 0), some (.int 0), none] [] 0 (some .boolean) K))) ∧ (¬ x2 = x3 → (¬ (p92 M x1 0 4) → (14 ≤ M 1 1239 → mj_Cm 93 1 [.ref 0, .int 0, .int 0, .int 0] M (mj_k 1 101 3 91 [some (.ref 0), some (.int x1), some (.int x2), some (.int x3), some (.int x4), some (.int x5), some (.int 0), some (.int 0), none] [] 0 (some .boolean) K)) ∧ (¬ 14 ≤ M 1 1239 → mj_Cm 93 1 [.ref 0, .int 0, .int 0, .int 1] M (mj_k 1 101 3 91 [some (.ref 0), some (.int x1), some (.int x2), some (.int x3), some (.int x4), some (.int x5), some (.int 0), some (.int 0), none] [] 0 (some .boolean) K))) ∧ ((p92 M x1 0 4) → (¬ (p92 M x4 1 5) → (14 ≤ M 1 1239 → mj_Cm 93 1 [.ref 0, .int 0, .int 0, .int 0] M (mj_k 1 101 3 91 [some (.ref 0), some (.int x1), some (.int x2), some (.int x3), some (.int x4), some (.int x5), some (.int 0), some (.int 0), none] [] 0 (some .boolean) K)) ∧ (¬ 14 ≤ M 1 1239 → mj_Cm 93 1 [.ref 0, .int 0, .int 0, .int 1] M (mj_k 1 101 3 91 [some (.ref 0), some (.int x1), some (.int x2), some (.int x3), some (.int x4), some (.int x5), some (.int 0), some (.int 0), none] [] 0 (some .boolean) K))) ∧ ((p92 M x4 1 5) → (¬ (p92 M x5 0 9) → (14 ≤ M 1 1239 → mj_Cm 93 1 [.ref 0, .int 0, .int 0, .int 0] M (mj_k 1 101 3 91 [some (.ref 0), some (.int x1), some (.int x2), some (.int x3), some (.int x4), some (.int x5), some (.int 0), some (.int 0), none] [] 0 (some .boolean) K)) ∧ (¬ 14 ≤ M 1 1239 → mj_Cm 93 1 [.ref 0, .int 0, .int 0, .int 1] M (mj_k 1 101 3 91 [some (.ref 0), some (.int x1), some (.int x2), some (.int x3), some (.int x4), some (.int x5), some (.int 0), some (.int 0), none] [] 0 (some .boolean) K))) ∧ ((p92 M x5 0 9) → (14 ≤ M 1 1239 → mj_Cm 93 1 [.ref 0, .int 0, .int 1, .int 0] M (mj_k 1 101 3 91 [some (.ref 0), some (.int x1), some (.int x2), some (.int x3), some (.int x4), some (.int x5), some (.int 0), some (.int 1), none] [] 0 (some .boolean) K)) ∧ (¬ 14 ≤ M 1 1239 → mj_Cm 93 1 [.ref 0, .int 0, .int 1, .int 1] M (mj_k 1 101 3 91 [some (.ref 0), some (.int x1), some (.int x2), some (.int x3), some (.int x4), some (.int x5), some (.int 0), some (.int 1), none] [] 0 (some .boolean) K))))))) ∧ ((p94 M x3) → (x2 = x3 → (14 ≤ M 1 1239 → mj_Cm 93 1 [.ref 0, .int 1, .int 0, .int 0] M (mj_k 1 101 3 91 [some (.ref 0), some (.int x1), some (.int x2), some (.int x3), some (.int x4), some (.int x5), some (.int 1), some (.int 0), none] [] 0 (some .boolean) K)) ∧ (¬ 14 ≤ M 1 1239 → mj_Cm 93 1 [.ref 0, .int 1, .int 0, .int 1] M (mj_k 1 101 3 91 [some (.ref 0), some (.int x1), some (.int x2), some (.int x3), some (.int x4), some (.int x5), some (.int 1), some (.int 0), none] [] 0 (some .boolean) K))) ∧ (¬ x2 = x3 → (¬ (p92 M x1 0 4) → (14 ≤ M 1 1239 → mj_Cm 93 1 [.ref 0, .int 1, .int 0, .int 0] M (mj_k 1 101 3 91 [some (.ref 0), some (.int x1), some (.int x2), some (.int x3), some (.int x4), some (.int x5), some (.int 1), some (.int 0), none] [] 0 (some .boolean) K)) ∧ (¬ 14 ≤ M 1 1239 → mj_Cm 93 1 [.ref 0, .int 1, .int 0, .int 1] M (mj_k 1 101 3 91 [some (.ref 0), some (.int x1), some (.int x2), some (.int x3), some (.int x4), some (.int x5), some (.int 1), some (.int 0), none] [] 0 (some .boolean) K))) ∧ ((p92 M x1 0 4) → (¬ (p92 M x4 1 5) → (14 ≤ M 1 1239 → mj_Cm 93 1 [.ref 0, .int 1, .int 0, .int 0] M (mj_k 1 101 3 91 [some (.ref 0), some (.int x1), some (.int x2), some (.int x3), some (.int x4), some (.int x5), some (.int 1), some (.int 0), none] [] 0 (some .boolean) K)) ∧ (¬ 14 ≤ M 1 1239 → mj_Cm 93 1 [.ref 0, .int 1, .int 0, .int 1] M (mj_k 1 101 3 91 [some (.ref 0), some (.int x1), some (.int x2), some (.int x3), some (.int x4), some (.int x5), some (.int 1), some (.int 0), none] [] 0 (some .boolean) K))) ∧ ((p92 M x4 1 5) → (¬ (p92 M x5 0 9) → (14 ≤ M 1 1239 → mj_Cm 93 1 [.ref 0, .int 1, .int 0, .int 0] M (mj_k 1 101 3 91 [some (.ref 0), some (.int x1), some (.int x2), some (.int x3), some (.int x4), some (.int x5), some (.int 1), some (.int 0), none] [] 0 (some .boolean) K)) ∧ (¬ 14 ≤ M 1 1239 → mj_Cm 93 1 [.ref 0, .int 1, .int 0, .int 1] M (mj_k 1 101 3 91 [some (.ref 0), some (.int x1), some (.int x2), some (.int x3), some (.int x4), some (.int x5), some (.int 1), some (.int 0), none] [] 0 (some .boolean) K))) ∧ ((p92 M x5 0 9) → (14 ≤ M 1 1239 → mj_Cm 93 1 [.ref 0, .int 1, .int 1, .int 0] M (mj_k 1 101 3 91 [some (.ref 0), some (.int x1), some (.int x2), some (.int x3), some (.int x4), some (.int x5), some (.int 1), some (.int 1), none] [] 0 (some .boolean) K)) ∧ (¬ 14 ≤ M 1 1239 → mj_Cm 93 1 [.ref 0, .int 1, .int 1, .int 1] M (mj_k 1 101 3 91 [some (.ref 0), some (.int x1), some (.int x2), some (.int x3), some (.int x4), some (.int x5), some (.int 1), some (.int 1), none] [] 0 (some .boolean) K))))))))) : mj_Cm 101 3 [.ref 0, .int x1, .int x2, .int x3, .int x4, .int x5] M K := mj_en rfl rfl rfl (t101_0 h)

theorem t101_91 {M : mj_M} {K : mj_K} {x1 : Int32} {x2 : Int32} {x3 : Int32} {x4 : Int32} {x5 : Int32} {x6 : Int32} {x7 : Int32} {o8 : Option Value} {s0 : Int32} (h : (¬ s0 = 0 → vp_in (11 * M 1 1239 + 960) 1242 ∧ vp_in (11 * M 1 1239 + 961) 1242 ∧ vp_in (11 * M 1 1239 + 962) 1242 ∧ vp_in (11 * M 1 1239 + 963) 1242 ∧ vp_in (11 * M 1 1239 + 964) 1242 ∧ K 0 ((mj_u (mj_u (mj_u (mj_u (mj_u (mj_u M 1 ((11 * M 1 1239 + 960).toNatClampNeg) x2) 1 ((11 * M 1 1239 + 961).toNatClampNeg) x3) 1 ((11 * M 1 1239 + 962).toNatClampNeg) x1) 1 ((11 * M 1 1239 + 963).toNatClampNeg) x4) 1 ((11 * M 1 1239 + 964).toNatClampNeg) x5) 1 1239 ((mj_u (mj_u (mj_u (mj_u (mj_u M 1 ((11 * M 1 1239 + 960).toNatClampNeg) x2) 1 ((11 * M 1 1239 + 961).toNatClampNeg) x3) 1 ((11 * M 1 1239 + 962).toNatClampNeg) x1) 1 ((11 * M 1 1239 + 963).toNatClampNeg) x4) 1 ((11 * M 1 1239 + 964).toNatClampNeg) x5) 1 1239 + 1)) 1 1239 - 1) (mj_u (mj_u (mj_u (mj_u (mj_u (mj_u M 1 ((11 * M 1 1239 + 960).toNatClampNeg) x2) 1 ((11 * M 1 1239 + 961).toNatClampNeg) x3) 1 ((11 * M 1 1239 + 962).toNatClampNeg) x1) 1 ((11 * M 1 1239 + 963).toNatClampNeg) x4) 1 ((11 * M 1 1239 + 964).toNatClampNeg) x5) 1 1239 ((mj_u (mj_u (mj_u (mj_u (mj_u M 1 ((11 * M 1 1239 + 960).toNatClampNeg) x2) 1 ((11 * M 1 1239 + 961).toNatClampNeg) x3) 1 ((11 * M 1 1239 + 962).toNatClampNeg) x1) 1 ((11 * M 1 1239 + 963).toNatClampNeg) x4) 1 ((11 * M 1 1239 + 964).toNatClampNeg) x5) 1 1239 + 1))) ∧ (s0 = 0 → K 0 0 M)) : mj_W 1 101 3 91 [some (.ref 0), some (.int x1), some (.int x2), some (.int x3), some (.int x4), some (.int x5), some (.int x6), some (.int x7), o8] [.int s0] M 0 K := by
  refine b101_91 ?_
  refine ⟨fun c1 => ?_, fun c1 => ?_⟩
  · have h1a := h.1 c1
    refine b101_96 ?_
    have g2 := h1a.1
    refine ⟨g2, ?_⟩
    have h2 := h1a.2
    have g3 := h2.1
    refine ⟨g3, ?_⟩
    have h3 := h2.2
    have g4 := h3.1
    refine ⟨g4, ?_⟩
    have h4 := h3.2
    have g5 := h4.1
    refine ⟨g5, ?_⟩
    have h5 := h4.2
    have g6 := h5.1
    refine ⟨g6, ?_⟩
    have h6 := h5.2
    exact h6
  · have h1a := h.2 c1
    refine b101_94 ?_
    exact h1a

theorem t102_0 {M : mj_M} {K : mj_K} {x1 : Int32} {x2 : Int32} (h : mj_Cm 93 1 [.ref 0, .int (mj_bi (p95 M x1)), .int 1, .int 1] M (mj_k 1 102 3 11 [some (.ref 0), some (.int x1), some (.int x2), none] [] 0 (some .boolean) K)) : mj_W 1 102 3 0 [some (.ref 0), some (.int x1), some (.int x2), none] [] M 0 K := by
  refine b102_0 ?_
  refine sp95  ?_
  refine b102_6 ?_
  exact h
theorem e102 {M : mj_M} {K : mj_K} {x1 : Int32} {x2 : Int32} (h : mj_Cm 93 1 [.ref 0, .int (mj_bi (p95 M x1)), .int 1, .int 1] M (mj_k 1 102 3 11 [some (.ref 0), some (.int x1), some (.int x2), none] [] 0 (some .boolean) K)) : mj_Cm 102 3 [.ref 0, .int x1, .int x2] M K := mj_en rfl rfl rfl (t102_0 h)

theorem t102_11 {M : mj_M} {K : mj_K} {x1 : Int32} {x2 : Int32} {o3 : Option Value} {s0 : Int32} (h : (¬ s0 = 0 → vp_in (11 * x1 + 965) 1242 ∧ ((¬ M 1 ((11 * x1 + 965).toNatClampNeg) = 1 → (x2 = 0 → vp_in (11 * x1 + 965) 1242 ∧ K 0 0 (mj_u M 1 ((11 * x1 + 965).toNatClampNeg) 0)) ∧ (¬ x2 = 0 → vp_in (11 * x1 + 965) 1242 ∧ K 0 0 (mj_u M 1 ((11 * x1 + 965).toNatClampNeg) 1))) ∧ (M 1 ((11 * x1 + 965).toNatClampNeg) = 1 → (x2 = 0 → vp_in (11 * x1 + 965) 1242 ∧ K 0 1 (mj_u M 1 ((11 * x1 + 965).toNatClampNeg) 0)) ∧ (¬ x2 = 0 → vp_in (11 * x1 + 965) 1242 ∧ K 0 1 (mj_u M 1 ((11 * x1 + 965).toNatClampNeg) 1))))) ∧ (s0 = 0 → K 0 0 M)) : mj_W 1 102 3 11 [some (.ref 0), some (.int x1), some (.int x2), o3] [.int s0] M 0 K := by
  refine b102_11 ?_
  refine ⟨fun c1 => ?_, fun c1 => ?_⟩
  · have h1a := h.1 c1
    refine b102_16 ?_
    have h2 := h1a.1
    have h3 := h1a.2
    refine sp97 h2 ?_
    refine b102_24 ?_
    refine ⟨fun c4 => ?_, fun c4 => ?_⟩
    · have h4a := h3.1 c4
      refine b102_32 ?_
      refine b102_33 ?_
      refine ⟨fun c5 => ?_, fun c5 => ?_⟩
      · have h5a := h4a.1 c5
        refine b102_54 ?_
        refine b102_55 ?_
        have g6 := h5a.1
        refine ⟨g6, ?_⟩
        have h6 := h5a.2
        rw [mj_nb0]
        exact h6
      · have h5a := h4a.2 c5
        refine b102_50 ?_
        refine b102_55 ?_
        have g7 := h5a.1
        refine ⟨g7, ?_⟩
        have h7 := h5a.2
        rw [mj_nb0]
        exact h7
    · have h4a := h3.2 c4
      refine b102_28 ?_
      refine b102_33 ?_
      refine ⟨fun c8 => ?_, fun c8 => ?_⟩
      · have h8a := h4a.1 c8
        refine b102_54 ?_
        refine b102_55 ?_
        have g9 := h8a.1
        refine ⟨g9, ?_⟩
        have h9 := h8a.2
        rw [mj_nb1]
        exact h9
      · have h8a := h4a.2 c8
        refine b102_50 ?_
        refine b102_55 ?_
        have g10 := h8a.1
        refine ⟨g10, ?_⟩
        have h10 := h8a.2
        rw [mj_nb1]
        exact h10
  · have h1a := h.2 c1
    refine b102_14 ?_
    rw [mj_nb0]
    exact h1a

theorem t103_0 {M : mj_M} {K : mj_K}  (h : mj_W 1 103 2 9 [some (.ref 0), some (.int 0), some (.int 0)] [] (mj_u M 0 5 0) 0 K) : mj_W 1 103 2 0 [some (.ref 0), none, none] [] M 0 K := by
  refine b103_0 ?_
  exact h
theorem e103 {M : mj_M} {K : mj_K}  (h : mj_W 1 103 2 9 [some (.ref 0), some (.int 0), some (.int 0)] [] (mj_u M 0 5 0) 0 K) : mj_Cm 103 2 [.ref 0] M K := mj_en rfl rfl rfl (t103_0 h)

theorem t103_9 {M : mj_M} {K : mj_K} {x1 : Int32} {x2 : Int32} (h : (M 1 1239 ≤ x2 → K 0 x1 M) ∧ (¬ M 1 1239 ≤ x2 → vp_in (11 * x2 + 965) 1242 ∧ (vp_in (11 * x2 + 966) 1242 ∧ (vp_in (11 * x2 + 965) 1242 ∧ mj_W 1 103 2 9 [some (.ref 0), some (.int (x1 + (mj_u M 1 ((11 * x2 + 966).toNatClampNeg) (M 1 ((11 * x2 + 965).toNatClampNeg))) 1 ((11 * x2 + 965).toNatClampNeg))), some (.int (x2 + 1))] [] (mj_u M 1 ((11 * x2 + 966).toNatClampNeg) (M 1 ((11 * x2 + 965).toNatClampNeg))) 0 K)))) : mj_W 1 103 2 9 [some (.ref 0), some (.int x1), some (.int x2)] [] M 0 K := by
  refine b103_9 ?_
  refine ⟨fun c1 => ?_, fun c1 => ?_⟩
  · have h1a := h.1 c1
    refine b103_59 ?_
    exact h1a
  · have h1a := h.2 c1
    refine b103_21 ?_
    have h2 := h1a.1
    have h3 := h1a.2
    refine sp97 h2 ?_
    refine b103_41 ?_
    have g4 := h3.1
    refine ⟨g4, ?_⟩
    have h4 := h3.2
    have h5 := h4.1
    have h6 := h4.2
    refine sp97 h5 ?_
    refine b103_51 ?_
    exact h6

theorem t104_0 {M : mj_M} {K : mj_K} {x1 : Int32} (h : (¬ (p95 M x1) → K 0 0 M) ∧ ((p95 M x1) → vp_in (11 * x1 + 962) 1242 ∧ ((¬ M 1 ((11 * x1 + 962).toNatClampNeg) = 3 → K 0 0 M) ∧ (M 1 ((11 * x1 + 962).toNatClampNeg) = 3 → K 0 1 M)))) : mj_W 1 104 3 0 [some (.ref 0), some (.int x1)] [] M 0 K := by
  refine b104_0 ?_
  refine sp95  ?_
  refine b104_5 ?_
  refine ⟨fun c1 => ?_, fun c1 => ?_⟩
  · have h1a := h.1 (mj_bi0.mp c1)
    refine b104_24 ?_
    refine b104_25 ?_
    rw [mj_nb0]
    exact h1a
  · have h1a := h.2 (mj_bi1.mp c1)
    refine b104_8 ?_
    have h2 := h1a.1
    have h3 := h1a.2
    refine sp97 h2 ?_
    refine b104_16 ?_
    refine ⟨fun c4 => ?_, fun c4 => ?_⟩
    · have h4a := h3.1 c4
      refine b104_24 ?_
      refine b104_25 ?_
      rw [mj_nb0]
      exact h4a
    · have h4a := h3.2 c4
      refine b104_20 ?_
      refine b104_25 ?_
      rw [mj_nb1]
      exact h4a
theorem e104 {M : mj_M} {K : mj_K} {x1 : Int32} (h : (¬ (p95 M x1) → K 0 0 M) ∧ ((p95 M x1) → vp_in (11 * x1 + 962) 1242 ∧ ((¬ M 1 ((11 * x1 + 962).toNatClampNeg) = 3 → K 0 0 M) ∧ (M 1 ((11 * x1 + 962).toNatClampNeg) = 3 → K 0 1 M)))) : mj_Cm 104 3 [.ref 0, .int x1] M K := mj_en rfl rfl rfl (t104_0 h)

theorem t105_0 {M : mj_M} {K : mj_K} {x1 : Int32} (h : mj_Cm 104 3 [.ref 0, .int x1] M (mj_k 1 105 4 11 [some (.ref 0), some (.int x1)] [.int (mj_bi (p95 M x1)), .ref 0] 0 (some .boolean) K)) : mj_W 1 105 4 0 [some (.ref 0), some (.int x1)] [] M 0 K := by
  refine b105_0 ?_
  refine sp95  ?_
  refine b105_6 ?_
  exact h
theorem e105 {M : mj_M} {K : mj_K} {x1 : Int32} (h : mj_Cm 104 3 [.ref 0, .int x1] M (mj_k 1 105 4 11 [some (.ref 0), some (.int x1)] [.int (mj_bi (p95 M x1)), .ref 0] 0 (some .boolean) K)) : mj_Cm 105 4 [.ref 0, .int x1] M K := mj_en rfl rfl rfl (t105_0 h)

theorem t105_11 {M : mj_M} {K : mj_K} {x1 : Int32} {s1 : Int32} {s2 : Int32} (h : mj_Cm 93 1 [.ref 0, .int s1, .int s2, .int 1] M (mj_k 1 105 4 15 [some (.ref 0), some (.int x1)] [] 0 (some .boolean) K)) : mj_W 1 105 4 11 [some (.ref 0), some (.int x1)] [.int s2, .int s1, .ref 0] M 0 K := by
  refine b105_11 ?_
  exact h

theorem t105_15 {M : mj_M} {K : mj_K} {x1 : Int32} {s0 : Int32} (h : (¬ s0 = 0 → vp_in (11 * x1 + 967) 1242 ∧ (vp_in (11 * x1 + 967) 1242 ∧ (vp_in (11 * x1 + 967) 1242 ∧ ((¬ (mj_u M 1 ((11 * x1 + 967).toNatClampNeg) (1 - M 1 ((11 * x1 + 967).toNatClampNeg))) 1 ((11 * x1 + 967).toNatClampNeg) = 1 → K 0 0 (mj_u M 1 ((11 * x1 + 967).toNatClampNeg) (1 - M 1 ((11 * x1 + 967).toNatClampNeg)))) ∧ ((mj_u M 1 ((11 * x1 + 967).toNatClampNeg) (1 - M 1 ((11 * x1 + 967).toNatClampNeg))) 1 ((11 * x1 + 967).toNatClampNeg) = 1 → K 0 1 (mj_u M 1 ((11 * x1 + 967).toNatClampNeg) (1 - M 1 ((11 * x1 + 967).toNatClampNeg)))))))) ∧ (s0 = 0 → K 0 0 M)) : mj_W 1 105 4 15 [some (.ref 0), some (.int x1)] [.int s0] M 0 K := by
  refine b105_15 ?_
  refine ⟨fun c1 => ?_, fun c1 => ?_⟩
  · have h1a := h.1 c1
    refine b105_20 ?_
    have h2 := h1a.1
    have h3 := h1a.2
    refine sp97 h2 ?_
    refine b105_41 ?_
    have g4 := h3.1
    refine ⟨g4, ?_⟩
    have h4 := h3.2
    have h5 := h4.1
    have h6 := h4.2
    refine sp97 h5 ?_
    refine b105_51 ?_
    refine ⟨fun c7 => ?_, fun c7 => ?_⟩
    · have h7a := h6.1 c7
      refine b105_59 ?_
      refine b105_60 ?_
      rw [mj_nb0]
      exact h7a
    · have h7a := h6.2 c7
      refine b105_55 ?_
      refine b105_60 ?_
      rw [mj_nb1]
      exact h7a
  · have h1a := h.2 c1
    refine b105_18 ?_
    rw [mj_nb0]
    exact h1a

theorem t106_0 {M : mj_M} {K : mj_K} {x1 : Int32} {x2 : Int32} (h : mj_Cm 104 3 [.ref 0, .int x1] M (mj_k 1 106 4 11 [some (.ref 0), some (.int x1), some (.int x2), none] [.int (mj_bi (p95 M x1)), .ref 0] 0 (some .boolean) K)) : mj_W 1 106 4 0 [some (.ref 0), some (.int x1), some (.int x2), none] [] M 0 K := by
  refine b106_0 ?_
  refine sp95  ?_
  refine b106_6 ?_
  exact h
theorem e106 {M : mj_M} {K : mj_K} {x1 : Int32} {x2 : Int32} (h : mj_Cm 104 3 [.ref 0, .int x1] M (mj_k 1 106 4 11 [some (.ref 0), some (.int x1), some (.int x2), none] [.int (mj_bi (p95 M x1)), .ref 0] 0 (some .boolean) K)) : mj_Cm 106 4 [.ref 0, .int x1, .int x2] M K := mj_en rfl rfl rfl (t106_0 h)

theorem t106_11 {M : mj_M} {K : mj_K} {x1 : Int32} {x2 : Int32} {o3 : Option Value} {s1 : Int32} {s2 : Int32} (h : mj_Cm 93 1 [.ref 0, .int s1, .int s2, .int 1] M (mj_k 1 106 4 15 [some (.ref 0), some (.int x1), some (.int x2), o3] [] 0 (some .boolean) K)) : mj_W 1 106 4 11 [some (.ref 0), some (.int x1), some (.int x2), o3] [.int s2, .int s1, .ref 0] M 0 K := by
  refine b106_11 ?_
  exact h

theorem t106_15 {M : mj_M} {K : mj_K} {x1 : Int32} {x2 : Int32} {o3 : Option Value} {s0 : Int32} (h : (¬ s0 = 0 → vp_in (11 * x1 + 968) 1242 ∧ ((¬ M 1 ((11 * x1 + 968).toNatClampNeg) = 1 → (x2 = 0 → vp_in (11 * x1 + 968) 1242 ∧ K 0 0 (mj_u M 1 ((11 * x1 + 968).toNatClampNeg) 0)) ∧ (¬ x2 = 0 → vp_in (11 * x1 + 968) 1242 ∧ K 0 0 (mj_u M 1 ((11 * x1 + 968).toNatClampNeg) 1))) ∧ (M 1 ((11 * x1 + 968).toNatClampNeg) = 1 → (x2 = 0 → vp_in (11 * x1 + 968) 1242 ∧ K 0 1 (mj_u M 1 ((11 * x1 + 968).toNatClampNeg) 0)) ∧ (¬ x2 = 0 → vp_in (11 * x1 + 968) 1242 ∧ K 0 1 (mj_u M 1 ((11 * x1 + 968).toNatClampNeg) 1))))) ∧ (s0 = 0 → K 0 0 M)) : mj_W 1 106 4 15 [some (.ref 0), some (.int x1), some (.int x2), o3] [.int s0] M 0 K := by
  refine b106_15 ?_
  refine ⟨fun c1 => ?_, fun c1 => ?_⟩
  · have h1a := h.1 c1
    refine b106_20 ?_
    have h2 := h1a.1
    have h3 := h1a.2
    refine sp97 h2 ?_
    refine b106_28 ?_
    refine ⟨fun c4 => ?_, fun c4 => ?_⟩
    · have h4a := h3.1 c4
      refine b106_36 ?_
      refine b106_37 ?_
      refine ⟨fun c5 => ?_, fun c5 => ?_⟩
      · have h5a := h4a.1 c5
        refine b106_58 ?_
        refine b106_59 ?_
        have g6 := h5a.1
        refine ⟨g6, ?_⟩
        have h6 := h5a.2
        rw [mj_nb0]
        exact h6
      · have h5a := h4a.2 c5
        refine b106_54 ?_
        refine b106_59 ?_
        have g7 := h5a.1
        refine ⟨g7, ?_⟩
        have h7 := h5a.2
        rw [mj_nb0]
        exact h7
    · have h4a := h3.2 c4
      refine b106_32 ?_
      refine b106_37 ?_
      refine ⟨fun c8 => ?_, fun c8 => ?_⟩
      · have h8a := h4a.1 c8
        refine b106_58 ?_
        refine b106_59 ?_
        have g9 := h8a.1
        refine ⟨g9, ?_⟩
        have h9 := h8a.2
        rw [mj_nb1]
        exact h9
      · have h8a := h4a.2 c8
        refine b106_54 ?_
        refine b106_59 ?_
        have g10 := h8a.1
        refine ⟨g10, ?_⟩
        have h10 := h8a.2
        rw [mj_nb1]
        exact h10
  · have h1a := h.2 c1
    refine b106_18 ?_
    rw [mj_nb0]
    exact h1a

theorem t107_0 {M : mj_M} {K : mj_K} {x1 : Int32} {x2 : Int32} (h : mj_Cm 93 1 [.ref 0, .int (mj_bi (p95 M x1)), .int (mj_bi (p92 M x2 0 9)), .int 1] M (mj_k 1 107 3 17 [some (.ref 0), some (.int x1), some (.int x2), none] [] 0 (some .boolean) K)) : mj_W 1 107 3 0 [some (.ref 0), some (.int x1), some (.int x2), none] [] M 0 K := by
  refine b107_0 ?_
  refine sp95  ?_
  refine b107_6 ?_
  refine sp92  ?_
  refine b107_13 ?_
  exact h
theorem e107 {M : mj_M} {K : mj_K} {x1 : Int32} {x2 : Int32} (h : mj_Cm 93 1 [.ref 0, .int (mj_bi (p95 M x1)), .int (mj_bi (p92 M x2 0 9)), .int 1] M (mj_k 1 107 3 17 [some (.ref 0), some (.int x1), some (.int x2), none] [] 0 (some .boolean) K)) : mj_Cm 107 3 [.ref 0, .int x1, .int x2] M K := mj_en rfl rfl rfl (t107_0 h)

theorem t107_17 {M : mj_M} {K : mj_K} {x1 : Int32} {x2 : Int32} {o3 : Option Value} {s0 : Int32} (h : (¬ s0 = 0 → vp_in (11 * x1 + 964) 1242 ∧ (vp_in (11 * x1 + 964) 1242 ∧ K 0 (M 1 ((11 * x1 + 964).toNatClampNeg)) (mj_u M 1 ((11 * x1 + 964).toNatClampNeg) x2))) ∧ (s0 = 0 → K 0 0 M)) : mj_W 1 107 3 17 [some (.ref 0), some (.int x1), some (.int x2), o3] [.int s0] M 0 K := by
  refine b107_17 ?_
  refine ⟨fun c1 => ?_, fun c1 => ?_⟩
  · have h1a := h.1 c1
    refine b107_22 ?_
    have h2 := h1a.1
    have h3 := h1a.2
    refine sp97 h2 ?_
    refine b107_30 ?_
    have g4 := h3.1
    refine ⟨g4, ?_⟩
    have h4 := h3.2
    exact h4
  · have h1a := h.2 c1
    refine b107_20 ?_
    exact h1a

theorem t108_0 {M : mj_M} {K : mj_K} {x1 : Int32} (h : vp_in (11 * x1 + 968) 1242 ∧ ((¬ M 1 ((11 * x1 + 968).toNatClampNeg) = 1 → vp_in (11 * x1 + 964) 1242 ∧ K 0 (M 1 ((11 * x1 + 964).toNatClampNeg)) M) ∧ (M 1 ((11 * x1 + 968).toNatClampNeg) = 1 → vp_in (11 * x1 + 964) 1242 ∧ K 0 ((M 1 ((11 * x1 + 964).toNatClampNeg) + 1) / 2) M))) : mj_W 1 108 2 0 [some (.ref 0), some (.int x1)] [] M 0 K := by
  refine b108_0 ?_
  have h1 := h.1
  have h2 := h.2
  refine sp97 h1 ?_
  refine b108_8 ?_
  refine ⟨fun c3 => ?_, fun c3 => ?_⟩
  · have h3a := h2.1 c3
    refine b108_27 ?_
    have h4 := h3a.1
    have h5 := h3a.2
    refine sp97 h4 ?_
    refine b108_35 ?_
    exact h5
  · have h3a := h2.2 c3
    refine b108_12 ?_
    have h6 := h3a.1
    have h7 := h3a.2
    refine sp97 h6 ?_
    refine b108_20 ?_
    refine b108_35 ?_
    exact h7
theorem e108 {M : mj_M} {K : mj_K} {x1 : Int32} (h : vp_in (11 * x1 + 968) 1242 ∧ ((¬ M 1 ((11 * x1 + 968).toNatClampNeg) = 1 → vp_in (11 * x1 + 964) 1242 ∧ K 0 (M 1 ((11 * x1 + 964).toNatClampNeg)) M) ∧ (M 1 ((11 * x1 + 968).toNatClampNeg) = 1 → vp_in (11 * x1 + 964) 1242 ∧ K 0 ((M 1 ((11 * x1 + 964).toNatClampNeg) + 1) / 2) M))) : mj_Cm 108 2 [.ref 0, .int x1] M K := mj_en rfl rfl rfl (t108_0 h)

theorem t109_0 {M : mj_M} {K : mj_K} {x1 : Int32} {x2 : Int32} (h : vp_in (11 * x1 + 962) 1242 ∧ ((¬ M 1 ((11 * x1 + 962).toNatClampNeg) = 3 → (¬ M 1 ((11 * x1 + 962).toNatClampNeg) = 4 → K 0 1 M) ∧ (M 1 ((11 * x1 + 962).toNatClampNeg) = 4 → (x2 = 0 → K 0 1 M) ∧ (¬ x2 = 0 → (¬ M 1 1237 = 1 → K 0 0 M) ∧ (M 1 1237 = 1 → K 0 1 M)))) ∧ (M 1 ((11 * x1 + 962).toNatClampNeg) = 3 → vp_in (11 * x1 + 968) 1242 ∧ ((¬ M 1 ((11 * x1 + 968).toNatClampNeg) = 0 → (¬ M 1 ((11 * x1 + 962).toNatClampNeg) = 4 → K 0 1 M) ∧ (M 1 ((11 * x1 + 962).toNatClampNeg) = 4 → (x2 = 0 → K 0 1 M) ∧ (¬ x2 = 0 → (¬ M 1 1237 = 1 → K 0 0 M) ∧ (M 1 1237 = 1 → K 0 1 M)))) ∧ (M 1 ((11 * x1 + 968).toNatClampNeg) = 0 → vp_in (11 * x1 + 967) 1242 ∧ ((¬ M 1 ((11 * x1 + 967).toNatClampNeg) = 1 → (¬ 0 = x2 → K 0 0 M) ∧ (0 = x2 → K 0 1 M)) ∧ (M 1 ((11 * x1 + 967).toNatClampNeg) = 1 → (¬ 1 = x2 → K 0 0 M) ∧ (1 = x2 → K 0 1 M)))))))) : mj_W 1 109 2 0 [some (.ref 0), some (.int x1), some (.int x2), none] [] M 0 K := by
  refine b109_0 ?_
  have h1 := h.1
  have h2 := h.2
  refine sp97 h1 ?_
  refine b109_8 ?_
  refine ⟨fun c3 => ?_, fun c3 => ?_⟩
  · have h3a := h2.1 c3
    refine b109_52 ?_
    refine ⟨fun c4 => ?_, fun c4 => ?_⟩
    · have h4a := h3a.1 c4
      refine b109_73 ?_
      refine b109_78 ?_
      rw [mj_nb1]
      exact h4a
    · have h4a := h3a.2 c4
      refine b109_57 ?_
      refine ⟨fun c5 => ?_, fun c5 => ?_⟩
      · have h5a := h4a.1 c5
        refine b109_73 ?_
        refine b109_78 ?_
        rw [mj_nb1]
        exact h5a
      · have h5a := h4a.2 c5
        refine b109_61 ?_
        refine ⟨fun c6 => ?_, fun c6 => ?_⟩
        · have h6a := h5a.1 c6
          refine b109_77 ?_
          refine b109_78 ?_
          rw [mj_nb0]
          exact h6a
        · have h6a := h5a.2 c6
          refine b109_73 ?_
          refine b109_78 ?_
          rw [mj_nb1]
          exact h6a
  · have h3a := h2.2 c3
    refine b109_14 ?_
    have h7 := h3a.1
    have h8 := h3a.2
    refine sp97 h7 ?_
    refine b109_22 ?_
    refine ⟨fun c9 => ?_, fun c9 => ?_⟩
    · have h9a := h8.1 c9
      refine b109_52 ?_
      refine ⟨fun c10 => ?_, fun c10 => ?_⟩
      · have h10a := h9a.1 c10
        refine b109_73 ?_
        refine b109_78 ?_
        rw [mj_nb1]
        exact h10a
      · have h10a := h9a.2 c10
        refine b109_57 ?_
        refine ⟨fun c11 => ?_, fun c11 => ?_⟩
        · have h11a := h10a.1 c11
          refine b109_73 ?_
          refine b109_78 ?_
          rw [mj_nb1]
          exact h11a
        · have h11a := h10a.2 c11
          refine b109_61 ?_
          refine ⟨fun c12 => ?_, fun c12 => ?_⟩
          · have h12a := h11a.1 c12
            refine b109_77 ?_
            refine b109_78 ?_
            rw [mj_nb0]
            exact h12a
          · have h12a := h11a.2 c12
            refine b109_73 ?_
            refine b109_78 ?_
            rw [mj_nb1]
            exact h12a
    · have h9a := h8.2 c9
      refine b109_25 ?_
      have h13 := h9a.1
      have h14 := h9a.2
      refine sp97 h13 ?_
      refine b109_33 ?_
      refine ⟨fun c15 => ?_, fun c15 => ?_⟩
      · have h15a := h14.1 c15
        refine b109_41 ?_
        refine b109_42 ?_
        refine ⟨fun c16 => ?_, fun c16 => ?_⟩
        · have h16a := h15a.1 c16
          refine b109_50 ?_
          refine b109_51 ?_
          rw [mj_nb0]
          exact h16a
        · have h16a := h15a.2 c16
          refine b109_46 ?_
          refine b109_51 ?_
          rw [mj_nb1]
          exact h16a
      · have h15a := h14.2 c15
        refine b109_37 ?_
        refine b109_42 ?_
        refine ⟨fun c17 => ?_, fun c17 => ?_⟩
        · have h17a := h15a.1 c17
          refine b109_50 ?_
          refine b109_51 ?_
          rw [mj_nb0]
          exact h17a
        · have h17a := h15a.2 c17
          refine b109_46 ?_
          refine b109_51 ?_
          rw [mj_nb1]
          exact h17a
theorem e109 {M : mj_M} {K : mj_K} {x1 : Int32} {x2 : Int32} (h : vp_in (11 * x1 + 962) 1242 ∧ ((¬ M 1 ((11 * x1 + 962).toNatClampNeg) = 3 → (¬ M 1 ((11 * x1 + 962).toNatClampNeg) = 4 → K 0 1 M) ∧ (M 1 ((11 * x1 + 962).toNatClampNeg) = 4 → (x2 = 0 → K 0 1 M) ∧ (¬ x2 = 0 → (¬ M 1 1237 = 1 → K 0 0 M) ∧ (M 1 1237 = 1 → K 0 1 M)))) ∧ (M 1 ((11 * x1 + 962).toNatClampNeg) = 3 → vp_in (11 * x1 + 968) 1242 ∧ ((¬ M 1 ((11 * x1 + 968).toNatClampNeg) = 0 → (¬ M 1 ((11 * x1 + 962).toNatClampNeg) = 4 → K 0 1 M) ∧ (M 1 ((11 * x1 + 962).toNatClampNeg) = 4 → (x2 = 0 → K 0 1 M) ∧ (¬ x2 = 0 → (¬ M 1 1237 = 1 → K 0 0 M) ∧ (M 1 1237 = 1 → K 0 1 M)))) ∧ (M 1 ((11 * x1 + 968).toNatClampNeg) = 0 → vp_in (11 * x1 + 967) 1242 ∧ ((¬ M 1 ((11 * x1 + 967).toNatClampNeg) = 1 → (¬ 0 = x2 → K 0 0 M) ∧ (0 = x2 → K 0 1 M)) ∧ (M 1 ((11 * x1 + 967).toNatClampNeg) = 1 → (¬ 1 = x2 → K 0 0 M) ∧ (1 = x2 → K 0 1 M)))))))) : mj_Cm 109 2 [.ref 0, .int x1, .int x2] M K := mj_en rfl rfl rfl (t109_0 h)

theorem t110_0 {M : mj_M} {K : mj_K} {x1 : Int32} {x2 : Int32} (h : vp_in (11 * x1 + 962) 1242 ∧ (vp_in (8 * x2 + 5) 1242 ∧ ((¬ M 1 ((8 * x2 + 5).toNatClampNeg) = 1 → vp_in (11 * x1 + 966) 1242 ∧ ((¬ M 1 ((11 * x1 + 966).toNatClampNeg) = 1 → vp_in (8 * x2 + 3) 1242 ∧ ((M 1 ((8 * x2 + 3).toNatClampNeg) = 0 → K 0 1 M) ∧ (¬ M 1 ((8 * x2 + 3).toNatClampNeg) = 0 → (M 1 ((11 * x1 + 962).toNatClampNeg) = 0 → K 0 1 M) ∧ (¬ M 1 ((11 * x1 + 962).toNatClampNeg) = 0 → (M 1 ((11 * x1 + 962).toNatClampNeg) = 2 → K 0 1 M) ∧ (¬ M 1 ((11 * x1 + 962).toNatClampNeg) = 2 → (¬ M 1 ((11 * x1 + 962).toNatClampNeg) = 4 → K 0 0 M) ∧ (M 1 ((11 * x1 + 962).toNatClampNeg) = 4 → K 0 1 M)))))) ∧ (M 1 ((11 * x1 + 966).toNatClampNeg) = 1 → K 0 0 M))) ∧ (M 1 ((8 * x2 + 5).toNatClampNeg) = 1 → vp_in (11 * x1 + 965) 1242 ∧ ((¬ M 1 ((11 * x1 + 965).toNatClampNeg) = 1 → vp_in (8 * x2 + 3) 1242 ∧ ((M 1 ((8 * x2 + 3).toNatClampNeg) = 0 → K 0 1 M) ∧ (¬ M 1 ((8 * x2 + 3).toNatClampNeg) = 0 → (M 1 ((11 * x1 + 962).toNatClampNeg) = 0 → K 0 1 M) ∧ (¬ M 1 ((11 * x1 + 962).toNatClampNeg) = 0 → (M 1 ((11 * x1 + 962).toNatClampNeg) = 2 → K 0 1 M) ∧ (¬ M 1 ((11 * x1 + 962).toNatClampNeg) = 2 → (¬ M 1 ((11 * x1 + 962).toNatClampNeg) = 4 → K 0 0 M) ∧ (M 1 ((11 * x1 + 962).toNatClampNeg) = 4 → K 0 1 M)))))) ∧ (M 1 ((11 * x1 + 965).toNatClampNeg) = 1 → K 0 0 M)))))) : mj_W 1 110 2 0 [some (.ref 0), some (.int x1), some (.int x2), none, none] [] M 0 K := by
  refine b110_0 ?_
  have h1 := h.1
  have h2 := h.2
  refine sp97 h1 ?_
  refine b110_8 ?_
  have h3 := h2.1
  have h4 := h2.2
  refine sp99 h3 ?_
  refine b110_17 ?_
  refine ⟨fun c5 => ?_, fun c5 => ?_⟩
  · have h5a := h4.1 c5
    refine b110_27 ?_
    refine b110_30 ?_
    have h6 := h5a.1
    have h7 := h5a.2
    refine sp97 h6 ?_
    refine b110_33 ?_
    refine ⟨fun c8 => ?_, fun c8 => ?_⟩
    · have h8a := h7.1 c8
      refine b110_41 ?_
      refine b110_42 ?_
      refine ⟨fun c => absurd c (by decide), fun _ => ?_⟩
      · refine b110_49 ?_
        have h9 := h8a.1
        have h10 := h8a.2
        refine sp99 h9 ?_
        refine b110_55 ?_
        refine ⟨fun c11 => ?_, fun c11 => ?_⟩
        · have h11a := h10.1 c11
          refine b110_72 ?_
          refine b110_77 ?_
          rw [mj_nb1]
          exact h11a
        · have h11a := h10.2 c11
          refine b110_58 ?_
          refine ⟨fun c12 => ?_, fun c12 => ?_⟩
          · have h12a := h11a.1 c12
            refine b110_72 ?_
            refine b110_77 ?_
            rw [mj_nb1]
            exact h12a
          · have h12a := h11a.2 c12
            refine b110_62 ?_
            refine ⟨fun c13 => ?_, fun c13 => ?_⟩
            · have h13a := h12a.1 c13
              refine b110_72 ?_
              refine b110_77 ?_
              rw [mj_nb1]
              exact h13a
            · have h13a := h12a.2 c13
              refine b110_67 ?_
              refine ⟨fun c14 => ?_, fun c14 => ?_⟩
              · have h14a := h13a.1 c14
                refine b110_76 ?_
                refine b110_77 ?_
                rw [mj_nb0]
                exact h14a
              · have h14a := h13a.2 c14
                refine b110_72 ?_
                refine b110_77 ?_
                rw [mj_nb1]
                exact h14a
    · have h8a := h7.2 c8
      refine b110_37 ?_
      refine b110_42 ?_
      refine ⟨fun _ => ?_, fun c => absurd c (by decide)⟩
      · refine b110_76 ?_
        refine b110_77 ?_
        rw [mj_nb0]
        exact h8a
  · have h5a := h4.2 c5
    refine b110_21 ?_
    refine b110_30 ?_
    have h15 := h5a.1
    have h16 := h5a.2
    refine sp97 h15 ?_
    refine b110_33 ?_
    refine ⟨fun c17 => ?_, fun c17 => ?_⟩
    · have h17a := h16.1 c17
      refine b110_41 ?_
      refine b110_42 ?_
      refine ⟨fun c => absurd c (by decide), fun _ => ?_⟩
      · refine b110_49 ?_
        have h18 := h17a.1
        have h19 := h17a.2
        refine sp99 h18 ?_
        refine b110_55 ?_
        refine ⟨fun c20 => ?_, fun c20 => ?_⟩
        · have h20a := h19.1 c20
          refine b110_72 ?_
          refine b110_77 ?_
          rw [mj_nb1]
          exact h20a
        · have h20a := h19.2 c20
          refine b110_58 ?_
          refine ⟨fun c21 => ?_, fun c21 => ?_⟩
          · have h21a := h20a.1 c21
            refine b110_72 ?_
            refine b110_77 ?_
            rw [mj_nb1]
            exact h21a
          · have h21a := h20a.2 c21
            refine b110_62 ?_
            refine ⟨fun c22 => ?_, fun c22 => ?_⟩
            · have h22a := h21a.1 c22
              refine b110_72 ?_
              refine b110_77 ?_
              rw [mj_nb1]
              exact h22a
            · have h22a := h21a.2 c22
              refine b110_67 ?_
              refine ⟨fun c23 => ?_, fun c23 => ?_⟩
              · have h23a := h22a.1 c23
                refine b110_76 ?_
                refine b110_77 ?_
                rw [mj_nb0]
                exact h23a
              · have h23a := h22a.2 c23
                refine b110_72 ?_
                refine b110_77 ?_
                rw [mj_nb1]
                exact h23a
    · have h17a := h16.2 c17
      refine b110_37 ?_
      refine b110_42 ?_
      refine ⟨fun _ => ?_, fun c => absurd c (by decide)⟩
      · refine b110_76 ?_
        refine b110_77 ?_
        rw [mj_nb0]
        exact h17a
theorem e110 {M : mj_M} {K : mj_K} {x1 : Int32} {x2 : Int32} (h : vp_in (11 * x1 + 962) 1242 ∧ (vp_in (8 * x2 + 5) 1242 ∧ ((¬ M 1 ((8 * x2 + 5).toNatClampNeg) = 1 → vp_in (11 * x1 + 966) 1242 ∧ ((¬ M 1 ((11 * x1 + 966).toNatClampNeg) = 1 → vp_in (8 * x2 + 3) 1242 ∧ ((M 1 ((8 * x2 + 3).toNatClampNeg) = 0 → K 0 1 M) ∧ (¬ M 1 ((8 * x2 + 3).toNatClampNeg) = 0 → (M 1 ((11 * x1 + 962).toNatClampNeg) = 0 → K 0 1 M) ∧ (¬ M 1 ((11 * x1 + 962).toNatClampNeg) = 0 → (M 1 ((11 * x1 + 962).toNatClampNeg) = 2 → K 0 1 M) ∧ (¬ M 1 ((11 * x1 + 962).toNatClampNeg) = 2 → (¬ M 1 ((11 * x1 + 962).toNatClampNeg) = 4 → K 0 0 M) ∧ (M 1 ((11 * x1 + 962).toNatClampNeg) = 4 → K 0 1 M)))))) ∧ (M 1 ((11 * x1 + 966).toNatClampNeg) = 1 → K 0 0 M))) ∧ (M 1 ((8 * x2 + 5).toNatClampNeg) = 1 → vp_in (11 * x1 + 965) 1242 ∧ ((¬ M 1 ((11 * x1 + 965).toNatClampNeg) = 1 → vp_in (8 * x2 + 3) 1242 ∧ ((M 1 ((8 * x2 + 3).toNatClampNeg) = 0 → K 0 1 M) ∧ (¬ M 1 ((8 * x2 + 3).toNatClampNeg) = 0 → (M 1 ((11 * x1 + 962).toNatClampNeg) = 0 → K 0 1 M) ∧ (¬ M 1 ((11 * x1 + 962).toNatClampNeg) = 0 → (M 1 ((11 * x1 + 962).toNatClampNeg) = 2 → K 0 1 M) ∧ (¬ M 1 ((11 * x1 + 962).toNatClampNeg) = 2 → (¬ M 1 ((11 * x1 + 962).toNatClampNeg) = 4 → K 0 0 M) ∧ (M 1 ((11 * x1 + 962).toNatClampNeg) = 4 → K 0 1 M)))))) ∧ (M 1 ((11 * x1 + 965).toNatClampNeg) = 1 → K 0 0 M)))))) : mj_Cm 110 2 [.ref 0, .int x1, .int x2] M K := mj_en rfl rfl rfl (t110_0 h)

theorem t111_0 {M : mj_M} {K : mj_K} {x1 : Int32} {x2 : Int32} (h : mj_W 1 111 3 2 [some (.ref 0), some (.int x1), some (.int x2), some (.int 0), none, none, none] [] M 0 K) : mj_W 1 111 3 0 [some (.ref 0), some (.int x1), some (.int x2), none, none, none, none] [] M 0 K := by
  refine b111_0 ?_
  exact h
theorem e111 {M : mj_M} {K : mj_K} {x1 : Int32} {x2 : Int32} (h : mj_W 1 111 3 2 [some (.ref 0), some (.int x1), some (.int x2), some (.int 0), none, none, none] [] M 0 K) : mj_Cm 111 3 [.ref 0, .int x1, .int x2] M K := mj_en rfl rfl rfl (t111_0 h)

theorem t111_2 {M : mj_M} {K : mj_K} {x1 : Int32} {x2 : Int32} {x3 : Int32} {o4 : Option Value} {o5 : Option Value} {o6 : Option Value} (h : (10 ≤ x3 → mj_W 1 111 3 33 [some (.ref 0), some (.int x1), some (.int x2), some (.int 1), o4, o5, o6] [] M 0 K) ∧ (¬ 10 ≤ x3 → (¬ x3 = x2 → vp_in x3 10 ∧ mj_W 1 111 3 2 [some (.ref 0), some (.int x1), some (.int x2), some (.int (x3 + 1)), o4, o5, o6] [] (mj_u M 3 x3.toNatClampNeg 1000000) 0 K) ∧ (x3 = x2 → vp_in x3 10 ∧ mj_W 1 111 3 2 [some (.ref 0), some (.int x1), some (.int x2), some (.int (x3 + 1)), o4, o5, o6] [] (mj_u M 3 x3.toNatClampNeg 0) 0 K))) : mj_W 1 111 3 2 [some (.ref 0), some (.int x1), some (.int x2), some (.int x3), o4, o5, o6] [] M 0 K := by
  refine b111_2 ?_
  refine ⟨fun c1 => ?_, fun c1 => ?_⟩
  · have h1a := h.1 c1
    refine b111_31 ?_
    exact h1a
  · have h1a := h.2 c1
    refine b111_8 ?_
    refine ⟨fun c2 => ?_, fun c2 => ?_⟩
    · have h2a := h1a.1 c2
      refine b111_22 ?_
      refine b111_24 ?_
      have g3 := h2a.1
      refine ⟨g3, ?_⟩
      have h3 := h2a.2
      exact h3
    · have h2a := h1a.2 c2
      refine b111_18 ?_
      refine b111_24 ?_
      have g4 := h2a.1
      refine ⟨g4, ?_⟩
      have h4 := h2a.2
      exact h4

theorem t111_33 {M : mj_M} {K : mj_K} {x1 : Int32} {x2 : Int32} {x3 : Int32} {o4 : Option Value} {o5 : Option Value} {o6 : Option Value} (h : (x3 = 0 → K 0 0 M) ∧ (¬ x3 = 0 → mj_W 1 111 3 42 [some (.ref 0), some (.int x1), some (.int x2), some (.int 0), some (.int 0), o5, o6] [] M 0 K)) : mj_W 1 111 3 33 [some (.ref 0), some (.int x1), some (.int x2), some (.int x3), o4, o5, o6] [] M 0 K := by
  refine b111_33 ?_
  refine ⟨fun c1 => ?_, fun c1 => ?_⟩
  · have h1a := h.1 c1
    refine b111_222 ?_
    exact h1a
  · have h1a := h.2 c1
    refine b111_37 ?_
    exact h1a

theorem t111_42 {M : mj_M} {K : mj_K} {x1 : Int32} {x2 : Int32} {x3 : Int32} {x4 : Int32} {o5 : Option Value} {o6 : Option Value} (h : (M 1 1239 ≤ x4 → mj_W 1 111 3 33 [some (.ref 0), some (.int x1), some (.int x2), some (.int x3), some (.int x4), o5, o6] [] M 0 K) ∧ (¬ M 1 1239 ≤ x4 → mj_Cm 110 2 [.ref 0, .int x4, .int x1] M (mj_k 1 111 3 62 [some (.ref 0), some (.int x1), some (.int x2), some (.int x3), some (.int x4), o5, o6] [] 0 (some .boolean) K))) : mj_W 1 111 3 42 [some (.ref 0), some (.int x1), some (.int x2), some (.int x3), some (.int x4), o5, o6] [] M 0 K := by
  refine b111_42 ?_
  refine ⟨fun c1 => ?_, fun c1 => ?_⟩
  · have h1a := h.1 c1
    refine b111_219 ?_
    exact h1a
  · have h1a := h.2 c1
    refine b111_55 ?_
    exact h1a

theorem t111_62 {M : mj_M} {K : mj_K} {x1 : Int32} {x2 : Int32} {x3 : Int32} {x4 : Int32} {o5 : Option Value} {o6 : Option Value} {s0 : Int32} (h : (s0 = 0 → mj_W 1 111 3 42 [some (.ref 0), some (.int x1), some (.int x2), some (.int x3), some (.int (x4 + 1)), o5, o6] [] M 0 K) ∧ (¬ s0 = 0 → vp_in (11 * x4 + 960) 1242 ∧ (vp_in (11 * x4 + 961) 1242 ∧ mj_Cm 109 2 [.ref 0, .int x4, .int 0] M (mj_k 1 111 3 94 [some (.ref 0), some (.int x1), some (.int x2), some (.int x3), some (.int x4), some (.int (M 1 ((11 * x4 + 960).toNatClampNeg))), some (.int (M 1 ((11 * x4 + 961).toNatClampNeg)))] [] 0 (some .boolean) K)))) : mj_W 1 111 3 62 [some (.ref 0), some (.int x1), some (.int x2), some (.int x3), some (.int x4), o5, o6] [.int s0] M 0 K := by
  refine b111_62 ?_
  refine ⟨fun c1 => ?_, fun c1 => ?_⟩
  · have h1a := h.1 c1
    refine b111_213 ?_
    exact h1a
  · have h1a := h.2 c1
    refine b111_65 ?_
    have h2 := h1a.1
    have h3 := h1a.2
    refine sp97 h2 ?_
    refine b111_74 ?_
    have h4 := h3.1
    have h5 := h3.2
    refine sp97 h4 ?_
    refine b111_85 ?_
    exact h5

theorem t111_94 {M : mj_M} {K : mj_K} {x1 : Int32} {x2 : Int32} {x3 : Int32} {x4 : Int32} {x5 : Int32} {x6 : Int32} {s0 : Int32} (h : (s0 = 0 → mj_Cm 109 2 [.ref 0, .int x4, .int 1] M (mj_k 1 111 3 157 [some (.ref 0), some (.int x1), some (.int x2), some (.int x3), some (.int x4), some (.int x5), some (.int x6)] [] 0 (some .boolean) K)) ∧ (¬ s0 = 0 → vp_in x6 10 ∧ (vp_in (11 * x4 + 963) 1242 ∧ (vp_in x5 10 ∧ ((M 3 x5.toNatClampNeg ≤ M 3 x6.toNatClampNeg + M 1 ((11 * x4 + 963).toNatClampNeg) → mj_Cm 109 2 [.ref 0, .int x4, .int 1] M (mj_k 1 111 3 157 [some (.ref 0), some (.int x1), some (.int x2), some (.int x3), some (.int x4), some (.int x5), some (.int x6)] [] 0 (some .boolean) K)) ∧ (¬ M 3 x5.toNatClampNeg ≤ M 3 x6.toNatClampNeg + M 1 ((11 * x4 + 963).toNatClampNeg) → vp_in (11 * x4 + 963) 1242 ∧ mj_Cm 109 2 [.ref 0, .int x4, .int 1] (mj_u M 3 x5.toNatClampNeg (M 3 x6.toNatClampNeg + M 1 ((11 * x4 + 963).toNatClampNeg))) (mj_k 1 111 3 157 [some (.ref 0), some (.int x1), some (.int x2), some (.int 1), some (.int x4), some (.int x5), some (.int x6)] [] 0 (some .boolean) K))))))) : mj_W 1 111 3 94 [some (.ref 0), some (.int x1), some (.int x2), some (.int x3), some (.int x4), some (.int x5), some (.int x6)] [.int s0] M 0 K := by
  refine b111_94 ?_
  refine ⟨fun c1 => ?_, fun c1 => ?_⟩
  · have h1a := h.1 c1
    refine b111_150 ?_
    exact h1a
  · have h1a := h.2 c1
    refine b111_97 ?_
    have g2 := h1a.1
    refine ⟨g2, ?_⟩
    have h2 := h1a.2
    have h3 := h2.1
    have h4 := h2.2
    refine sp97 h3 ?_
    refine b111_113 ?_
    have g5 := h4.1
    refine ⟨g5, ?_⟩
    have h5 := h4.2
    refine ⟨fun c6 => ?_, fun c6 => ?_⟩
    · have h6a := h5.1 c6
      refine b111_150 ?_
      exact h6a
    · have h6a := h5.2 c6
      refine b111_124 ?_
      refine ⟨g2, ?_⟩
      have h7 := h6a.1
      have h8 := h6a.2
      refine sp97 h7 ?_
      refine b111_146 ?_
      refine ⟨g5, ?_⟩
      refine b111_150 ?_
      exact h8

theorem t111_157 {M : mj_M} {K : mj_K} {x1 : Int32} {x2 : Int32} {x3 : Int32} {x4 : Int32} {x5 : Int32} {x6 : Int32} {s0 : Int32} (h : (s0 = 0 → mj_W 1 111 3 42 [some (.ref 0), some (.int x1), some (.int x2), some (.int x3), some (.int (x4 + 1)), some (.int x5), some (.int x6)] [] M 0 K) ∧ (¬ s0 = 0 → vp_in x5 10 ∧ (vp_in (11 * x4 + 963) 1242 ∧ (vp_in x6 10 ∧ ((M 3 x6.toNatClampNeg ≤ M 3 x5.toNatClampNeg + M 1 ((11 * x4 + 963).toNatClampNeg) → mj_W 1 111 3 42 [some (.ref 0), some (.int x1), some (.int x2), some (.int x3), some (.int (x4 + 1)), some (.int x5), some (.int x6)] [] M 0 K) ∧ (¬ M 3 x6.toNatClampNeg ≤ M 3 x5.toNatClampNeg + M 1 ((11 * x4 + 963).toNatClampNeg) → vp_in (11 * x4 + 963) 1242 ∧ mj_W 1 111 3 42 [some (.ref 0), some (.int x1), some (.int x2), some (.int 1), some (.int (x4 + 1)), some (.int x5), some (.int x6)] [] (mj_u M 3 x6.toNatClampNeg (M 3 x5.toNatClampNeg + M 1 ((11 * x4 + 963).toNatClampNeg))) 0 K)))))) : mj_W 1 111 3 157 [some (.ref 0), some (.int x1), some (.int x2), some (.int x3), some (.int x4), some (.int x5), some (.int x6)] [.int s0] M 0 K := by
  refine b111_157 ?_
  refine ⟨fun c1 => ?_, fun c1 => ?_⟩
  · have h1a := h.1 c1
    refine b111_213 ?_
    exact h1a
  · have h1a := h.2 c1
    refine b111_160 ?_
    have g2 := h1a.1
    refine ⟨g2, ?_⟩
    have h2 := h1a.2
    have h3 := h2.1
    have h4 := h2.2
    refine sp97 h3 ?_
    refine b111_176 ?_
    have g5 := h4.1
    refine ⟨g5, ?_⟩
    have h5 := h4.2
    refine ⟨fun c6 => ?_, fun c6 => ?_⟩
    · have h6a := h5.1 c6
      refine b111_213 ?_
      exact h6a
    · have h6a := h5.2 c6
      refine b111_187 ?_
      refine ⟨g2, ?_⟩
      have h7 := h6a.1
      have h8 := h6a.2
      refine sp97 h7 ?_
      refine b111_209 ?_
      refine ⟨g5, ?_⟩
      refine b111_213 ?_
      exact h8

theorem t112_0 {M : mj_M} {K : mj_K} {x1 : Int32} {x2 : Int32} (h : vp_in (11 * x1 + 960) 1242 ∧ ((¬ M 1 ((11 * x1 + 960).toNatClampNeg) = x2 → vp_in (11 * x1 + 961) 1242 ∧ ((¬ M 1 ((11 * x1 + 961).toNatClampNeg) = x2 → K 0 (-1) M) ∧ (M 1 ((11 * x1 + 961).toNatClampNeg) = x2 → mj_Cm 109 2 [.ref 0, .int x1, .int 1] M (mj_k 1 112 3 52 [some (.ref 0), some (.int x1), some (.int x2)] [] 0 (some .boolean) K)))) ∧ (M 1 ((11 * x1 + 960).toNatClampNeg) = x2 → mj_Cm 109 2 [.ref 0, .int x1, .int 0] M (mj_k 1 112 3 18 [some (.ref 0), some (.int x1), some (.int x2)] [] 0 (some .boolean) K)))) : mj_W 1 112 3 0 [some (.ref 0), some (.int x1), some (.int x2)] [] M 0 K := by
  refine b112_0 ?_
  have h1 := h.1
  have h2 := h.2
  refine sp97 h1 ?_
  refine b112_8 ?_
  refine ⟨fun c3 => ?_, fun c3 => ?_⟩
  · have h3a := h2.1 c3
    refine b112_34 ?_
    have h4 := h3a.1
    have h5 := h3a.2
    refine sp97 h4 ?_
    refine b112_42 ?_
    refine ⟨fun c6 => ?_, fun c6 => ?_⟩
    · have h6a := h5.1 c6
      refine b112_66 ?_
      refine b112_67 ?_
      exact h6a
    · have h6a := h5.2 c6
      refine b112_46 ?_
      exact h6a
  · have h3a := h2.2 c3
    refine b112_12 ?_
    exact h3a
theorem e112 {M : mj_M} {K : mj_K} {x1 : Int32} {x2 : Int32} (h : vp_in (11 * x1 + 960) 1242 ∧ ((¬ M 1 ((11 * x1 + 960).toNatClampNeg) = x2 → vp_in (11 * x1 + 961) 1242 ∧ ((¬ M 1 ((11 * x1 + 961).toNatClampNeg) = x2 → K 0 (-1) M) ∧ (M 1 ((11 * x1 + 961).toNatClampNeg) = x2 → mj_Cm 109 2 [.ref 0, .int x1, .int 1] M (mj_k 1 112 3 52 [some (.ref 0), some (.int x1), some (.int x2)] [] 0 (some .boolean) K)))) ∧ (M 1 ((11 * x1 + 960).toNatClampNeg) = x2 → mj_Cm 109 2 [.ref 0, .int x1, .int 0] M (mj_k 1 112 3 18 [some (.ref 0), some (.int x1), some (.int x2)] [] 0 (some .boolean) K)))) : mj_Cm 112 3 [.ref 0, .int x1, .int x2] M K := mj_en rfl rfl rfl (t112_0 h)

theorem t112_52 {M : mj_M} {K : mj_K} {x1 : Int32} {x2 : Int32} {s0 : Int32} (h : (s0 = 0 → K 0 (-1) M) ∧ (¬ s0 = 0 → vp_in (11 * x1 + 960) 1242 ∧ K 0 (M 1 ((11 * x1 + 960).toNatClampNeg)) M)) : mj_W 1 112 3 52 [some (.ref 0), some (.int x1), some (.int x2)] [.int s0] M 0 K := by
  refine b112_52 ?_
  refine ⟨fun c1 => ?_, fun c1 => ?_⟩
  · have h1a := h.1 c1
    refine b112_66 ?_
    refine b112_67 ?_
    exact h1a
  · have h1a := h.2 c1
    refine b112_55 ?_
    have h2 := h1a.1
    have h3 := h1a.2
    refine sp97 h2 ?_
    refine b112_63 ?_
    refine b112_67 ?_
    exact h3

theorem t112_18 {M : mj_M} {K : mj_K} {x1 : Int32} {x2 : Int32} {s0 : Int32} (h : (s0 = 0 → K 0 (-1) M) ∧ (¬ s0 = 0 → vp_in (11 * x1 + 961) 1242 ∧ K 0 (M 1 ((11 * x1 + 961).toNatClampNeg)) M)) : mj_W 1 112 3 18 [some (.ref 0), some (.int x1), some (.int x2)] [.int s0] M 0 K := by
  refine b112_18 ?_
  refine ⟨fun c1 => ?_, fun c1 => ?_⟩
  · have h1a := h.1 c1
    refine b112_32 ?_
    refine b112_33 ?_
    exact h1a
  · have h1a := h.2 c1
    refine b112_21 ?_
    have h2 := h1a.1
    have h3 := h1a.2
    refine sp97 h2 ?_
    refine b112_29 ?_
    refine b112_33 ?_
    exact h3

theorem t113_0 {M : mj_M} {K : mj_K} {x1 : Int32} (h : vp_in (8 * x1 + 0) 1242 ∧ (vp_in (8 * x1 + 1) 1242 ∧ ((¬ M 1 ((8 * x1 + 1).toNatClampNeg) = 0 → K 0 (-1) M) ∧ (M 1 ((8 * x1 + 1).toNatClampNeg) = 0 → vp_in (8 * x1 + 2) 1242 ∧ ((¬ M 1 ((8 * x1 + 0).toNatClampNeg) = M 1 ((8 * x1 + 2).toNatClampNeg) → vp_in (8 * x1 + 2) 1242 ∧ mj_Cm 111 3 [.ref 0, .int x1, .int (M 1 ((8 * x1 + 2).toNatClampNeg))] M (mj_k 1 113 4 39 [some (.ref 0), some (.int x1), some (.int (M 1 ((8 * x1 + 0).toNatClampNeg))), none, none] [] 0 none K)) ∧ (M 1 ((8 * x1 + 0).toNatClampNeg) = M 1 ((8 * x1 + 2).toNatClampNeg) → K 0 (-1) M)))))) : mj_W 1 113 4 0 [some (.ref 0), some (.int x1), none, none, none] [] M 0 K := by
  refine b113_0 ?_
  have h1 := h.1
  have h2 := h.2
  refine sp99 h1 ?_
  refine b113_6 ?_
  have h3 := h2.1
  have h4 := h2.2
  refine sp99 h3 ?_
  refine b113_13 ?_
  refine ⟨fun c5 => ?_, fun c5 => ?_⟩
  · have h5a := h4.1 c5
    refine b113_26 ?_
    exact h5a
  · have h5a := h4.2 c5
    refine b113_16 ?_
    have h6 := h5a.1
    have h7 := h5a.2
    refine sp99 h6 ?_
    refine b113_23 ?_
    refine ⟨fun c8 => ?_, fun c8 => ?_⟩
    · have h8a := h7.1 c8
      refine b113_28 ?_
      have h9 := h8a.1
      have h10 := h8a.2
      refine sp99 h9 ?_
      refine b113_36 ?_
      exact h10
    · have h8a := h7.2 c8
      refine b113_26 ?_
      exact h8a
theorem e113 {M : mj_M} {K : mj_K} {x1 : Int32} (h : vp_in (8 * x1 + 0) 1242 ∧ (vp_in (8 * x1 + 1) 1242 ∧ ((¬ M 1 ((8 * x1 + 1).toNatClampNeg) = 0 → K 0 (-1) M) ∧ (M 1 ((8 * x1 + 1).toNatClampNeg) = 0 → vp_in (8 * x1 + 2) 1242 ∧ ((¬ M 1 ((8 * x1 + 0).toNatClampNeg) = M 1 ((8 * x1 + 2).toNatClampNeg) → vp_in (8 * x1 + 2) 1242 ∧ mj_Cm 111 3 [.ref 0, .int x1, .int (M 1 ((8 * x1 + 2).toNatClampNeg))] M (mj_k 1 113 4 39 [some (.ref 0), some (.int x1), some (.int (M 1 ((8 * x1 + 0).toNatClampNeg))), none, none] [] 0 none K)) ∧ (M 1 ((8 * x1 + 0).toNatClampNeg) = M 1 ((8 * x1 + 2).toNatClampNeg) → K 0 (-1) M)))))) : mj_Cm 113 4 [.ref 0, .int x1] M K := mj_en rfl rfl rfl (t113_0 h)

theorem t113_41 {M : mj_M} {K : mj_K} {x1 : Int32} {x2 : Int32} {x3 : Int32} {o4 : Option Value} (h : (M 1 1239 ≤ x3 → K 0 (-1) M) ∧ (¬ M 1 1239 ≤ x3 → mj_Cm 110 2 [.ref 0, .int x3, .int x1] M (mj_k 1 113 4 59 [some (.ref 0), some (.int x1), some (.int x2), some (.int x3), o4] [] 0 (some .boolean) K))) : mj_W 1 113 4 41 [some (.ref 0), some (.int x1), some (.int x2), some (.int x3), o4] [] M 0 K := by
  refine b113_41 ?_
  refine ⟨fun c1 => ?_, fun c1 => ?_⟩
  · have h1a := h.1 c1
    refine b113_124 ?_
    exact h1a
  · have h1a := h.2 c1
    refine b113_53 ?_
    exact h1a

theorem t113_39 {M : mj_M} {K : mj_K} {x1 : Int32} {x2 : Int32} {o3 : Option Value} {o4 : Option Value} (h : mj_W 1 113 4 41 [some (.ref 0), some (.int x1), some (.int x2), some (.int 0), o4] [] M 0 K) : mj_W 1 113 4 39 [some (.ref 0), some (.int x1), some (.int x2), o3, o4] [] M 0 K := by
  refine b113_39 ?_
  exact h

theorem t113_59 {M : mj_M} {K : mj_K} {x1 : Int32} {x2 : Int32} {x3 : Int32} {o4 : Option Value} {s0 : Int32} (h : (s0 = 0 → mj_W 1 113 4 41 [some (.ref 0), some (.int x1), some (.int x2), some (.int (x3 + 1)), some (.int (-1))] [] M 0 K) ∧ (¬ s0 = 0 → mj_Cm 112 3 [.ref 0, .int x3, .int x2] M (mj_k 1 113 4 68 [some (.ref 0), some (.int x1), some (.int x2), some (.int x3), o4] [] 0 (some .int) K))) : mj_W 1 113 4 59 [some (.ref 0), some (.int x1), some (.int x2), some (.int x3), o4] [.int s0] M 0 K := by
  refine b113_59 ?_
  refine ⟨fun c1 => ?_, fun c1 => ?_⟩
  · have h1a := h.1 c1
    refine b113_71 ?_
    refine b113_72 ?_
    refine ⟨fun _ => ?_, fun c => absurd c (by decide)⟩
    · refine b113_118 ?_
      exact h1a
  · have h1a := h.2 c1
    refine b113_62 ?_
    exact h1a

theorem t113_68 {M : mj_M} {K : mj_K} {x1 : Int32} {x2 : Int32} {x3 : Int32} {o4 : Option Value} {s0 : Int32} (h : (s0 = (-1) → mj_W 1 113 4 41 [some (.ref 0), some (.int x1), some (.int x2), some (.int (x3 + 1)), some (.int s0)] [] M 0 K) ∧ (¬ s0 = (-1) → vp_in x2 10 ∧ ((1000000 ≤ M 3 x2.toNatClampNeg → mj_W 1 113 4 41 [some (.ref 0), some (.int x1), some (.int x2), some (.int (x3 + 1)), some (.int s0)] [] M 0 K) ∧ (¬ 1000000 ≤ M 3 x2.toNatClampNeg → vp_in s0 10 ∧ (vp_in (11 * x3 + 963) 1242 ∧ ((¬ M 3 s0.toNatClampNeg + M 1 ((11 * x3 + 963).toNatClampNeg) = M 3 x2.toNatClampNeg → mj_W 1 113 4 41 [some (.ref 0), some (.int x1), some (.int x2), some (.int (x3 + 1)), some (.int s0)] [] M 0 K) ∧ (M 3 s0.toNatClampNeg + M 1 ((11 * x3 + 963).toNatClampNeg) = M 3 x2.toNatClampNeg → K 0 x3 M))))))) : mj_W 1 113 4 68 [some (.ref 0), some (.int x1), some (.int x2), some (.int x3), o4] [.int s0] M 0 K := by
  refine b113_68 ?_
  refine b113_72 ?_
  refine ⟨fun c1 => ?_, fun c1 => ?_⟩
  · have h1a := h.1 c1
    refine b113_118 ?_
    exact h1a
  · have h1a := h.2 c1
    refine b113_80 ?_
    have g2 := h1a.1
    refine ⟨g2, ?_⟩
    have h2 := h1a.2
    refine ⟨fun c3 => ?_, fun c3 => ?_⟩
    · have h3a := h2.1 c3
      refine b113_118 ?_
      exact h3a
    · have h3a := h2.2 c3
      refine b113_91 ?_
      have g4 := h3a.1
      refine ⟨g4, ?_⟩
      have h4 := h3a.2
      have h5 := h4.1
      have h6 := h4.2
      refine sp97 h5 ?_
      refine b113_106 ?_
      refine ⟨g2, ?_⟩
      refine ⟨fun c7 => ?_, fun c7 => ?_⟩
      · have h7a := h6.1 c7
        refine b113_118 ?_
        exact h7a
      · have h7a := h6.2 c7
        refine b113_116 ?_
        exact h7a

theorem t114_0 {M : mj_M} {K : mj_K} {x1 : Int32} {x2 : Int32} (h : mj_W 1 114 2 5 [some (.ref 0), some (.int x1), some (.int x2), some (.int 0), some (.int 0)] [] M 0 K) : mj_W 1 114 2 0 [some (.ref 0), some (.int x1), some (.int x2), none, none] [] M 0 K := by
  refine b114_0 ?_
  exact h
theorem e114 {M : mj_M} {K : mj_K} {x1 : Int32} {x2 : Int32} (h : mj_W 1 114 2 5 [some (.ref 0), some (.int x1), some (.int x2), some (.int 0), some (.int 0)] [] M 0 K) : mj_Cm 114 2 [.ref 0, .int x1, .int x2] M K := mj_en rfl rfl rfl (t114_0 h)

theorem t114_5 {M : mj_M} {K : mj_K} {x1 : Int32} {x2 : Int32} {x3 : Int32} {x4 : Int32} (h : (M 1 1240 ≤ x4 → K 0 x3 M) ∧ (¬ M 1 1240 ≤ x4 → vp_in (8 * x4 + 0) 1242 ∧ ((¬ M 1 ((8 * x4 + 0).toNatClampNeg) = x1 → mj_W 1 114 2 5 [some (.ref 0), some (.int x1), some (.int x2), some (.int (x3 + 0)), some (.int (x4 + 1))] [] M 0 K) ∧ (M 1 ((8 * x4 + 0).toNatClampNeg) = x1 → vp_in (8 * x4 + 1) 1242 ∧ ((¬ M 1 ((8 * x4 + 1).toNatClampNeg) = x2 → mj_W 1 114 2 5 [some (.ref 0), some (.int x1), some (.int x2), some (.int (x3 + 0)), some (.int (x4 + 1))] [] M 0 K) ∧ (M 1 ((8 * x4 + 1).toNatClampNeg) = x2 → mj_W 1 114 2 5 [some (.ref 0), some (.int x1), some (.int x2), some (.int (x3 + 1)), some (.int (x4 + 1))] [] M 0 K)))))) : mj_W 1 114 2 5 [some (.ref 0), some (.int x1), some (.int x2), some (.int x3), some (.int x4)] [] M 0 K := by
  refine b114_5 ?_
  refine ⟨fun c1 => ?_, fun c1 => ?_⟩
  · have h1a := h.1 c1
    refine b114_54 ?_
    exact h1a
  · have h1a := h.2 c1
    refine b114_18 ?_
    have h2 := h1a.1
    have h3 := h1a.2
    refine sp99 h2 ?_
    refine b114_26 ?_
    refine ⟨fun c4 => ?_, fun c4 => ?_⟩
    · have h4a := h3.1 c4
      refine b114_45 ?_
      refine b114_46 ?_
      exact h4a
    · have h4a := h3.2 c4
      refine b114_30 ?_
      have h5 := h4a.1
      have h6 := h4a.2
      refine sp99 h5 ?_
      refine b114_37 ?_
      refine ⟨fun c7 => ?_, fun c7 => ?_⟩
      · have h7a := h6.1 c7
        refine b114_45 ?_
        refine b114_46 ?_
        exact h7a
      · have h7a := h6.2 c7
        refine b114_41 ?_
        refine b114_46 ?_
        exact h7a

theorem t115_0 {M : mj_M} {K : mj_K} {x1 : Int32} (h : vp_in (5 * x1 + 1114) 1242 ∧ ((¬ M 1 ((5 * x1 + 1114).toNatClampNeg) = 0 → vp_in (5 * x1 + 1115) 1242 ∧ mj_Cm 114 2 [.ref 0, .int x1, .int 0] M (mj_k 1 115 3 30 [some (.ref 0), some (.int x1)] [.int (M 1 ((5 * x1 + 1115).toNatClampNeg))] 0 (some .int) K)) ∧ (M 1 ((5 * x1 + 1114).toNatClampNeg) = 0 → K 0 1000000 M))) : mj_W 1 115 3 0 [some (.ref 0), some (.int x1)] [] M 0 K := by
  refine b115_0 ?_
  have h1 := h.1
  have h2 := h.2
  refine sp98 h1 ?_
  refine b115_8 ?_
  refine ⟨fun c3 => ?_, fun c3 => ?_⟩
  · have h3a := h2.1 c3
    refine b115_16 ?_
    have h4 := h3a.1
    have h5 := h3a.2
    refine sp98 h4 ?_
    refine b115_24 ?_
    exact h5
  · have h3a := h2.2 c3
    refine b115_11 ?_
    refine b115_38 ?_
    exact h3a
theorem e115 {M : mj_M} {K : mj_K} {x1 : Int32} (h : vp_in (5 * x1 + 1114) 1242 ∧ ((¬ M 1 ((5 * x1 + 1114).toNatClampNeg) = 0 → vp_in (5 * x1 + 1115) 1242 ∧ mj_Cm 114 2 [.ref 0, .int x1, .int 0] M (mj_k 1 115 3 30 [some (.ref 0), some (.int x1)] [.int (M 1 ((5 * x1 + 1115).toNatClampNeg))] 0 (some .int) K)) ∧ (M 1 ((5 * x1 + 1114).toNatClampNeg) = 0 → K 0 1000000 M))) : mj_Cm 115 3 [.ref 0, .int x1] M K := mj_en rfl rfl rfl (t115_0 h)

theorem t115_30 {M : mj_M} {K : mj_K} {x1 : Int32} {s0 : Int32} {s1 : Int32} (h : mj_Cm 114 2 [.ref 0, .int x1, .int 1] M (mj_k 1 115 3 37 [some (.ref 0), some (.int x1)] [.int (s0 - s1)] 0 (some .int) K)) : mj_W 1 115 3 30 [some (.ref 0), some (.int x1)] [.int s1, .int s0] M 0 K := by
  refine b115_30 ?_
  exact h

theorem t115_37 {M : mj_M} {K : mj_K} {x1 : Int32} {s0 : Int32} {s1 : Int32} (h : K 0 (s0 - s1) M) : mj_W 1 115 3 37 [some (.ref 0), some (.int x1)] [.int s1, .int s0] M 0 K := by
  refine b115_37 ?_
  refine b115_38 ?_
  exact h

theorem t116_0 {M : mj_M} {K : mj_K} {x1 : Int32} (h : vp_in (8 * x1 + 0) 1242 ∧ (vp_in (8 * x1 + 1) 1242 ∧ ((¬ M 1 ((8 * x1 + 1).toNatClampNeg) = 0 → K 0 0 M) ∧ (M 1 ((8 * x1 + 1).toNatClampNeg) = 0 → vp_in (8 * x1 + 2) 1242 ∧ ((¬ M 1 ((8 * x1 + 0).toNatClampNeg) = M 1 ((8 * x1 + 2).toNatClampNeg) → K 0 0 M) ∧ (M 1 ((8 * x1 + 0).toNatClampNeg) = M 1 ((8 * x1 + 2).toNatClampNeg) → vp_in (5 * M 1 ((8 * x1 + 0).toNatClampNeg) + 1114) 1242 ∧ ((¬ M 1 ((5 * M 1 ((8 * x1 + 0).toNatClampNeg) + 1114).toNatClampNeg) = 0 → K 0 0 M) ∧ (M 1 ((5 * M 1 ((8 * x1 + 0).toNatClampNeg) + 1114).toNatClampNeg) = 0 → vp_in (8 * x1 + 1) 1242 ∧ vp_in (5 * M 1 ((8 * x1 + 0).toNatClampNeg) + 1118) 1242 ∧ K 0 0 (mj_u (mj_u M 1 ((8 * x1 + 1).toNatClampNeg) 3) 1 ((5 * M 1 ((8 * x1 + 0).toNatClampNeg) + 1118).toNatClampNeg) ((mj_u M 1 ((8 * x1 + 1).toNatClampNeg) 3) 1 ((5 * M 1 ((8 * x1 + 0).toNatClampNeg) + 1118).toNatClampNeg) + 1)))))))))) : mj_W 1 116 2 0 [some (.ref 0), some (.int x1), none] [] M 0 K := by
  refine b116_0 ?_
  have h1 := h.1
  have h2 := h.2
  refine sp99 h1 ?_
  refine b116_6 ?_
  have h3 := h2.1
  have h4 := h2.2
  refine sp99 h3 ?_
  refine b116_13 ?_
  refine ⟨fun c5 => ?_, fun c5 => ?_⟩
  · have h5a := h4.1 c5
    refine b116_65 ?_
    exact h5a
  · have h5a := h4.2 c5
    refine b116_16 ?_
    have h6 := h5a.1
    have h7 := h5a.2
    refine sp99 h6 ?_
    refine b116_23 ?_
    refine ⟨fun c8 => ?_, fun c8 => ?_⟩
    · have h8a := h7.1 c8
      refine b116_65 ?_
      exact h8a
    · have h8a := h7.2 c8
      refine b116_26 ?_
      have h9 := h8a.1
      have h10 := h8a.2
      refine sp98 h9 ?_
      refine b116_34 ?_
      refine ⟨fun c11 => ?_, fun c11 => ?_⟩
      · have h11a := h10.1 c11
        refine b116_65 ?_
        exact h11a
      · have h11a := h10.2 c11
        refine b116_37 ?_
        have g12 := h11a.1
        refine ⟨g12, ?_⟩
        have h12 := h11a.2
        have g13 := h12.1
        refine ⟨g13, ?_⟩
        have h13 := h12.2
        refine b116_65 ?_
        exact h13
theorem e116 {M : mj_M} {K : mj_K} {x1 : Int32} (h : vp_in (8 * x1 + 0) 1242 ∧ (vp_in (8 * x1 + 1) 1242 ∧ ((¬ M 1 ((8 * x1 + 1).toNatClampNeg) = 0 → K 0 0 M) ∧ (M 1 ((8 * x1 + 1).toNatClampNeg) = 0 → vp_in (8 * x1 + 2) 1242 ∧ ((¬ M 1 ((8 * x1 + 0).toNatClampNeg) = M 1 ((8 * x1 + 2).toNatClampNeg) → K 0 0 M) ∧ (M 1 ((8 * x1 + 0).toNatClampNeg) = M 1 ((8 * x1 + 2).toNatClampNeg) → vp_in (5 * M 1 ((8 * x1 + 0).toNatClampNeg) + 1114) 1242 ∧ ((¬ M 1 ((5 * M 1 ((8 * x1 + 0).toNatClampNeg) + 1114).toNatClampNeg) = 0 → K 0 0 M) ∧ (M 1 ((5 * M 1 ((8 * x1 + 0).toNatClampNeg) + 1114).toNatClampNeg) = 0 → vp_in (8 * x1 + 1) 1242 ∧ vp_in (5 * M 1 ((8 * x1 + 0).toNatClampNeg) + 1118) 1242 ∧ K 0 0 (mj_u (mj_u M 1 ((8 * x1 + 1).toNatClampNeg) 3) 1 ((5 * M 1 ((8 * x1 + 0).toNatClampNeg) + 1118).toNatClampNeg) ((mj_u M 1 ((8 * x1 + 1).toNatClampNeg) 3) 1 ((5 * M 1 ((8 * x1 + 0).toNatClampNeg) + 1118).toNatClampNeg) + 1)))))))))) : mj_Cm 116 2 [.ref 0, .int x1] M K := mj_en rfl rfl rfl (t116_0 h)

theorem t117_0 {M : mj_M} {K : mj_K} {x1 : Int32} {x2 : Int32} (h : vp_in (8 * x1 + 0) 1242 ∧ vp_in (8 * x1 + 1) 1242 ∧ vp_in (8 * x1 + 7) 1242 ∧ vp_in (5 * x2 + 1117) 1242 ∧ mj_Cm 116 2 [.ref 0, .int x1] (mj_u (mj_u (mj_u (mj_u M 1 ((8 * x1 + 0).toNatClampNeg) x2) 1 ((8 * x1 + 1).toNatClampNeg) 0) 1 ((8 * x1 + 7).toNatClampNeg) ((mj_u (mj_u M 1 ((8 * x1 + 0).toNatClampNeg) x2) 1 ((8 * x1 + 1).toNatClampNeg) 0) 1 1236)) 1 ((5 * x2 + 1117).toNatClampNeg) ((mj_u (mj_u (mj_u M 1 ((8 * x1 + 0).toNatClampNeg) x2) 1 ((8 * x1 + 1).toNatClampNeg) 0) 1 ((8 * x1 + 7).toNatClampNeg) ((mj_u (mj_u M 1 ((8 * x1 + 0).toNatClampNeg) x2) 1 ((8 * x1 + 1).toNatClampNeg) 0) 1 1236)) 1 ((5 * x2 + 1117).toNatClampNeg) + 1)) (mj_k 1 117 3 65 [some (.ref 0), some (.int x1), some (.int x2)] [] 0 none K)) : mj_W 1 117 3 0 [some (.ref 0), some (.int x1), some (.int x2)] [] M 0 K := by
  refine b117_0 ?_
  have g1 := h.1
  refine ⟨g1, ?_⟩
  have h1 := h.2
  have g2 := h1.1
  refine ⟨g2, ?_⟩
  have h2 := h1.2
  have g3 := h2.1
  refine ⟨g3, ?_⟩
  have h3 := h2.2
  have g4 := h3.1
  refine ⟨g4, ?_⟩
  have h4 := h3.2
  exact h4
theorem e117 {M : mj_M} {K : mj_K} {x1 : Int32} {x2 : Int32} (h : vp_in (8 * x1 + 0) 1242 ∧ vp_in (8 * x1 + 1) 1242 ∧ vp_in (8 * x1 + 7) 1242 ∧ vp_in (5 * x2 + 1117) 1242 ∧ mj_Cm 116 2 [.ref 0, .int x1] (mj_u (mj_u (mj_u (mj_u M 1 ((8 * x1 + 0).toNatClampNeg) x2) 1 ((8 * x1 + 1).toNatClampNeg) 0) 1 ((8 * x1 + 7).toNatClampNeg) ((mj_u (mj_u M 1 ((8 * x1 + 0).toNatClampNeg) x2) 1 ((8 * x1 + 1).toNatClampNeg) 0) 1 1236)) 1 ((5 * x2 + 1117).toNatClampNeg) ((mj_u (mj_u (mj_u M 1 ((8 * x1 + 0).toNatClampNeg) x2) 1 ((8 * x1 + 1).toNatClampNeg) 0) 1 ((8 * x1 + 7).toNatClampNeg) ((mj_u (mj_u M 1 ((8 * x1 + 0).toNatClampNeg) x2) 1 ((8 * x1 + 1).toNatClampNeg) 0) 1 1236)) 1 ((5 * x2 + 1117).toNatClampNeg) + 1)) (mj_k 1 117 3 65 [some (.ref 0), some (.int x1), some (.int x2)] [] 0 none K)) : mj_Cm 117 3 [.ref 0, .int x1, .int x2] M K := mj_en rfl rfl rfl (t117_0 h)

theorem t117_65 {M : mj_M} {K : mj_K} {x1 : Int32} {x2 : Int32} (h : K 0 0 M) : mj_W 1 117 3 65 [some (.ref 0), some (.int x1), some (.int x2)] [] M 0 K := by
  refine b117_65 ?_
  exact h

theorem t118_0 {M : mj_M} {K : mj_K} {x1 : Int32} {x2 : Int32} {x3 : Int32} {x4 : Int32} {x5 : Int32} (h : vp_in (8 * M 1 1240 + 2) 1242 ∧ ((x3 = 0 → vp_in (8 * M 1 1240 + 3) 1242 ∧ vp_in (8 * M 1 1240 + 4) 1242 ∧ ((x4 = 0 → vp_in (8 * M 1 1240 + 5) 1242 ∧ (vp_in (5 * x2 + 1114) 1242 ∧ ((¬ (mj_u (mj_u (mj_u (mj_u M 1 ((8 * M 1 1240 + 2).toNatClampNeg) x2) 1 ((8 * M 1 1240 + 3).toNatClampNeg) 0) 1 ((8 * M 1 1240 + 4).toNatClampNeg) x5) 1 ((8 * M 1 1240 + 5).toNatClampNeg) 0) 1 ((5 * x2 + 1114).toNatClampNeg) = 2 → vp_in (8 * M 1 1240 + 6) 1242 ∧ mj_Cm 117 3 [.ref 0, .int ((mj_u (mj_u (mj_u (mj_u (mj_u (mj_u M 1 ((8 * M 1 1240 + 2).toNatClampNeg) x2) 1 ((8 * M 1 1240 + 3).toNatClampNeg) 0) 1 ((8 * M 1 1240 + 4).toNatClampNeg) x5) 1 ((8 * M 1 1240 + 5).toNatClampNeg) 0) 1 ((8 * M 1 1240 + 6).toNatClampNeg) 0) 1 1240 ((mj_u (mj_u (mj_u (mj_u (mj_u M 1 ((8 * M 1 1240 + 2).toNatClampNeg) x2) 1 ((8 * M 1 1240 + 3).toNatClampNeg) 0) 1 ((8 * M 1 1240 + 4).toNatClampNeg) x5) 1 ((8 * M 1 1240 + 5).toNatClampNeg) 0) 1 ((8 * M 1 1240 + 6).toNatClampNeg) 0) 1 1240 + 1)) 1 1240 - 1), .int x1] (mj_u (mj_u (mj_u (mj_u (mj_u (mj_u M 1 ((8 * M 1 1240 + 2).toNatClampNeg) x2) 1 ((8 * M 1 1240 + 3).toNatClampNeg) 0) 1 ((8 * M 1 1240 + 4).toNatClampNeg) x5) 1 ((8 * M 1 1240 + 5).toNatClampNeg) 0) 1 ((8 * M 1 1240 + 6).toNatClampNeg) 0) 1 1240 ((mj_u (mj_u (mj_u (mj_u (mj_u M 1 ((8 * M 1 1240 + 2).toNatClampNeg) x2) 1 ((8 * M 1 1240 + 3).toNatClampNeg) 0) 1 ((8 * M 1 1240 + 4).toNatClampNeg) x5) 1 ((8 * M 1 1240 + 5).toNatClampNeg) 0) 1 ((8 * M 1 1240 + 6).toNatClampNeg) 0) 1 1240 + 1)) (mj_k 1 118 4 136 [some (.ref 0), some (.int x1), some (.int x2), some (.int x3), some (.int x4), some (.int x5), some (.int (8 * M 1 1240))] [] 0 none K)) ∧ ((mj_u (mj_u (mj_u (mj_u M 1 ((8 * M 1 1240 + 2).toNatClampNeg) x2) 1 ((8 * M 1 1240 + 3).toNatClampNeg) 0) 1 ((8 * M 1 1240 + 4).toNatClampNeg) x5) 1 ((8 * M 1 1240 + 5).toNatClampNeg) 0) 1 ((5 * x2 + 1114).toNatClampNeg) = 2 → (¬ (mj_u (mj_u (mj_u (mj_u M 1 ((8 * M 1 1240 + 2).toNatClampNeg) x2) 1 ((8 * M 1 1240 + 3).toNatClampNeg) 0) 1 ((8 * M 1 1240 + 4).toNatClampNeg) x5) 1 ((8 * M 1 1240 + 5).toNatClampNeg) 0) 1 1237 = 0 → vp_in (8 * M 1 1240 + 6) 1242 ∧ mj_Cm 117 3 [.ref 0, .int ((mj_u (mj_u (mj_u (mj_u (mj_u (mj_u M 1 ((8 * M 1 1240 + 2).toNatClampNeg) x2) 1 ((8 * M 1 1240 + 3).toNatClampNeg) 0) 1 ((8 * M 1 1240 + 4).toNatClampNeg) x5) 1 ((8 * M 1 1240 + 5).toNatClampNeg) 0) 1 ((8 * M 1 1240 + 6).toNatClampNeg) 0) 1 1240 ((mj_u (mj_u (mj_u (mj_u (mj_u M 1 ((8 * M 1 1240 + 2).toNatClampNeg) x2) 1 ((8 * M 1 1240 + 3).toNatClampNeg) 0) 1 ((8 * M 1 1240 + 4).toNatClampNeg) x5) 1 ((8 * M 1 1240 + 5).toNatClampNeg) 0) 1 ((8 * M 1 1240 + 6).toNatClampNeg) 0) 1 1240 + 1)) 1 1240 - 1), .int x1] (mj_u (mj_u (mj_u (mj_u (mj_u (mj_u M 1 ((8 * M 1 1240 + 2).toNatClampNeg) x2) 1 ((8 * M 1 1240 + 3).toNatClampNeg) 0) 1 ((8 * M 1 1240 + 4).toNatClampNeg) x5) 1 ((8 * M 1 1240 + 5).toNatClampNeg) 0) 1 ((8 * M 1 1240 + 6).toNatClampNeg) 0) 1 1240 ((mj_u (mj_u (mj_u (mj_u (mj_u M 1 ((8 * M 1 1240 + 2).toNatClampNeg) x2) 1 ((8 * M 1 1240 + 3).toNatClampNeg) 0) 1 ((8 * M 1 1240 + 4).toNatClampNeg) x5) 1 ((8 * M 1 1240 + 5).toNatClampNeg) 0) 1 ((8 * M 1 1240 + 6).toNatClampNeg) 0) 1 1240 + 1)) (mj_k 1 118 4 136 [some (.ref 0), some (.int x1), some (.int x2), some (.int x3), some (.int x4), some (.int x5), some (.int (8 * M 1 1240))] [] 0 none K)) ∧ ((mj_u (mj_u (mj_u (mj_u M 1 ((8 * M 1 1240 + 2).toNatClampNeg) x2) 1 ((8 * M 1 1240 + 3).toNatClampNeg) 0) 1 ((8 * M 1 1240 + 4).toNatClampNeg) x5) 1 ((8 * M 1 1240 + 5).toNatClampNeg) 0) 1 1237 = 0 → vp_in (8 * M 1 1240 + 6) 1242 ∧ mj_Cm 117 3 [.ref 0, .int ((mj_u (mj_u (mj_u (mj_u (mj_u (mj_u M 1 ((8 * M 1 1240 + 2).toNatClampNeg) x2) 1 ((8 * M 1 1240 + 3).toNatClampNeg) 0) 1 ((8 * M 1 1240 + 4).toNatClampNeg) x5) 1 ((8 * M 1 1240 + 5).toNatClampNeg) 0) 1 ((8 * M 1 1240 + 6).toNatClampNeg) 1) 1 1240 ((mj_u (mj_u (mj_u (mj_u (mj_u M 1 ((8 * M 1 1240 + 2).toNatClampNeg) x2) 1 ((8 * M 1 1240 + 3).toNatClampNeg) 0) 1 ((8 * M 1 1240 + 4).toNatClampNeg) x5) 1 ((8 * M 1 1240 + 5).toNatClampNeg) 0) 1 ((8 * M 1 1240 + 6).toNatClampNeg) 1) 1 1240 + 1)) 1 1240 - 1), .int x1] (mj_u (mj_u (mj_u (mj_u (mj_u (mj_u M 1 ((8 * M 1 1240 + 2).toNatClampNeg) x2) 1 ((8 * M 1 1240 + 3).toNatClampNeg) 0) 1 ((8 * M 1 1240 + 4).toNatClampNeg) x5) 1 ((8 * M 1 1240 + 5).toNatClampNeg) 0) 1 ((8 * M 1 1240 + 6).toNatClampNeg) 1) 1 1240 ((mj_u (mj_u (mj_u (mj_u (mj_u M 1 ((8 * M 1 1240 + 2).toNatClampNeg) x2) 1 ((8 * M 1 1240 + 3).toNatClampNeg) 0) 1 ((8 * M 1 1240 + 4).toNatClampNeg) x5) 1 ((8 * M 1 1240 + 5).toNatClampNeg) 0) 1 ((8 * M 1 1240 + 6).toNatClampNeg) 1) 1 1240 + 1)) (mj_k 1 118 4 136 [some (.ref 0), some (.int x1), some (.int x2), some (.int x3), some (.int x4), some (.int x5), some (.int (8 * M 1 1240))] [] 0 none K)))))) ∧ (¬ x4 = 0 → vp_in (8 * M 1 1240 + 5) 1242 ∧ (vp_in (5 * x2 + 1114) 1242 ∧ ((¬ (mj_u (mj_u (mj_u (mj_u M 1 ((8 * M 1 1240 + 2).toNatClampNeg) x2) 1 ((8 * M 1 1240 + 3).toNatClampNeg) 0) 1 ((8 * M 1 1240 + 4).toNatClampNeg) x5) 1 ((8 * M 1 1240 + 5).toNatClampNeg) 1) 1 ((5 * x2 + 1114).toNatClampNeg) = 2 → vp_in (8 * M 1 1240 + 6) 1242 ∧ mj_Cm 117 3 [.ref 0, .int ((mj_u (mj_u (mj_u (mj_u (mj_u (mj_u M 1 ((8 * M 1 1240 + 2).toNatClampNeg) x2) 1 ((8 * M 1 1240 + 3).toNatClampNeg) 0) 1 ((8 * M 1 1240 + 4).toNatClampNeg) x5) 1 ((8 * M 1 1240 + 5).toNatClampNeg) 1) 1 ((8 * M 1 1240 + 6).toNatClampNeg) 0) 1 1240 ((mj_u (mj_u (mj_u (mj_u (mj_u M 1 ((8 * M 1 1240 + 2).toNatClampNeg) x2) 1 ((8 * M 1 1240 + 3).toNatClampNeg) 0) 1 ((8 * M 1 1240 + 4).toNatClampNeg) x5) 1 ((8 * M 1 1240 + 5).toNatClampNeg) 1) 1 ((8 * M 1 1240 + 6).toNatClampNeg) 0) 1 1240 + 1)) 1 1240 - 1), .int x1] (mj_u (mj_u (mj_u (mj_u (mj_u (mj_u M 1 ((8 * M 1 1240 + 2).toNatClampNeg) x2) 1 ((8 * M 1 1240 + 3).toNatClampNeg) 0) 1 ((8 * M 1 1240 + 4).toNatClampNeg) x5) 1 ((8 * M 1 1240 + 5).toNatClampNeg) 1) 1 ((8 * M 1 1240 + 6).toNatClampNeg) 0) 1 1240 ((mj_u (mj_u (mj_u (mj_u (mj_u M 1 ((8 * M 1 1240 + 2).toNatClampNeg) x2) 1 ((8 * M 1 1240 + 3).toNatClampNeg) 0) 1 ((8 * M 1 1240 + 4).toNatClampNeg) x5) 1 ((8 * M 1 1240 + 5).toNatClampNeg) 1) 1 ((8 * M 1 1240 + 6).toNatClampNeg) 0) 1 1240 + 1)) (mj_k 1 118 4 136 [some (.ref 0), some (.int x1), some (.int x2), some (.int x3), some (.int x4), some (.int x5), some (.int (8 * M 1 1240))] [] 0 none K)) ∧ ((mj_u (mj_u (mj_u (mj_u M 1 ((8 * M 1 1240 + 2).toNatClampNeg) x2) 1 ((8 * M 1 1240 + 3).toNatClampNeg) 0) 1 ((8 * M 1 1240 + 4).toNatClampNeg) x5) 1 ((8 * M 1 1240 + 5).toNatClampNeg) 1) 1 ((5 * x2 + 1114).toNatClampNeg) = 2 → (¬ (mj_u (mj_u (mj_u (mj_u M 1 ((8 * M 1 1240 + 2).toNatClampNeg) x2) 1 ((8 * M 1 1240 + 3).toNatClampNeg) 0) 1 ((8 * M 1 1240 + 4).toNatClampNeg) x5) 1 ((8 * M 1 1240 + 5).toNatClampNeg) 1) 1 1237 = 0 → vp_in (8 * M 1 1240 + 6) 1242 ∧ mj_Cm 117 3 [.ref 0, .int ((mj_u (mj_u (mj_u (mj_u (mj_u (mj_u M 1 ((8 * M 1 1240 + 2).toNatClampNeg) x2) 1 ((8 * M 1 1240 + 3).toNatClampNeg) 0) 1 ((8 * M 1 1240 + 4).toNatClampNeg) x5) 1 ((8 * M 1 1240 + 5).toNatClampNeg) 1) 1 ((8 * M 1 1240 + 6).toNatClampNeg) 0) 1 1240 ((mj_u (mj_u (mj_u (mj_u (mj_u M 1 ((8 * M 1 1240 + 2).toNatClampNeg) x2) 1 ((8 * M 1 1240 + 3).toNatClampNeg) 0) 1 ((8 * M 1 1240 + 4).toNatClampNeg) x5) 1 ((8 * M 1 1240 + 5).toNatClampNeg) 1) 1 ((8 * M 1 1240 + 6).toNatClampNeg) 0) 1 1240 + 1)) 1 1240 - 1), .int x1] (mj_u (mj_u (mj_u (mj_u (mj_u (mj_u M 1 ((8 * M 1 1240 + 2).toNatClampNeg) x2) 1 ((8 * M 1 1240 + 3).toNatClampNeg) 0) 1 ((8 * M 1 1240 + 4).toNatClampNeg) x5) 1 ((8 * M 1 1240 + 5).toNatClampNeg) 1) 1 ((8 * M 1 1240 + 6).toNatClampNeg) 0) 1 1240 ((mj_u (mj_u (mj_u (mj_u (mj_u M 1 ((8 * M 1 1240 + 2).toNatClampNeg) x2) 1 ((8 * M 1 1240 + 3).toNatClampNeg) 0) 1 ((8 * M 1 1240 + 4).toNatClampNeg) x5) 1 ((8 * M 1 1240 + 5).toNatClampNeg) 1) 1 ((8 * M 1 1240 + 6).toNatClampNeg) 0) 1 1240 + 1)) (mj_k 1 118 4 136 [some (.ref 0), some (.int x1), some (.int x2), some (.int x3), some (.int x4), some (.int x5), some (.int (8 * M 1 1240))] [] 0 none K)) ∧ ((mj_u (mj_u (mj_u (mj_u M 1 ((8 * M 1 1240 + 2).toNatClampNeg) x2) 1 ((8 * M 1 1240 + 3).toNatClampNeg) 0) 1 ((8 * M 1 1240 + 4).toNatClampNeg) x5) 1 ((8 * M 1 1240 + 5).toNatClampNeg) 1) 1 1237 = 0 → vp_in (8 * M 1 1240 + 6) 1242 ∧ mj_Cm 117 3 [.ref 0, .int ((mj_u (mj_u (mj_u (mj_u (mj_u (mj_u M 1 ((8 * M 1 1240 + 2).toNatClampNeg) x2) 1 ((8 * M 1 1240 + 3).toNatClampNeg) 0) 1 ((8 * M 1 1240 + 4).toNatClampNeg) x5) 1 ((8 * M 1 1240 + 5).toNatClampNeg) 1) 1 ((8 * M 1 1240 + 6).toNatClampNeg) 1) 1 1240 ((mj_u (mj_u (mj_u (mj_u (mj_u M 1 ((8 * M 1 1240 + 2).toNatClampNeg) x2) 1 ((8 * M 1 1240 + 3).toNatClampNeg) 0) 1 ((8 * M 1 1240 + 4).toNatClampNeg) x5) 1 ((8 * M 1 1240 + 5).toNatClampNeg) 1) 1 ((8 * M 1 1240 + 6).toNatClampNeg) 1) 1 1240 + 1)) 1 1240 - 1), .int x1] (mj_u (mj_u (mj_u (mj_u (mj_u (mj_u M 1 ((8 * M 1 1240 + 2).toNatClampNeg) x2) 1 ((8 * M 1 1240 + 3).toNatClampNeg) 0) 1 ((8 * M 1 1240 + 4).toNatClampNeg) x5) 1 ((8 * M 1 1240 + 5).toNatClampNeg) 1) 1 ((8 * M 1 1240 + 6).toNatClampNeg) 1) 1 1240 ((mj_u (mj_u (mj_u (mj_u (mj_u M 1 ((8 * M 1 1240 + 2).toNatClampNeg) x2) 1 ((8 * M 1 1240 + 3).toNatClampNeg) 0) 1 ((8 * M 1 1240 + 4).toNatClampNeg) x5) 1 ((8 * M 1 1240 + 5).toNatClampNeg) 1) 1 ((8 * M 1 1240 + 6).toNatClampNeg) 1) 1 1240 + 1)) (mj_k 1 118 4 136 [some (.ref 0), some (.int x1), some (.int x2), some (.int x3), some (.int x4), some (.int x5), some (.int (8 * M 1 1240))] [] 0 none K)))))))) ∧ (¬ x3 = 0 → vp_in (8 * M 1 1240 + 3) 1242 ∧ vp_in (8 * M 1 1240 + 4) 1242 ∧ ((x4 = 0 → vp_in (8 * M 1 1240 + 5) 1242 ∧ (vp_in (5 * x2 + 1114) 1242 ∧ ((¬ (mj_u (mj_u (mj_u (mj_u M 1 ((8 * M 1 1240 + 2).toNatClampNeg) x2) 1 ((8 * M 1 1240 + 3).toNatClampNeg) 1) 1 ((8 * M 1 1240 + 4).toNatClampNeg) x5) 1 ((8 * M 1 1240 + 5).toNatClampNeg) 0) 1 ((5 * x2 + 1114).toNatClampNeg) = 2 → vp_in (8 * M 1 1240 + 6) 1242 ∧ mj_Cm 117 3 [.ref 0, .int ((mj_u (mj_u (mj_u (mj_u (mj_u (mj_u M 1 ((8 * M 1 1240 + 2).toNatClampNeg) x2) 1 ((8 * M 1 1240 + 3).toNatClampNeg) 1) 1 ((8 * M 1 1240 + 4).toNatClampNeg) x5) 1 ((8 * M 1 1240 + 5).toNatClampNeg) 0) 1 ((8 * M 1 1240 + 6).toNatClampNeg) 0) 1 1240 ((mj_u (mj_u (mj_u (mj_u (mj_u M 1 ((8 * M 1 1240 + 2).toNatClampNeg) x2) 1 ((8 * M 1 1240 + 3).toNatClampNeg) 1) 1 ((8 * M 1 1240 + 4).toNatClampNeg) x5) 1 ((8 * M 1 1240 + 5).toNatClampNeg) 0) 1 ((8 * M 1 1240 + 6).toNatClampNeg) 0) 1 1240 + 1)) 1 1240 - 1), .int x1] (mj_u (mj_u (mj_u (mj_u (mj_u (mj_u M 1 ((8 * M 1 1240 + 2).toNatClampNeg) x2) 1 ((8 * M 1 1240 + 3).toNatClampNeg) 1) 1 ((8 * M 1 1240 + 4).toNatClampNeg) x5) 1 ((8 * M 1 1240 + 5).toNatClampNeg) 0) 1 ((8 * M 1 1240 + 6).toNatClampNeg) 0) 1 1240 ((mj_u (mj_u (mj_u (mj_u (mj_u M 1 ((8 * M 1 1240 + 2).toNatClampNeg) x2) 1 ((8 * M 1 1240 + 3).toNatClampNeg) 1) 1 ((8 * M 1 1240 + 4).toNatClampNeg) x5) 1 ((8 * M 1 1240 + 5).toNatClampNeg) 0) 1 ((8 * M 1 1240 + 6).toNatClampNeg) 0) 1 1240 + 1)) (mj_k 1 118 4 136 [some (.ref 0), some (.int x1), some (.int x2), some (.int x3), some (.int x4), some (.int x5), some (.int (8 * M 1 1240))] [] 0 none K)) ∧ ((mj_u (mj_u (mj_u (mj_u M 1 ((8 * M 1 1240 + 2).toNatClampNeg) x2) 1 ((8 * M 1 1240 + 3).toNatClampNeg) 1) 1 ((8 * M 1 1240 + 4).toNatClampNeg) x5) 1 ((8 * M 1 1240 + 5).toNatClampNeg) 0) 1 ((5 * x2 + 1114).toNatClampNeg) = 2 → (¬ (mj_u (mj_u (mj_u (mj_u M 1 ((8 * M 1 1240 + 2).toNatClampNeg) x2) 1 ((8 * M 1 1240 + 3).toNatClampNeg) 1) 1 ((8 * M 1 1240 + 4).toNatClampNeg) x5) 1 ((8 * M 1 1240 + 5).toNatClampNeg) 0) 1 1237 = 0 → vp_in (8 * M 1 1240 + 6) 1242 ∧ mj_Cm 117 3 [.ref 0, .int ((mj_u (mj_u (mj_u (mj_u (mj_u (mj_u M 1 ((8 * M 1 1240 + 2).toNatClampNeg) x2) 1 ((8 * M 1 1240 + 3).toNatClampNeg) 1) 1 ((8 * M 1 1240 + 4).toNatClampNeg) x5) 1 ((8 * M 1 1240 + 5).toNatClampNeg) 0) 1 ((8 * M 1 1240 + 6).toNatClampNeg) 0) 1 1240 ((mj_u (mj_u (mj_u (mj_u (mj_u M 1 ((8 * M 1 1240 + 2).toNatClampNeg) x2) 1 ((8 * M 1 1240 + 3).toNatClampNeg) 1) 1 ((8 * M 1 1240 + 4).toNatClampNeg) x5) 1 ((8 * M 1 1240 + 5).toNatClampNeg) 0) 1 ((8 * M 1 1240 + 6).toNatClampNeg) 0) 1 1240 + 1)) 1 1240 - 1), .int x1] (mj_u (mj_u (mj_u (mj_u (mj_u (mj_u M 1 ((8 * M 1 1240 + 2).toNatClampNeg) x2) 1 ((8 * M 1 1240 + 3).toNatClampNeg) 1) 1 ((8 * M 1 1240 + 4).toNatClampNeg) x5) 1 ((8 * M 1 1240 + 5).toNatClampNeg) 0) 1 ((8 * M 1 1240 + 6).toNatClampNeg) 0) 1 1240 ((mj_u (mj_u (mj_u (mj_u (mj_u M 1 ((8 * M 1 1240 + 2).toNatClampNeg) x2) 1 ((8 * M 1 1240 + 3).toNatClampNeg) 1) 1 ((8 * M 1 1240 + 4).toNatClampNeg) x5) 1 ((8 * M 1 1240 + 5).toNatClampNeg) 0) 1 ((8 * M 1 1240 + 6).toNatClampNeg) 0) 1 1240 + 1)) (mj_k 1 118 4 136 [some (.ref 0), some (.int x1), some (.int x2), some (.int x3), some (.int x4), some (.int x5), some (.int (8 * M 1 1240))] [] 0 none K)) ∧ ((mj_u (mj_u (mj_u (mj_u M 1 ((8 * M 1 1240 + 2).toNatClampNeg) x2) 1 ((8 * M 1 1240 + 3).toNatClampNeg) 1) 1 ((8 * M 1 1240 + 4).toNatClampNeg) x5) 1 ((8 * M 1 1240 + 5).toNatClampNeg) 0) 1 1237 = 0 → vp_in (8 * M 1 1240 + 6) 1242 ∧ mj_Cm 117 3 [.ref 0, .int ((mj_u (mj_u (mj_u (mj_u (mj_u (mj_u M 1 ((8 * M 1 1240 + 2).toNatClampNeg) x2) 1 ((8 * M 1 1240 + 3).toNatClampNeg) 1) 1 ((8 * M 1 1240 + 4).toNatClampNeg) x5) 1 ((8 * M 1 1240 + 5).toNatClampNeg) 0) 1 ((8 * M 1 1240 + 6).toNatClampNeg) 1) 1 1240 ((mj_u (mj_u (mj_u (mj_u (mj_u M 1 ((8 * M 1 1240 + 2).toNatClampNeg) x2) 1 ((8 * M 1 1240 + 3).toNatClampNeg) 1) 1 ((8 * M 1 1240 + 4).toNatClampNeg) x5) 1 ((8 * M 1 1240 + 5).toNatClampNeg) 0) 1 ((8 * M 1 1240 + 6).toNatClampNeg) 1) 1 1240 + 1)) 1 1240 - 1), .int x1] (mj_u (mj_u (mj_u (mj_u (mj_u (mj_u M 1 ((8 * M 1 1240 + 2).toNatClampNeg) x2) 1 ((8 * M 1 1240 + 3).toNatClampNeg) 1) 1 ((8 * M 1 1240 + 4).toNatClampNeg) x5) 1 ((8 * M 1 1240 + 5).toNatClampNeg) 0) 1 ((8 * M 1 1240 + 6).toNatClampNeg) 1) 1 1240 ((mj_u (mj_u (mj_u (mj_u (mj_u M 1 ((8 * M 1 1240 + 2).toNatClampNeg) x2) 1 ((8 * M 1 1240 + 3).toNatClampNeg) 1) 1 ((8 * M 1 1240 + 4).toNatClampNeg) x5) 1 ((8 * M 1 1240 + 5).toNatClampNeg) 0) 1 ((8 * M 1 1240 + 6).toNatClampNeg) 1) 1 1240 + 1)) (mj_k 1 118 4 136 [some (.ref 0), some (.int x1), some (.int x2), some (.int x3), some (.int x4), some (.int x5), some (.int (8 * M 1 1240))] [] 0 none K)))))) ∧ (¬ x4 = 0 → vp_in (8 * M 1 1240 + 5) 1242 ∧ (vp_in (5 * x2 + 1114) 1242 ∧ ((¬ (mj_u (mj_u (mj_u (mj_u M 1 ((8 * M 1 1240 + 2).toNatClampNeg) x2) 1 ((8 * M 1 1240 + 3).toNatClampNeg) 1) 1 ((8 * M 1 1240 + 4).toNatClampNeg) x5) 1 ((8 * M 1 1240 + 5).toNatClampNeg) 1) 1 ((5 * x2 + 1114).toNatClampNeg) = 2 → vp_in (8 * M 1 1240 + 6) 1242 ∧ mj_Cm 117 3 [.ref 0, .int ((mj_u (mj_u (mj_u (mj_u (mj_u (mj_u M 1 ((8 * M 1 1240 + 2).toNatClampNeg) x2) 1 ((8 * M 1 1240 + 3).toNatClampNeg) 1) 1 ((8 * M 1 1240 + 4).toNatClampNeg) x5) 1 ((8 * M 1 1240 + 5).toNatClampNeg) 1) 1 ((8 * M 1 1240 + 6).toNatClampNeg) 0) 1 1240 ((mj_u (mj_u (mj_u (mj_u (mj_u M 1 ((8 * M 1 1240 + 2).toNatClampNeg) x2) 1 ((8 * M 1 1240 + 3).toNatClampNeg) 1) 1 ((8 * M 1 1240 + 4).toNatClampNeg) x5) 1 ((8 * M 1 1240 + 5).toNatClampNeg) 1) 1 ((8 * M 1 1240 + 6).toNatClampNeg) 0) 1 1240 + 1)) 1 1240 - 1), .int x1] (mj_u (mj_u (mj_u (mj_u (mj_u (mj_u M 1 ((8 * M 1 1240 + 2).toNatClampNeg) x2) 1 ((8 * M 1 1240 + 3).toNatClampNeg) 1) 1 ((8 * M 1 1240 + 4).toNatClampNeg) x5) 1 ((8 * M 1 1240 + 5).toNatClampNeg) 1) 1 ((8 * M 1 1240 + 6).toNatClampNeg) 0) 1 1240 ((mj_u (mj_u (mj_u (mj_u (mj_u M 1 ((8 * M 1 1240 + 2).toNatClampNeg) x2) 1 ((8 * M 1 1240 + 3).toNatClampNeg) 1) 1 ((8 * M 1 1240 + 4).toNatClampNeg) x5) 1 ((8 * M 1 1240 + 5).toNatClampNeg) 1) 1 ((8 * M 1 1240 + 6).toNatClampNeg) 0) 1 1240 + 1)) (mj_k 1 118 4 136 [some (.ref 0), some (.int x1), some (.int x2), some (.int x3), some (.int x4), some (.int x5), some (.int (8 * M 1 1240))] [] 0 none K)) ∧ ((mj_u (mj_u (mj_u (mj_u M 1 ((8 * M 1 1240 + 2).toNatClampNeg) x2) 1 ((8 * M 1 1240 + 3).toNatClampNeg) 1) 1 ((8 * M 1 1240 + 4).toNatClampNeg) x5) 1 ((8 * M 1 1240 + 5).toNatClampNeg) 1) 1 ((5 * x2 + 1114).toNatClampNeg) = 2 → (¬ (mj_u (mj_u (mj_u (mj_u M 1 ((8 * M 1 1240 + 2).toNatClampNeg) x2) 1 ((8 * M 1 1240 + 3).toNatClampNeg) 1) 1 ((8 * M 1 1240 + 4).toNatClampNeg) x5) 1 ((8 * M 1 1240 + 5).toNatClampNeg) 1) 1 1237 = 0 → vp_in (8 * M 1 1240 + 6) 1242 ∧ mj_Cm 117 3 [.ref 0, .int ((mj_u (mj_u (mj_u (mj_u (mj_u (mj_u M 1 ((8 * M 1 1240 + 2).toNatClampNeg) x2) 1 ((8 * M 1 1240 + 3).toNatClampNeg) 1) 1 ((8 * M 1 1240 + 4).toNatClampNeg) x5) 1 ((8 * M 1 1240 + 5).toNatClampNeg) 1) 1 ((8 * M 1 1240 + 6).toNatClampNeg) 0) 1 1240 ((mj_u (mj_u (mj_u (mj_u (mj_u M 1 ((8 * M 1 1240 + 2).toNatClampNeg) x2) 1 ((8 * M 1 1240 + 3).toNatClampNeg) 1) 1 ((8 * M 1 1240 + 4).toNatClampNeg) x5) 1 ((8 * M 1 1240 + 5).toNatClampNeg) 1) 1 ((8 * M 1 1240 + 6).toNatClampNeg) 0) 1 1240 + 1)) 1 1240 - 1), .int x1] (mj_u (mj_u (mj_u (mj_u (mj_u (mj_u M 1 ((8 * M 1 1240 + 2).toNatClampNeg) x2) 1 ((8 * M 1 1240 + 3).toNatClampNeg) 1) 1 ((8 * M 1 1240 + 4).toNatClampNeg) x5) 1 ((8 * M 1 1240 + 5).toNatClampNeg) 1) 1 ((8 * M 1 1240 + 6).toNatClampNeg) 0) 1 1240 ((mj_u (mj_u (mj_u (mj_u (mj_u M 1 ((8 * M 1 1240 + 2).toNatClampNeg) x2) 1 ((8 * M 1 1240 + 3).toNatClampNeg) 1) 1 ((8 * M 1 1240 + 4).toNatClampNeg) x5) 1 ((8 * M 1 1240 + 5).toNatClampNeg) 1) 1 ((8 * M 1 1240 + 6).toNatClampNeg) 0) 1 1240 + 1)) (mj_k 1 118 4 136 [some (.ref 0), some (.int x1), some (.int x2), some (.int x3), some (.int x4), some (.int x5), some (.int (8 * M 1 1240))] [] 0 none K)) ∧ ((mj_u (mj_u (mj_u (mj_u M 1 ((8 * M 1 1240 + 2).toNatClampNeg) x2) 1 ((8 * M 1 1240 + 3).toNatClampNeg) 1) 1 ((8 * M 1 1240 + 4).toNatClampNeg) x5) 1 ((8 * M 1 1240 + 5).toNatClampNeg) 1) 1 1237 = 0 → vp_in (8 * M 1 1240 + 6) 1242 ∧ mj_Cm 117 3 [.ref 0, .int ((mj_u (mj_u (mj_u (mj_u (mj_u (mj_u M 1 ((8 * M 1 1240 + 2).toNatClampNeg) x2) 1 ((8 * M 1 1240 + 3).toNatClampNeg) 1) 1 ((8 * M 1 1240 + 4).toNatClampNeg) x5) 1 ((8 * M 1 1240 + 5).toNatClampNeg) 1) 1 ((8 * M 1 1240 + 6).toNatClampNeg) 1) 1 1240 ((mj_u (mj_u (mj_u (mj_u (mj_u M 1 ((8 * M 1 1240 + 2).toNatClampNeg) x2) 1 ((8 * M 1 1240 + 3).toNatClampNeg) 1) 1 ((8 * M 1 1240 + 4).toNatClampNeg) x5) 1 ((8 * M 1 1240 + 5).toNatClampNeg) 1) 1 ((8 * M 1 1240 + 6).toNatClampNeg) 1) 1 1240 + 1)) 1 1240 - 1), .int x1] (mj_u (mj_u (mj_u (mj_u (mj_u (mj_u M 1 ((8 * M 1 1240 + 2).toNatClampNeg) x2) 1 ((8 * M 1 1240 + 3).toNatClampNeg) 1) 1 ((8 * M 1 1240 + 4).toNatClampNeg) x5) 1 ((8 * M 1 1240 + 5).toNatClampNeg) 1) 1 ((8 * M 1 1240 + 6).toNatClampNeg) 1) 1 1240 ((mj_u (mj_u (mj_u (mj_u (mj_u M 1 ((8 * M 1 1240 + 2).toNatClampNeg) x2) 1 ((8 * M 1 1240 + 3).toNatClampNeg) 1) 1 ((8 * M 1 1240 + 4).toNatClampNeg) x5) 1 ((8 * M 1 1240 + 5).toNatClampNeg) 1) 1 ((8 * M 1 1240 + 6).toNatClampNeg) 1) 1 1240 + 1)) (mj_k 1 118 4 136 [some (.ref 0), some (.int x1), some (.int x2), some (.int x3), some (.int x4), some (.int x5), some (.int (8 * M 1 1240))] [] 0 none K)))))))))) : mj_W 1 118 4 0 [some (.ref 0), some (.int x1), some (.int x2), some (.int x3), some (.int x4), some (.int x5), none] [] M 0 K := by
  refine b118_0 ?_
  have g1 := h.1
  refine ⟨g1, ?_⟩
  have h1 := h.2
  refine ⟨fun c2 => ?_, fun c2 => ?_⟩
  · have h2a := h1.1 c2
    refine b118_39 ?_
    refine b118_40 ?_
    have g3 := h2a.1
    refine ⟨g3, ?_⟩
    have h3 := h2a.2
    have g4 := h3.1
    refine ⟨g4, ?_⟩
    have h4 := h3.2
    refine ⟨fun c5 => ?_, fun c5 => ?_⟩
    · have h5a := h4.1 c5
      refine b118_69 ?_
      refine b118_70 ?_
      have g6 := h5a.1
      refine ⟨g6, ?_⟩
      have h6 := h5a.2
      have h7 := h6.1
      have h8 := h6.2
      refine sp98 h7 ?_
      refine b118_88 ?_
      refine ⟨fun c9 => ?_, fun c9 => ?_⟩
      · have h9a := h8.1 c9
        refine b118_107 ?_
        refine b118_108 ?_
        have g10 := h9a.1
        refine ⟨g10, ?_⟩
        have h10 := h9a.2
        exact h10
      · have h9a := h8.2 c9
        refine b118_92 ?_
        refine ⟨fun c11 => ?_, fun c11 => ?_⟩
        · have h11a := h9a.1 c11
          refine b118_107 ?_
          refine b118_108 ?_
          have g12 := h11a.1
          refine ⟨g12, ?_⟩
          have h12 := h11a.2
          exact h12
        · have h11a := h9a.2 c11
          refine b118_103 ?_
          refine b118_108 ?_
          have g13 := h11a.1
          refine ⟨g13, ?_⟩
          have h13 := h11a.2
          exact h13
    · have h5a := h4.2 c5
      refine b118_65 ?_
      refine b118_70 ?_
      have g14 := h5a.1
      refine ⟨g14, ?_⟩
      have h14 := h5a.2
      have h15 := h14.1
      have h16 := h14.2
      refine sp98 h15 ?_
      refine b118_88 ?_
      refine ⟨fun c17 => ?_, fun c17 => ?_⟩
      · have h17a := h16.1 c17
        refine b118_107 ?_
        refine b118_108 ?_
        have g18 := h17a.1
        refine ⟨g18, ?_⟩
        have h18 := h17a.2
        exact h18
      · have h17a := h16.2 c17
        refine b118_92 ?_
        refine ⟨fun c19 => ?_, fun c19 => ?_⟩
        · have h19a := h17a.1 c19
          refine b118_107 ?_
          refine b118_108 ?_
          have g20 := h19a.1
          refine ⟨g20, ?_⟩
          have h20 := h19a.2
          exact h20
        · have h19a := h17a.2 c19
          refine b118_103 ?_
          refine b118_108 ?_
          have g21 := h19a.1
          refine ⟨g21, ?_⟩
          have h21 := h19a.2
          exact h21
  · have h2a := h1.2 c2
    refine b118_35 ?_
    refine b118_40 ?_
    have g22 := h2a.1
    refine ⟨g22, ?_⟩
    have h22 := h2a.2
    have g23 := h22.1
    refine ⟨g23, ?_⟩
    have h23 := h22.2
    refine ⟨fun c24 => ?_, fun c24 => ?_⟩
    · have h24a := h23.1 c24
      refine b118_69 ?_
      refine b118_70 ?_
      have g25 := h24a.1
      refine ⟨g25, ?_⟩
      have h25 := h24a.2
      have h26 := h25.1
      have h27 := h25.2
      refine sp98 h26 ?_
      refine b118_88 ?_
      refine ⟨fun c28 => ?_, fun c28 => ?_⟩
      · have h28a := h27.1 c28
        refine b118_107 ?_
        refine b118_108 ?_
        have g29 := h28a.1
        refine ⟨g29, ?_⟩
        have h29 := h28a.2
        exact h29
      · have h28a := h27.2 c28
        refine b118_92 ?_
        refine ⟨fun c30 => ?_, fun c30 => ?_⟩
        · have h30a := h28a.1 c30
          refine b118_107 ?_
          refine b118_108 ?_
          have g31 := h30a.1
          refine ⟨g31, ?_⟩
          have h31 := h30a.2
          exact h31
        · have h30a := h28a.2 c30
          refine b118_103 ?_
          refine b118_108 ?_
          have g32 := h30a.1
          refine ⟨g32, ?_⟩
          have h32 := h30a.2
          exact h32
    · have h24a := h23.2 c24
      refine b118_65 ?_
      refine b118_70 ?_
      have g33 := h24a.1
      refine ⟨g33, ?_⟩
      have h33 := h24a.2
      have h34 := h33.1
      have h35 := h33.2
      refine sp98 h34 ?_
      refine b118_88 ?_
      refine ⟨fun c36 => ?_, fun c36 => ?_⟩
      · have h36a := h35.1 c36
        refine b118_107 ?_
        refine b118_108 ?_
        have g37 := h36a.1
        refine ⟨g37, ?_⟩
        have h37 := h36a.2
        exact h37
      · have h36a := h35.2 c36
        refine b118_92 ?_
        refine ⟨fun c38 => ?_, fun c38 => ?_⟩
        · have h38a := h36a.1 c38
          refine b118_107 ?_
          refine b118_108 ?_
          have g39 := h38a.1
          refine ⟨g39, ?_⟩
          have h39 := h38a.2
          exact h39
        · have h38a := h36a.2 c38
          refine b118_103 ?_
          refine b118_108 ?_
          have g40 := h38a.1
          refine ⟨g40, ?_⟩
          have h40 := h38a.2
          exact h40
theorem e118 {M : mj_M} {K : mj_K} {x1 : Int32} {x2 : Int32} {x3 : Int32} {x4 : Int32} {x5 : Int32} (h : vp_in (8 * M 1 1240 + 2) 1242 ∧ ((x3 = 0 → vp_in (8 * M 1 1240 + 3) 1242 ∧ vp_in (8 * M 1 1240 + 4) 1242 ∧ ((x4 = 0 → vp_in (8 * M 1 1240 + 5) 1242 ∧ (vp_in (5 * x2 + 1114) 1242 ∧ ((¬ (mj_u (mj_u (mj_u (mj_u M 1 ((8 * M 1 1240 + 2).toNatClampNeg) x2) 1 ((8 * M 1 1240 + 3).toNatClampNeg) 0) 1 ((8 * M 1 1240 + 4).toNatClampNeg) x5) 1 ((8 * M 1 1240 + 5).toNatClampNeg) 0) 1 ((5 * x2 + 1114).toNatClampNeg) = 2 → vp_in (8 * M 1 1240 + 6) 1242 ∧ mj_Cm 117 3 [.ref 0, .int ((mj_u (mj_u (mj_u (mj_u (mj_u (mj_u M 1 ((8 * M 1 1240 + 2).toNatClampNeg) x2) 1 ((8 * M 1 1240 + 3).toNatClampNeg) 0) 1 ((8 * M 1 1240 + 4).toNatClampNeg) x5) 1 ((8 * M 1 1240 + 5).toNatClampNeg) 0) 1 ((8 * M 1 1240 + 6).toNatClampNeg) 0) 1 1240 ((mj_u (mj_u (mj_u (mj_u (mj_u M 1 ((8 * M 1 1240 + 2).toNatClampNeg) x2) 1 ((8 * M 1 1240 + 3).toNatClampNeg) 0) 1 ((8 * M 1 1240 + 4).toNatClampNeg) x5) 1 ((8 * M 1 1240 + 5).toNatClampNeg) 0) 1 ((8 * M 1 1240 + 6).toNatClampNeg) 0) 1 1240 + 1)) 1 1240 - 1), .int x1] (mj_u (mj_u (mj_u (mj_u (mj_u (mj_u M 1 ((8 * M 1 1240 + 2).toNatClampNeg) x2) 1 ((8 * M 1 1240 + 3).toNatClampNeg) 0) 1 ((8 * M 1 1240 + 4).toNatClampNeg) x5) 1 ((8 * M 1 1240 + 5).toNatClampNeg) 0) 1 ((8 * M 1 1240 + 6).toNatClampNeg) 0) 1 1240 ((mj_u (mj_u (mj_u (mj_u (mj_u M 1 ((8 * M 1 1240 + 2).toNatClampNeg) x2) 1 ((8 * M 1 1240 + 3).toNatClampNeg) 0) 1 ((8 * M 1 1240 + 4).toNatClampNeg) x5) 1 ((8 * M 1 1240 + 5).toNatClampNeg) 0) 1 ((8 * M 1 1240 + 6).toNatClampNeg) 0) 1 1240 + 1)) (mj_k 1 118 4 136 [some (.ref 0), some (.int x1), some (.int x2), some (.int x3), some (.int x4), some (.int x5), some (.int (8 * M 1 1240))] [] 0 none K)) ∧ ((mj_u (mj_u (mj_u (mj_u M 1 ((8 * M 1 1240 + 2).toNatClampNeg) x2) 1 ((8 * M 1 1240 + 3).toNatClampNeg) 0) 1 ((8 * M 1 1240 + 4).toNatClampNeg) x5) 1 ((8 * M 1 1240 + 5).toNatClampNeg) 0) 1 ((5 * x2 + 1114).toNatClampNeg) = 2 → (¬ (mj_u (mj_u (mj_u (mj_u M 1 ((8 * M 1 1240 + 2).toNatClampNeg) x2) 1 ((8 * M 1 1240 + 3).toNatClampNeg) 0) 1 ((8 * M 1 1240 + 4).toNatClampNeg) x5) 1 ((8 * M 1 1240 + 5).toNatClampNeg) 0) 1 1237 = 0 → vp_in (8 * M 1 1240 + 6) 1242 ∧ mj_Cm 117 3 [.ref 0, .int ((mj_u (mj_u (mj_u (mj_u (mj_u (mj_u M 1 ((8 * M 1 1240 + 2).toNatClampNeg) x2) 1 ((8 * M 1 1240 + 3).toNatClampNeg) 0) 1 ((8 * M 1 1240 + 4).toNatClampNeg) x5) 1 ((8 * M 1 1240 + 5).toNatClampNeg) 0) 1 ((8 * M 1 1240 + 6).toNatClampNeg) 0) 1 1240 ((mj_u (mj_u (mj_u (mj_u (mj_u M 1 ((8 * M 1 1240 + 2).toNatClampNeg) x2) 1 ((8 * M 1 1240 + 3).toNatClampNeg) 0) 1 ((8 * M 1 1240 + 4).toNatClampNeg) x5) 1 ((8 * M 1 1240 + 5).toNatClampNeg) 0) 1 ((8 * M 1 1240 + 6).toNatClampNeg) 0) 1 1240 + 1)) 1 1240 - 1), .int x1] (mj_u (mj_u (mj_u (mj_u (mj_u (mj_u M 1 ((8 * M 1 1240 + 2).toNatClampNeg) x2) 1 ((8 * M 1 1240 + 3).toNatClampNeg) 0) 1 ((8 * M 1 1240 + 4).toNatClampNeg) x5) 1 ((8 * M 1 1240 + 5).toNatClampNeg) 0) 1 ((8 * M 1 1240 + 6).toNatClampNeg) 0) 1 1240 ((mj_u (mj_u (mj_u (mj_u (mj_u M 1 ((8 * M 1 1240 + 2).toNatClampNeg) x2) 1 ((8 * M 1 1240 + 3).toNatClampNeg) 0) 1 ((8 * M 1 1240 + 4).toNatClampNeg) x5) 1 ((8 * M 1 1240 + 5).toNatClampNeg) 0) 1 ((8 * M 1 1240 + 6).toNatClampNeg) 0) 1 1240 + 1)) (mj_k 1 118 4 136 [some (.ref 0), some (.int x1), some (.int x2), some (.int x3), some (.int x4), some (.int x5), some (.int (8 * M 1 1240))] [] 0 none K)) ∧ ((mj_u (mj_u (mj_u (mj_u M 1 ((8 * M 1 1240 + 2).toNatClampNeg) x2) 1 ((8 * M 1 1240 + 3).toNatClampNeg) 0) 1 ((8 * M 1 1240 + 4).toNatClampNeg) x5) 1 ((8 * M 1 1240 + 5).toNatClampNeg) 0) 1 1237 = 0 → vp_in (8 * M 1 1240 + 6) 1242 ∧ mj_Cm 117 3 [.ref 0, .int ((mj_u (mj_u (mj_u (mj_u (mj_u (mj_u M 1 ((8 * M 1 1240 + 2).toNatClampNeg) x2) 1 ((8 * M 1 1240 + 3).toNatClampNeg) 0) 1 ((8 * M 1 1240 + 4).toNatClampNeg) x5) 1 ((8 * M 1 1240 + 5).toNatClampNeg) 0) 1 ((8 * M 1 1240 + 6).toNatClampNeg) 1) 1 1240 ((mj_u (mj_u (mj_u (mj_u (mj_u M 1 ((8 * M 1 1240 + 2).toNatClampNeg) x2) 1 ((8 * M 1 1240 + 3).toNatClampNeg) 0) 1 ((8 * M 1 1240 + 4).toNatClampNeg) x5) 1 ((8 * M 1 1240 + 5).toNatClampNeg) 0) 1 ((8 * M 1 1240 + 6).toNatClampNeg) 1) 1 1240 + 1)) 1 1240 - 1), .int x1] (mj_u (mj_u (mj_u (mj_u (mj_u (mj_u M 1 ((8 * M 1 1240 + 2).toNatClampNeg) x2) 1 ((8 * M 1 1240 + 3).toNatClampNeg) 0) 1 ((8 * M 1 1240 + 4).toNatClampNeg) x5) 1 ((8 * M 1 1240 + 5).toNatClampNeg) 0) 1 ((8 * M 1 1240 + 6).toNatClampNeg) 1) 1 1240 ((mj_u (mj_u (mj_u (mj_u (mj_u M 1 ((8 * M 1 1240 + 2).toNatClampNeg) x2) 1 ((8 * M 1 1240 + 3).toNatClampNeg) 0) 1 ((8 * M 1 1240 + 4).toNatClampNeg) x5) 1 ((8 * M 1 1240 + 5).toNatClampNeg) 0) 1 ((8 * M 1 1240 + 6).toNatClampNeg) 1) 1 1240 + 1)) (mj_k 1 118 4 136 [some (.ref 0), some (.int x1), some (.int x2), some (.int x3), some (.int x4), some (.int x5), some (.int (8 * M 1 1240))] [] 0 none K)))))) ∧ (¬ x4 = 0 → vp_in (8 * M 1 1240 + 5) 1242 ∧ (vp_in (5 * x2 + 1114) 1242 ∧ ((¬ (mj_u (mj_u (mj_u (mj_u M 1 ((8 * M 1 1240 + 2).toNatClampNeg) x2) 1 ((8 * M 1 1240 + 3).toNatClampNeg) 0) 1 ((8 * M 1 1240 + 4).toNatClampNeg) x5) 1 ((8 * M 1 1240 + 5).toNatClampNeg) 1) 1 ((5 * x2 + 1114).toNatClampNeg) = 2 → vp_in (8 * M 1 1240 + 6) 1242 ∧ mj_Cm 117 3 [.ref 0, .int ((mj_u (mj_u (mj_u (mj_u (mj_u (mj_u M 1 ((8 * M 1 1240 + 2).toNatClampNeg) x2) 1 ((8 * M 1 1240 + 3).toNatClampNeg) 0) 1 ((8 * M 1 1240 + 4).toNatClampNeg) x5) 1 ((8 * M 1 1240 + 5).toNatClampNeg) 1) 1 ((8 * M 1 1240 + 6).toNatClampNeg) 0) 1 1240 ((mj_u (mj_u (mj_u (mj_u (mj_u M 1 ((8 * M 1 1240 + 2).toNatClampNeg) x2) 1 ((8 * M 1 1240 + 3).toNatClampNeg) 0) 1 ((8 * M 1 1240 + 4).toNatClampNeg) x5) 1 ((8 * M 1 1240 + 5).toNatClampNeg) 1) 1 ((8 * M 1 1240 + 6).toNatClampNeg) 0) 1 1240 + 1)) 1 1240 - 1), .int x1] (mj_u (mj_u (mj_u (mj_u (mj_u (mj_u M 1 ((8 * M 1 1240 + 2).toNatClampNeg) x2) 1 ((8 * M 1 1240 + 3).toNatClampNeg) 0) 1 ((8 * M 1 1240 + 4).toNatClampNeg) x5) 1 ((8 * M 1 1240 + 5).toNatClampNeg) 1) 1 ((8 * M 1 1240 + 6).toNatClampNeg) 0) 1 1240 ((mj_u (mj_u (mj_u (mj_u (mj_u M 1 ((8 * M 1 1240 + 2).toNatClampNeg) x2) 1 ((8 * M 1 1240 + 3).toNatClampNeg) 0) 1 ((8 * M 1 1240 + 4).toNatClampNeg) x5) 1 ((8 * M 1 1240 + 5).toNatClampNeg) 1) 1 ((8 * M 1 1240 + 6).toNatClampNeg) 0) 1 1240 + 1)) (mj_k 1 118 4 136 [some (.ref 0), some (.int x1), some (.int x2), some (.int x3), some (.int x4), some (.int x5), some (.int (8 * M 1 1240))] [] 0 none K)) ∧ ((mj_u (mj_u (mj_u (mj_u M 1 ((8 * M 1 1240 + 2).toNatClampNeg) x2) 1 ((8 * M 1 1240 + 3).toNatClampNeg) 0) 1 ((8 * M 1 1240 + 4).toNatClampNeg) x5) 1 ((8 * M 1 1240 + 5).toNatClampNeg) 1) 1 ((5 * x2 + 1114).toNatClampNeg) = 2 → (¬ (mj_u (mj_u (mj_u (mj_u M 1 ((8 * M 1 1240 + 2).toNatClampNeg) x2) 1 ((8 * M 1 1240 + 3).toNatClampNeg) 0) 1 ((8 * M 1 1240 + 4).toNatClampNeg) x5) 1 ((8 * M 1 1240 + 5).toNatClampNeg) 1) 1 1237 = 0 → vp_in (8 * M 1 1240 + 6) 1242 ∧ mj_Cm 117 3 [.ref 0, .int ((mj_u (mj_u (mj_u (mj_u (mj_u (mj_u M 1 ((8 * M 1 1240 + 2).toNatClampNeg) x2) 1 ((8 * M 1 1240 + 3).toNatClampNeg) 0) 1 ((8 * M 1 1240 + 4).toNatClampNeg) x5) 1 ((8 * M 1 1240 + 5).toNatClampNeg) 1) 1 ((8 * M 1 1240 + 6).toNatClampNeg) 0) 1 1240 ((mj_u (mj_u (mj_u (mj_u (mj_u M 1 ((8 * M 1 1240 + 2).toNatClampNeg) x2) 1 ((8 * M 1 1240 + 3).toNatClampNeg) 0) 1 ((8 * M 1 1240 + 4).toNatClampNeg) x5) 1 ((8 * M 1 1240 + 5).toNatClampNeg) 1) 1 ((8 * M 1 1240 + 6).toNatClampNeg) 0) 1 1240 + 1)) 1 1240 - 1), .int x1] (mj_u (mj_u (mj_u (mj_u (mj_u (mj_u M 1 ((8 * M 1 1240 + 2).toNatClampNeg) x2) 1 ((8 * M 1 1240 + 3).toNatClampNeg) 0) 1 ((8 * M 1 1240 + 4).toNatClampNeg) x5) 1 ((8 * M 1 1240 + 5).toNatClampNeg) 1) 1 ((8 * M 1 1240 + 6).toNatClampNeg) 0) 1 1240 ((mj_u (mj_u (mj_u (mj_u (mj_u M 1 ((8 * M 1 1240 + 2).toNatClampNeg) x2) 1 ((8 * M 1 1240 + 3).toNatClampNeg) 0) 1 ((8 * M 1 1240 + 4).toNatClampNeg) x5) 1 ((8 * M 1 1240 + 5).toNatClampNeg) 1) 1 ((8 * M 1 1240 + 6).toNatClampNeg) 0) 1 1240 + 1)) (mj_k 1 118 4 136 [some (.ref 0), some (.int x1), some (.int x2), some (.int x3), some (.int x4), some (.int x5), some (.int (8 * M 1 1240))] [] 0 none K)) ∧ ((mj_u (mj_u (mj_u (mj_u M 1 ((8 * M 1 1240 + 2).toNatClampNeg) x2) 1 ((8 * M 1 1240 + 3).toNatClampNeg) 0) 1 ((8 * M 1 1240 + 4).toNatClampNeg) x5) 1 ((8 * M 1 1240 + 5).toNatClampNeg) 1) 1 1237 = 0 → vp_in (8 * M 1 1240 + 6) 1242 ∧ mj_Cm 117 3 [.ref 0, .int ((mj_u (mj_u (mj_u (mj_u (mj_u (mj_u M 1 ((8 * M 1 1240 + 2).toNatClampNeg) x2) 1 ((8 * M 1 1240 + 3).toNatClampNeg) 0) 1 ((8 * M 1 1240 + 4).toNatClampNeg) x5) 1 ((8 * M 1 1240 + 5).toNatClampNeg) 1) 1 ((8 * M 1 1240 + 6).toNatClampNeg) 1) 1 1240 ((mj_u (mj_u (mj_u (mj_u (mj_u M 1 ((8 * M 1 1240 + 2).toNatClampNeg) x2) 1 ((8 * M 1 1240 + 3).toNatClampNeg) 0) 1 ((8 * M 1 1240 + 4).toNatClampNeg) x5) 1 ((8 * M 1 1240 + 5).toNatClampNeg) 1) 1 ((8 * M 1 1240 + 6).toNatClampNeg) 1) 1 1240 + 1)) 1 1240 - 1), .int x1] (mj_u (mj_u (mj_u (mj_u (mj_u (mj_u M 1 ((8 * M 1 1240 + 2).toNatClampNeg) x2) 1 ((8 * M 1 1240 + 3).toNatClampNeg) 0) 1 ((8 * M 1 1240 + 4).toNatClampNeg) x5) 1 ((8 * M 1 1240 + 5).toNatClampNeg) 1) 1 ((8 * M 1 1240 + 6).toNatClampNeg) 1) 1 1240 ((mj_u (mj_u (mj_u (mj_u (mj_u M 1 ((8 * M 1 1240 + 2).toNatClampNeg) x2) 1 ((8 * M 1 1240 + 3).toNatClampNeg) 0) 1 ((8 * M 1 1240 + 4).toNatClampNeg) x5) 1 ((8 * M 1 1240 + 5).toNatClampNeg) 1) 1 ((8 * M 1 1240 + 6).toNatClampNeg) 1) 1 1240 + 1)) (mj_k 1 118 4 136 [some (.ref 0), some (.int x1), some (.int x2), some (.int x3), some (.int x4), some (.int x5), some (.int (8 * M 1 1240))] [] 0 none K)))))))) ∧ (¬ x3 = 0 → vp_in (8 * M 1 1240 + 3) 1242 ∧ vp_in (8 * M 1 1240 + 4) 1242 ∧ ((x4 = 0 → vp_in (8 * M 1 1240 + 5) 1242 ∧ (vp_in (5 * x2 + 1114) 1242 ∧ ((¬ (mj_u (mj_u (mj_u (mj_u M 1 ((8 * M 1 1240 + 2).toNatClampNeg) x2) 1 ((8 * M 1 1240 + 3).toNatClampNeg) 1) 1 ((8 * M 1 1240 + 4).toNatClampNeg) x5) 1 ((8 * M 1 1240 + 5).toNatClampNeg) 0) 1 ((5 * x2 + 1114).toNatClampNeg) = 2 → vp_in (8 * M 1 1240 + 6) 1242 ∧ mj_Cm 117 3 [.ref 0, .int ((mj_u (mj_u (mj_u (mj_u (mj_u (mj_u M 1 ((8 * M 1 1240 + 2).toNatClampNeg) x2) 1 ((8 * M 1 1240 + 3).toNatClampNeg) 1) 1 ((8 * M 1 1240 + 4).toNatClampNeg) x5) 1 ((8 * M 1 1240 + 5).toNatClampNeg) 0) 1 ((8 * M 1 1240 + 6).toNatClampNeg) 0) 1 1240 ((mj_u (mj_u (mj_u (mj_u (mj_u M 1 ((8 * M 1 1240 + 2).toNatClampNeg) x2) 1 ((8 * M 1 1240 + 3).toNatClampNeg) 1) 1 ((8 * M 1 1240 + 4).toNatClampNeg) x5) 1 ((8 * M 1 1240 + 5).toNatClampNeg) 0) 1 ((8 * M 1 1240 + 6).toNatClampNeg) 0) 1 1240 + 1)) 1 1240 - 1), .int x1] (mj_u (mj_u (mj_u (mj_u (mj_u (mj_u M 1 ((8 * M 1 1240 + 2).toNatClampNeg) x2) 1 ((8 * M 1 1240 + 3).toNatClampNeg) 1) 1 ((8 * M 1 1240 + 4).toNatClampNeg) x5) 1 ((8 * M 1 1240 + 5).toNatClampNeg) 0) 1 ((8 * M 1 1240 + 6).toNatClampNeg) 0) 1 1240 ((mj_u (mj_u (mj_u (mj_u (mj_u M 1 ((8 * M 1 1240 + 2).toNatClampNeg) x2) 1 ((8 * M 1 1240 + 3).toNatClampNeg) 1) 1 ((8 * M 1 1240 + 4).toNatClampNeg) x5) 1 ((8 * M 1 1240 + 5).toNatClampNeg) 0) 1 ((8 * M 1 1240 + 6).toNatClampNeg) 0) 1 1240 + 1)) (mj_k 1 118 4 136 [some (.ref 0), some (.int x1), some (.int x2), some (.int x3), some (.int x4), some (.int x5), some (.int (8 * M 1 1240))] [] 0 none K)) ∧ ((mj_u (mj_u (mj_u (mj_u M 1 ((8 * M 1 1240 + 2).toNatClampNeg) x2) 1 ((8 * M 1 1240 + 3).toNatClampNeg) 1) 1 ((8 * M 1 1240 + 4).toNatClampNeg) x5) 1 ((8 * M 1 1240 + 5).toNatClampNeg) 0) 1 ((5 * x2 + 1114).toNatClampNeg) = 2 → (¬ (mj_u (mj_u (mj_u (mj_u M 1 ((8 * M 1 1240 + 2).toNatClampNeg) x2) 1 ((8 * M 1 1240 + 3).toNatClampNeg) 1) 1 ((8 * M 1 1240 + 4).toNatClampNeg) x5) 1 ((8 * M 1 1240 + 5).toNatClampNeg) 0) 1 1237 = 0 → vp_in (8 * M 1 1240 + 6) 1242 ∧ mj_Cm 117 3 [.ref 0, .int ((mj_u (mj_u (mj_u (mj_u (mj_u (mj_u M 1 ((8 * M 1 1240 + 2).toNatClampNeg) x2) 1 ((8 * M 1 1240 + 3).toNatClampNeg) 1) 1 ((8 * M 1 1240 + 4).toNatClampNeg) x5) 1 ((8 * M 1 1240 + 5).toNatClampNeg) 0) 1 ((8 * M 1 1240 + 6).toNatClampNeg) 0) 1 1240 ((mj_u (mj_u (mj_u (mj_u (mj_u M 1 ((8 * M 1 1240 + 2).toNatClampNeg) x2) 1 ((8 * M 1 1240 + 3).toNatClampNeg) 1) 1 ((8 * M 1 1240 + 4).toNatClampNeg) x5) 1 ((8 * M 1 1240 + 5).toNatClampNeg) 0) 1 ((8 * M 1 1240 + 6).toNatClampNeg) 0) 1 1240 + 1)) 1 1240 - 1), .int x1] (mj_u (mj_u (mj_u (mj_u (mj_u (mj_u M 1 ((8 * M 1 1240 + 2).toNatClampNeg) x2) 1 ((8 * M 1 1240 + 3).toNatClampNeg) 1) 1 ((8 * M 1 1240 + 4).toNatClampNeg) x5) 1 ((8 * M 1 1240 + 5).toNatClampNeg) 0) 1 ((8 * M 1 1240 + 6).toNatClampNeg) 0) 1 1240 ((mj_u (mj_u (mj_u (mj_u (mj_u M 1 ((8 * M 1 1240 + 2).toNatClampNeg) x2) 1 ((8 * M 1 1240 + 3).toNatClampNeg) 1) 1 ((8 * M 1 1240 + 4).toNatClampNeg) x5) 1 ((8 * M 1 1240 + 5).toNatClampNeg) 0) 1 ((8 * M 1 1240 + 6).toNatClampNeg) 0) 1 1240 + 1)) (mj_k 1 118 4 136 [some (.ref 0), some (.int x1), some (.int x2), some (.int x3), some (.int x4), some (.int x5), some (.int (8 * M 1 1240))] [] 0 none K)) ∧ ((mj_u (mj_u (mj_u (mj_u M 1 ((8 * M 1 1240 + 2).toNatClampNeg) x2) 1 ((8 * M 1 1240 + 3).toNatClampNeg) 1) 1 ((8 * M 1 1240 + 4).toNatClampNeg) x5) 1 ((8 * M 1 1240 + 5).toNatClampNeg) 0) 1 1237 = 0 → vp_in (8 * M 1 1240 + 6) 1242 ∧ mj_Cm 117 3 [.ref 0, .int ((mj_u (mj_u (mj_u (mj_u (mj_u (mj_u M 1 ((8 * M 1 1240 + 2).toNatClampNeg) x2) 1 ((8 * M 1 1240 + 3).toNatClampNeg) 1) 1 ((8 * M 1 1240 + 4).toNatClampNeg) x5) 1 ((8 * M 1 1240 + 5).toNatClampNeg) 0) 1 ((8 * M 1 1240 + 6).toNatClampNeg) 1) 1 1240 ((mj_u (mj_u (mj_u (mj_u (mj_u M 1 ((8 * M 1 1240 + 2).toNatClampNeg) x2) 1 ((8 * M 1 1240 + 3).toNatClampNeg) 1) 1 ((8 * M 1 1240 + 4).toNatClampNeg) x5) 1 ((8 * M 1 1240 + 5).toNatClampNeg) 0) 1 ((8 * M 1 1240 + 6).toNatClampNeg) 1) 1 1240 + 1)) 1 1240 - 1), .int x1] (mj_u (mj_u (mj_u (mj_u (mj_u (mj_u M 1 ((8 * M 1 1240 + 2).toNatClampNeg) x2) 1 ((8 * M 1 1240 + 3).toNatClampNeg) 1) 1 ((8 * M 1 1240 + 4).toNatClampNeg) x5) 1 ((8 * M 1 1240 + 5).toNatClampNeg) 0) 1 ((8 * M 1 1240 + 6).toNatClampNeg) 1) 1 1240 ((mj_u (mj_u (mj_u (mj_u (mj_u M 1 ((8 * M 1 1240 + 2).toNatClampNeg) x2) 1 ((8 * M 1 1240 + 3).toNatClampNeg) 1) 1 ((8 * M 1 1240 + 4).toNatClampNeg) x5) 1 ((8 * M 1 1240 + 5).toNatClampNeg) 0) 1 ((8 * M 1 1240 + 6).toNatClampNeg) 1) 1 1240 + 1)) (mj_k 1 118 4 136 [some (.ref 0), some (.int x1), some (.int x2), some (.int x3), some (.int x4), some (.int x5), some (.int (8 * M 1 1240))] [] 0 none K)))))) ∧ (¬ x4 = 0 → vp_in (8 * M 1 1240 + 5) 1242 ∧ (vp_in (5 * x2 + 1114) 1242 ∧ ((¬ (mj_u (mj_u (mj_u (mj_u M 1 ((8 * M 1 1240 + 2).toNatClampNeg) x2) 1 ((8 * M 1 1240 + 3).toNatClampNeg) 1) 1 ((8 * M 1 1240 + 4).toNatClampNeg) x5) 1 ((8 * M 1 1240 + 5).toNatClampNeg) 1) 1 ((5 * x2 + 1114).toNatClampNeg) = 2 → vp_in (8 * M 1 1240 + 6) 1242 ∧ mj_Cm 117 3 [.ref 0, .int ((mj_u (mj_u (mj_u (mj_u (mj_u (mj_u M 1 ((8 * M 1 1240 + 2).toNatClampNeg) x2) 1 ((8 * M 1 1240 + 3).toNatClampNeg) 1) 1 ((8 * M 1 1240 + 4).toNatClampNeg) x5) 1 ((8 * M 1 1240 + 5).toNatClampNeg) 1) 1 ((8 * M 1 1240 + 6).toNatClampNeg) 0) 1 1240 ((mj_u (mj_u (mj_u (mj_u (mj_u M 1 ((8 * M 1 1240 + 2).toNatClampNeg) x2) 1 ((8 * M 1 1240 + 3).toNatClampNeg) 1) 1 ((8 * M 1 1240 + 4).toNatClampNeg) x5) 1 ((8 * M 1 1240 + 5).toNatClampNeg) 1) 1 ((8 * M 1 1240 + 6).toNatClampNeg) 0) 1 1240 + 1)) 1 1240 - 1), .int x1] (mj_u (mj_u (mj_u (mj_u (mj_u (mj_u M 1 ((8 * M 1 1240 + 2).toNatClampNeg) x2) 1 ((8 * M 1 1240 + 3).toNatClampNeg) 1) 1 ((8 * M 1 1240 + 4).toNatClampNeg) x5) 1 ((8 * M 1 1240 + 5).toNatClampNeg) 1) 1 ((8 * M 1 1240 + 6).toNatClampNeg) 0) 1 1240 ((mj_u (mj_u (mj_u (mj_u (mj_u M 1 ((8 * M 1 1240 + 2).toNatClampNeg) x2) 1 ((8 * M 1 1240 + 3).toNatClampNeg) 1) 1 ((8 * M 1 1240 + 4).toNatClampNeg) x5) 1 ((8 * M 1 1240 + 5).toNatClampNeg) 1) 1 ((8 * M 1 1240 + 6).toNatClampNeg) 0) 1 1240 + 1)) (mj_k 1 118 4 136 [some (.ref 0), some (.int x1), some (.int x2), some (.int x3), some (.int x4), some (.int x5), some (.int (8 * M 1 1240))] [] 0 none K)) ∧ ((mj_u (mj_u (mj_u (mj_u M 1 ((8 * M 1 1240 + 2).toNatClampNeg) x2) 1 ((8 * M 1 1240 + 3).toNatClampNeg) 1) 1 ((8 * M 1 1240 + 4).toNatClampNeg) x5) 1 ((8 * M 1 1240 + 5).toNatClampNeg) 1) 1 ((5 * x2 + 1114).toNatClampNeg) = 2 → (¬ (mj_u (mj_u (mj_u (mj_u M 1 ((8 * M 1 1240 + 2).toNatClampNeg) x2) 1 ((8 * M 1 1240 + 3).toNatClampNeg) 1) 1 ((8 * M 1 1240 + 4).toNatClampNeg) x5) 1 ((8 * M 1 1240 + 5).toNatClampNeg) 1) 1 1237 = 0 → vp_in (8 * M 1 1240 + 6) 1242 ∧ mj_Cm 117 3 [.ref 0, .int ((mj_u (mj_u (mj_u (mj_u (mj_u (mj_u M 1 ((8 * M 1 1240 + 2).toNatClampNeg) x2) 1 ((8 * M 1 1240 + 3).toNatClampNeg) 1) 1 ((8 * M 1 1240 + 4).toNatClampNeg) x5) 1 ((8 * M 1 1240 + 5).toNatClampNeg) 1) 1 ((8 * M 1 1240 + 6).toNatClampNeg) 0) 1 1240 ((mj_u (mj_u (mj_u (mj_u (mj_u M 1 ((8 * M 1 1240 + 2).toNatClampNeg) x2) 1 ((8 * M 1 1240 + 3).toNatClampNeg) 1) 1 ((8 * M 1 1240 + 4).toNatClampNeg) x5) 1 ((8 * M 1 1240 + 5).toNatClampNeg) 1) 1 ((8 * M 1 1240 + 6).toNatClampNeg) 0) 1 1240 + 1)) 1 1240 - 1), .int x1] (mj_u (mj_u (mj_u (mj_u (mj_u (mj_u M 1 ((8 * M 1 1240 + 2).toNatClampNeg) x2) 1 ((8 * M 1 1240 + 3).toNatClampNeg) 1) 1 ((8 * M 1 1240 + 4).toNatClampNeg) x5) 1 ((8 * M 1 1240 + 5).toNatClampNeg) 1) 1 ((8 * M 1 1240 + 6).toNatClampNeg) 0) 1 1240 ((mj_u (mj_u (mj_u (mj_u (mj_u M 1 ((8 * M 1 1240 + 2).toNatClampNeg) x2) 1 ((8 * M 1 1240 + 3).toNatClampNeg) 1) 1 ((8 * M 1 1240 + 4).toNatClampNeg) x5) 1 ((8 * M 1 1240 + 5).toNatClampNeg) 1) 1 ((8 * M 1 1240 + 6).toNatClampNeg) 0) 1 1240 + 1)) (mj_k 1 118 4 136 [some (.ref 0), some (.int x1), some (.int x2), some (.int x3), some (.int x4), some (.int x5), some (.int (8 * M 1 1240))] [] 0 none K)) ∧ ((mj_u (mj_u (mj_u (mj_u M 1 ((8 * M 1 1240 + 2).toNatClampNeg) x2) 1 ((8 * M 1 1240 + 3).toNatClampNeg) 1) 1 ((8 * M 1 1240 + 4).toNatClampNeg) x5) 1 ((8 * M 1 1240 + 5).toNatClampNeg) 1) 1 1237 = 0 → vp_in (8 * M 1 1240 + 6) 1242 ∧ mj_Cm 117 3 [.ref 0, .int ((mj_u (mj_u (mj_u (mj_u (mj_u (mj_u M 1 ((8 * M 1 1240 + 2).toNatClampNeg) x2) 1 ((8 * M 1 1240 + 3).toNatClampNeg) 1) 1 ((8 * M 1 1240 + 4).toNatClampNeg) x5) 1 ((8 * M 1 1240 + 5).toNatClampNeg) 1) 1 ((8 * M 1 1240 + 6).toNatClampNeg) 1) 1 1240 ((mj_u (mj_u (mj_u (mj_u (mj_u M 1 ((8 * M 1 1240 + 2).toNatClampNeg) x2) 1 ((8 * M 1 1240 + 3).toNatClampNeg) 1) 1 ((8 * M 1 1240 + 4).toNatClampNeg) x5) 1 ((8 * M 1 1240 + 5).toNatClampNeg) 1) 1 ((8 * M 1 1240 + 6).toNatClampNeg) 1) 1 1240 + 1)) 1 1240 - 1), .int x1] (mj_u (mj_u (mj_u (mj_u (mj_u (mj_u M 1 ((8 * M 1 1240 + 2).toNatClampNeg) x2) 1 ((8 * M 1 1240 + 3).toNatClampNeg) 1) 1 ((8 * M 1 1240 + 4).toNatClampNeg) x5) 1 ((8 * M 1 1240 + 5).toNatClampNeg) 1) 1 ((8 * M 1 1240 + 6).toNatClampNeg) 1) 1 1240 ((mj_u (mj_u (mj_u (mj_u (mj_u M 1 ((8 * M 1 1240 + 2).toNatClampNeg) x2) 1 ((8 * M 1 1240 + 3).toNatClampNeg) 1) 1 ((8 * M 1 1240 + 4).toNatClampNeg) x5) 1 ((8 * M 1 1240 + 5).toNatClampNeg) 1) 1 ((8 * M 1 1240 + 6).toNatClampNeg) 1) 1 1240 + 1)) (mj_k 1 118 4 136 [some (.ref 0), some (.int x1), some (.int x2), some (.int x3), some (.int x4), some (.int x5), some (.int (8 * M 1 1240))] [] 0 none K)))))))))) : mj_Cm 118 4 [.ref 0, .int x1, .int x2, .int x3, .int x4, .int x5] M K := mj_en rfl rfl rfl (t118_0 h)

theorem t118_136 {M : mj_M} {K : mj_K} {x1 : Int32} {x2 : Int32} {x3 : Int32} {x4 : Int32} {x5 : Int32} {x6 : Int32} (h : K 0 (M 1 1240 - 1) M) : mj_W 1 118 4 136 [some (.ref 0), some (.int x1), some (.int x2), some (.int x3), some (.int x4), some (.int x5), some (.int x6)] [] M 0 K := by
  refine b118_136 ?_
  exact h

theorem t119_0 {M : mj_M} {K : mj_K} {x1 : Int32} {x2 : Int32} {x3 : Int32} {x4 : Int32} {x5 : Int32} (h : (¬ (p94 M x1) → (120 ≤ M 1 1240 → mj_Cm 93 1 [.ref 0, .int 0, .int 0, .int 0] M (mj_k 1 119 5 95 [some (.ref 0), some (.int x1), some (.int x2), some (.int x3), some (.int x4), some (.int x5), some (.int 0), some (.int 0)] [] 0 (some .boolean) K)) ∧ (¬ 120 ≤ M 1 1240 → mj_Cm 93 1 [.ref 0, .int 0, .int 0, .int 1] M (mj_k 1 119 5 95 [some (.ref 0), some (.int x1), some (.int x2), some (.int x3), some (.int x4), some (.int x5), some (.int 0), some (.int 0)] [] 0 (some .boolean) K))) ∧ ((p94 M x1) → (¬ (p94 M x2) → (120 ≤ M 1 1240 → mj_Cm 93 1 [.ref 0, .int 0, .int 0, .int 0] M (mj_k 1 119 5 95 [some (.ref 0), some (.int x1), some (.int x2), some (.int x3), some (.int x4), some (.int x5), some (.int 0), some (.int 0)] [] 0 (some .boolean) K)) ∧ (¬ 120 ≤ M 1 1240 → mj_Cm 93 1 [.ref 0, .int 0, .int 0, .int 1] M (mj_k 1 119 5 95 [some (.ref 0), some (.int x1), some (.int x2), some (.int x3), some (.int x4), some (.int x5), some (.int 0), some (.int 0)] [] 0 (some .boolean) K))) ∧ ((p94 M x2) → vp_in (5 * x1 + 1114) 1242 ∧ ((¬ M 1 ((5 * x1 + 1114).toNatClampNeg) = 0 → (120 ≤ M 1 1240 → mj_Cm 93 1 [.ref 0, .int 1, .int 0, .int 0] M (mj_k 1 119 5 95 [some (.ref 0), some (.int x1), some (.int x2), some (.int x3), some (.int x4), some (.int x5), some (.int 1), some (.int 0)] [] 0 (some .boolean) K)) ∧ (¬ 120 ≤ M 1 1240 → mj_Cm 93 1 [.ref 0, .int 1, .int 0, .int 1] M (mj_k 1 119 5 95 [some (.ref 0), some (.int x1), some (.int x2), some (.int x3), some (.int x4), some (.int x5), some (.int 1), some (.int 0)] [] 0 (some .boolean) K))) ∧ (M 1 ((5 * x1 + 1114).toNatClampNeg) = 0 → vp_in (5 * x2 + 1114) 1242 ∧ ((M 1 ((5 * x2 + 1114).toNatClampNeg) = 1 → (120 ≤ M 1 1240 → mj_Cm 93 1 [.ref 0, .int 1, .int 0, .int 0] M (mj_k 1 119 5 95 [some (.ref 0), some (.int x1), some (.int x2), some (.int x3), some (.int x4), some (.int x5), some (.int 1), some (.int 0)] [] 0 (some .boolean) K)) ∧ (¬ 120 ≤ M 1 1240 → mj_Cm 93 1 [.ref 0, .int 1, .int 0, .int 1] M (mj_k 1 119 5 95 [some (.ref 0), some (.int x1), some (.int x2), some (.int x3), some (.int x4), some (.int x5), some (.int 1), some (.int 0)] [] 0 (some .boolean) K))) ∧ (¬ M 1 ((5 * x2 + 1114).toNatClampNeg) = 1 → (¬ (p92 M x5 (-1) 9) → (120 ≤ M 1 1240 → mj_Cm 93 1 [.ref 0, .int 1, .int 0, .int 0] M (mj_k 1 119 5 95 [some (.ref 0), some (.int x1), some (.int x2), some (.int x3), some (.int x4), some (.int x5), some (.int 1), some (.int 0)] [] 0 (some .boolean) K)) ∧ (¬ 120 ≤ M 1 1240 → mj_Cm 93 1 [.ref 0, .int 1, .int 0, .int 1] M (mj_k 1 119 5 95 [some (.ref 0), some (.int x1), some (.int x2), some (.int x3), some (.int x4), some (.int x5), some (.int 1), some (.int 0)] [] 0 (some .boolean) K))) ∧ ((p92 M x5 (-1) 9) → (120 ≤ M 1 1240 → mj_Cm 93 1 [.ref 0, .int 1, .int 1, .int 0] M (mj_k 1 119 5 95 [some (.ref 0), some (.int x1), some (.int x2), some (.int x3), some (.int x4), some (.int x5), some (.int 1), some (.int 1)] [] 0 (some .boolean) K)) ∧ (¬ 120 ≤ M 1 1240 → mj_Cm 93 1 [.ref 0, .int 1, .int 1, .int 1] M (mj_k 1 119 5 95 [some (.ref 0), some (.int x1), some (.int x2), some (.int x3), some (.int x4), some (.int x5), some (.int 1), some (.int 1)] [] 0 (some .boolean) K)))))))))) : mj_W 1 119 5 0 [some (.ref 0), some (.int x1), some (.int x2), some (.int x3), some (.int x4), some (.int x5), none, none] [] M 0 K := by
  refine b119_0 ?_
  refine sp94  ?_
  refine b119_5 ?_
  refine ⟨fun c1 => ?_, fun c1 => ?_⟩
  · have h1a := h.1 (mj_bi0.mp c1)
    refine b119_20 ?_
    refine b119_21 ?_
    refine ⟨fun _ => ?_, fun c => absurd c (by decide)⟩
    · refine b119_66 ?_
      refine b119_67 ?_
      refine ⟨fun c2 => ?_, fun c2 => ?_⟩
      · have h2a := h1a.1 c2
        refine b119_91 ?_
        refine b119_92 ?_
        exact h2a
      · have h2a := h1a.2 c2
        refine b119_87 ?_
        refine b119_92 ?_
        exact h2a
  · have h1a := h.2 (mj_bi1.mp c1)
    refine b119_8 ?_
    refine sp94  ?_
    refine b119_13 ?_
    refine ⟨fun c3 => ?_, fun c3 => ?_⟩
    · have h3a := h1a.1 (mj_bi0.mp c3)
      refine b119_20 ?_
      refine b119_21 ?_
      refine ⟨fun _ => ?_, fun c => absurd c (by decide)⟩
      · refine b119_66 ?_
        refine b119_67 ?_
        refine ⟨fun c4 => ?_, fun c4 => ?_⟩
        · have h4a := h3a.1 c4
          refine b119_91 ?_
          refine b119_92 ?_
          exact h4a
        · have h4a := h3a.2 c4
          refine b119_87 ?_
          refine b119_92 ?_
          exact h4a
    · have h3a := h1a.2 (mj_bi1.mp c3)
      refine b119_16 ?_
      refine b119_21 ?_
      refine ⟨fun c => absurd c (by decide), fun _ => ?_⟩
      · refine b119_28 ?_
        have h5 := h3a.1
        have h6 := h3a.2
        refine sp98 h5 ?_
        refine b119_36 ?_
        refine ⟨fun c7 => ?_, fun c7 => ?_⟩
        · have h7a := h6.1 c7
          refine b119_66 ?_
          refine b119_67 ?_
          refine ⟨fun c8 => ?_, fun c8 => ?_⟩
          · have h8a := h7a.1 c8
            refine b119_91 ?_
            refine b119_92 ?_
            exact h8a
          · have h8a := h7a.2 c8
            refine b119_87 ?_
            refine b119_92 ?_
            exact h8a
        · have h7a := h6.2 c7
          refine b119_39 ?_
          have h9 := h7a.1
          have h10 := h7a.2
          refine sp98 h9 ?_
          refine b119_47 ?_
          refine ⟨fun c11 => ?_, fun c11 => ?_⟩
          · have h11a := h10.1 c11
            refine b119_66 ?_
            refine b119_67 ?_
            refine ⟨fun c12 => ?_, fun c12 => ?_⟩
            · have h12a := h11a.1 c12
              refine b119_91 ?_
              refine b119_92 ?_
              exact h12a
            · have h12a := h11a.2 c12
              refine b119_87 ?_
              refine b119_92 ?_
              exact h12a
          · have h11a := h10.2 c11
            refine b119_51 ?_
            refine sp92  ?_
            refine b119_59 ?_
            refine ⟨fun c13 => ?_, fun c13 => ?_⟩
            · have h13a := h11a.1 (mj_bi0.mp c13)
              refine b119_66 ?_
              refine b119_67 ?_
              refine ⟨fun c14 => ?_, fun c14 => ?_⟩
              · have h14a := h13a.1 c14
                refine b119_91 ?_
                refine b119_92 ?_
                exact h14a
              · have h14a := h13a.2 c14
                refine b119_87 ?_
                refine b119_92 ?_
                exact h14a
            · have h13a := h11a.2 (mj_bi1.mp c13)
              refine b119_62 ?_
              refine b119_67 ?_
              refine ⟨fun c15 => ?_, fun c15 => ?_⟩
              · have h15a := h13a.1 c15
                refine b119_91 ?_
                refine b119_92 ?_
                exact h15a
              · have h15a := h13a.2 c15
                refine b119_87 ?_
                refine b119_92 ?_
                exact h15a
theorem e119 {M : mj_M} {K : mj_K} {x1 : Int32} {x2 : Int32} {x3 : Int32} {x4 : Int32} {x5 : Int32} (h : (¬ (p94 M x1) → (120 ≤ M 1 1240 → mj_Cm 93 1 [.ref 0, .int 0, .int 0, .int 0] M (mj_k 1 119 5 95 [some (.ref 0), some (.int x1), some (.int x2), some (.int x3), some (.int x4), some (.int x5), some (.int 0), some (.int 0)] [] 0 (some .boolean) K)) ∧ (¬ 120 ≤ M 1 1240 → mj_Cm 93 1 [.ref 0, .int 0, .int 0, .int 1] M (mj_k 1 119 5 95 [some (.ref 0), some (.int x1), some (.int x2), some (.int x3), some (.int x4), some (.int x5), some (.int 0), some (.int 0)] [] 0 (some .boolean) K))) ∧ ((p94 M x1) → (¬ (p94 M x2) → (120 ≤ M 1 1240 → mj_Cm 93 1 [.ref 0, .int 0, .int 0, .int 0] M (mj_k 1 119 5 95 [some (.ref 0), some (.int x1), some (.int x2), some (.int x3), some (.int x4), some (.int x5), some (.int 0), some (.int 0)] [] 0 (some .boolean) K)) ∧ (¬ 120 ≤ M 1 1240 → mj_Cm 93 1 [.ref 0, .int 0, .int 0, .int 1] M (mj_k 1 119 5 95 [some (.ref 0), some (.int x1), some (.int x2), some (.int x3), some (.int x4), some (.int x5), some (.int 0), some (.int 0)] [] 0 (some .boolean) K))) ∧ ((p94 M x2) → vp_in (5 * x1 + 1114) 1242 ∧ ((¬ M 1 ((5 * x1 + 1114).toNatClampNeg) = 0 → (120 ≤ M 1 1240 → mj_Cm 93 1 [.ref 0, .int 1, .int 0, .int 0] M (mj_k 1 119 5 95 [some (.ref 0), some (.int x1), some (.int x2), some (.int x3), some (.int x4), some (.int x5), some (.int 1), some (.int 0)] [] 0 (some .boolean) K)) ∧ (¬ 120 ≤ M 1 1240 → mj_Cm 93 1 [.ref 0, .int 1, .int 0, .int 1] M (mj_k 1 119 5 95 [some (.ref 0), some (.int x1), some (.int x2), some (.int x3), some (.int x4), some (.int x5), some (.int 1), some (.int 0)] [] 0 (some .boolean) K))) ∧ (M 1 ((5 * x1 + 1114).toNatClampNeg) = 0 → vp_in (5 * x2 + 1114) 1242 ∧ ((M 1 ((5 * x2 + 1114).toNatClampNeg) = 1 → (120 ≤ M 1 1240 → mj_Cm 93 1 [.ref 0, .int 1, .int 0, .int 0] M (mj_k 1 119 5 95 [some (.ref 0), some (.int x1), some (.int x2), some (.int x3), some (.int x4), some (.int x5), some (.int 1), some (.int 0)] [] 0 (some .boolean) K)) ∧ (¬ 120 ≤ M 1 1240 → mj_Cm 93 1 [.ref 0, .int 1, .int 0, .int 1] M (mj_k 1 119 5 95 [some (.ref 0), some (.int x1), some (.int x2), some (.int x3), some (.int x4), some (.int x5), some (.int 1), some (.int 0)] [] 0 (some .boolean) K))) ∧ (¬ M 1 ((5 * x2 + 1114).toNatClampNeg) = 1 → (¬ (p92 M x5 (-1) 9) → (120 ≤ M 1 1240 → mj_Cm 93 1 [.ref 0, .int 1, .int 0, .int 0] M (mj_k 1 119 5 95 [some (.ref 0), some (.int x1), some (.int x2), some (.int x3), some (.int x4), some (.int x5), some (.int 1), some (.int 0)] [] 0 (some .boolean) K)) ∧ (¬ 120 ≤ M 1 1240 → mj_Cm 93 1 [.ref 0, .int 1, .int 0, .int 1] M (mj_k 1 119 5 95 [some (.ref 0), some (.int x1), some (.int x2), some (.int x3), some (.int x4), some (.int x5), some (.int 1), some (.int 0)] [] 0 (some .boolean) K))) ∧ ((p92 M x5 (-1) 9) → (120 ≤ M 1 1240 → mj_Cm 93 1 [.ref 0, .int 1, .int 1, .int 0] M (mj_k 1 119 5 95 [some (.ref 0), some (.int x1), some (.int x2), some (.int x3), some (.int x4), some (.int x5), some (.int 1), some (.int 1)] [] 0 (some .boolean) K)) ∧ (¬ 120 ≤ M 1 1240 → mj_Cm 93 1 [.ref 0, .int 1, .int 1, .int 1] M (mj_k 1 119 5 95 [some (.ref 0), some (.int x1), some (.int x2), some (.int x3), some (.int x4), some (.int x5), some (.int 1), some (.int 1)] [] 0 (some .boolean) K)))))))))) : mj_Cm 119 5 [.ref 0, .int x1, .int x2, .int x3, .int x4, .int x5] M K := mj_en rfl rfl rfl (t119_0 h)

theorem t119_95 {M : mj_M} {K : mj_K} {x1 : Int32} {x2 : Int32} {x3 : Int32} {x4 : Int32} {x5 : Int32} {x6 : Int32} {x7 : Int32} {s0 : Int32} (h : (s0 = 0 → K 0 0 M) ∧ (¬ s0 = 0 → mj_Cm 118 4 [.ref 0, .int x1, .int x2, .int x3, .int x4, .int x5] M (mj_k 1 119 5 109 [some (.ref 0), some (.int x1), some (.int x2), some (.int x3), some (.int x4), some (.int x5), some (.int x6), some (.int x7)] [] 0 (some .int) K))) : mj_W 1 119 5 95 [some (.ref 0), some (.int x1), some (.int x2), some (.int x3), some (.int x4), some (.int x5), some (.int x6), some (.int x7)] [.int s0] M 0 K := by
  refine b119_95 ?_
  refine ⟨fun c1 => ?_, fun c1 => ?_⟩
  · have h1a := h.1 c1
    refine b119_112 ?_
    refine b119_113 ?_
    exact h1a
  · have h1a := h.2 c1
    refine b119_98 ?_
    exact h1a

theorem t119_109 {M : mj_M} {K : mj_K} {x1 : Int32} {x2 : Int32} {x3 : Int32} {x4 : Int32} {x5 : Int32} {x6 : Int32} {x7 : Int32} {s0 : Int32} (h : K 0 s0 M) : mj_W 1 119 5 109 [some (.ref 0), some (.int x1), some (.int x2), some (.int x3), some (.int x4), some (.int x5), some (.int x6), some (.int x7)] [.int s0] M 0 K := by
  refine b119_109 ?_
  refine b119_113 ?_
  exact h

theorem t120_0 {M : mj_M} {K : mj_K} {x1 : Int32} (h : mj_W 1 120 1 4 [some (.ref 0), some (.int x1), some (.int 0), some (.int 0)] [] M 0 K) : mj_W 1 120 1 0 [some (.ref 0), some (.int x1), none, none] [] M 0 K := by
  refine b120_0 ?_
  exact h
theorem e120 {M : mj_M} {K : mj_K} {x1 : Int32} (h : mj_W 1 120 1 4 [some (.ref 0), some (.int x1), some (.int 0), some (.int 0)] [] M 0 K) : mj_Cm 120 1 [.ref 0, .int x1] M K := mj_en rfl rfl rfl (t120_0 h)

theorem t120_4 {M : mj_M} {K : mj_K} {x1 : Int32} {x2 : Int32} {x3 : Int32} (h : (M 1 1241 ≤ x3 → K 0 (mj_nb x2) M) ∧ (¬ M 1 1241 ≤ x3 → (¬ x2 = 0 → mj_W 1 120 1 4 [some (.ref 0), some (.int x1), some (.int 1), some (.int (x3 + 1))] [] M 0 K) ∧ (x2 = 0 → vp_in (6 * x3 + 1164) 1242 ∧ ((¬ M 1 ((6 * x3 + 1164).toNatClampNeg) = x1 → mj_W 1 120 1 4 [some (.ref 0), some (.int x1), some (.int 0), some (.int (x3 + 1))] [] M 0 K) ∧ (M 1 ((6 * x3 + 1164).toNatClampNeg) = x1 → vp_in (6 * x3 + 1168) 1242 ∧ ((M 1 ((6 * x3 + 1168).toNatClampNeg) ≤ 0 → mj_W 1 120 1 4 [some (.ref 0), some (.int x1), some (.int 0), some (.int (x3 + 1))] [] M 0 K) ∧ (¬ M 1 ((6 * x3 + 1168).toNatClampNeg) ≤ 0 → mj_W 1 120 1 4 [some (.ref 0), some (.int x1), some (.int 1), some (.int (x3 + 1))] [] M 0 K))))))) : mj_W 1 120 1 4 [some (.ref 0), some (.int x1), some (.int x2), some (.int x3)] [] M 0 K := by
  refine b120_4 ?_
  refine ⟨fun c1 => ?_, fun c1 => ?_⟩
  · have h1a := h.1 c1
    refine b120_65 ?_
    exact h1a
  · have h1a := h.2 c1
    refine b120_16 ?_
    refine ⟨fun c2 => ?_, fun c2 => ?_⟩
    · have h2a := h1a.1 c2
      refine b120_53 ?_
      refine b120_58 ?_
      exact h2a
    · have h2a := h1a.2 c2
      refine b120_20 ?_
      have g3 := h2a.1
      refine ⟨g3, ?_⟩
      have h3 := h2a.2
      refine ⟨fun c4 => ?_, fun c4 => ?_⟩
      · have h4a := h3.1 c4
        refine b120_57 ?_
        refine b120_58 ?_
        exact h4a
      · have h4a := h3.2 c4
        refine b120_37 ?_
        have g5 := h4a.1
        refine ⟨g5, ?_⟩
        have h5 := h4a.2
        refine ⟨fun c6 => ?_, fun c6 => ?_⟩
        · have h6a := h5.1 c6
          refine b120_57 ?_
          refine b120_58 ?_
          exact h6a
        · have h6a := h5.2 c6
          refine b120_53 ?_
          refine b120_58 ?_
          exact h6a

theorem t122_0 {M : mj_M} {K : mj_K} {x1 : Int32} {x2 : Int32} {x3 : Int32} {x4 : Int32} {x5 : Int32} (h : (¬ (p94 M x1) → mj_Cm 93 1 [.ref 0, .int 0, .int 0, .int 0] M (mj_k 1 122 5 129 [some (.ref 0), some (.int x1), some (.int x2), some (.int x3), some (.int x4), some (.int x5), some (.int 0), some (.int 0), none, none, none] [] 0 (some .boolean) K)) ∧ ((p94 M x1) → (¬ (p94 M x3) → mj_Cm 93 1 [.ref 0, .int 0, .int 0, .int 0] M (mj_k 1 122 5 129 [some (.ref 0), some (.int x1), some (.int x2), some (.int x3), some (.int x4), some (.int x5), some (.int 0), some (.int 0), none, none, none] [] 0 (some .boolean) K)) ∧ ((p94 M x3) → vp_in (5 * x1 + 1114) 1242 ∧ ((¬ M 1 ((5 * x1 + 1114).toNatClampNeg) = 2 → (12 ≤ M 1 1241 → mj_Cm 93 1 [.ref 0, .int 1, .int 0, .int 0] M (mj_k 1 122 5 129 [some (.ref 0), some (.int x1), some (.int x2), some (.int x3), some (.int x4), some (.int x5), some (.int 1), some (.int 0), none, none, none] [] 0 (some .boolean) K)) ∧ (¬ 12 ≤ M 1 1241 → mj_Cm 120 1 [.ref 0, .int x1] M (mj_k 1 122 5 118 [some (.ref 0), some (.int x1), some (.int x2), some (.int x3), some (.int x4), some (.int x5), some (.int 1), some (.int 0), none, none, none] [.int 0, .int 1, .ref 0] 0 (some .boolean) K))) ∧ (M 1 ((5 * x1 + 1114).toNatClampNeg) = 2 → vp_in (5 * x3 + 1114) 1242 ∧ ((¬ M 1 ((5 * x3 + 1114).toNatClampNeg) = 0 → (12 ≤ M 1 1241 → mj_Cm 93 1 [.ref 0, .int 1, .int 0, .int 0] M (mj_k 1 122 5 129 [some (.ref 0), some (.int x1), some (.int x2), some (.int x3), some (.int x4), some (.int x5), some (.int 1), some (.int 0), none, none, none] [] 0 (some .boolean) K)) ∧ (¬ 12 ≤ M 1 1241 → mj_Cm 120 1 [.ref 0, .int x1] M (mj_k 1 122 5 118 [some (.ref 0), some (.int x1), some (.int x2), some (.int x3), some (.int x4), some (.int x5), some (.int 1), some (.int 0), none, none, none] [.int 0, .int 1, .ref 0] 0 (some .boolean) K))) ∧ (M 1 ((5 * x3 + 1114).toNatClampNeg) = 0 → (¬ (p92 M x2 0 20) → (12 ≤ M 1 1241 → mj_Cm 93 1 [.ref 0, .int 1, .int 0, .int 0] M (mj_k 1 122 5 129 [some (.ref 0), some (.int x1), some (.int x2), some (.int x3), some (.int x4), some (.int x5), some (.int 1), some (.int 0), none, none, none] [] 0 (some .boolean) K)) ∧ (¬ 12 ≤ M 1 1241 → mj_Cm 120 1 [.ref 0, .int x1] M (mj_k 1 122 5 118 [some (.ref 0), some (.int x1), some (.int x2), some (.int x3), some (.int x4), some (.int x5), some (.int 1), some (.int 0), none, none, none] [.int 0, .int 1, .ref 0] 0 (some .boolean) K))) ∧ ((p92 M x2 0 20) → (¬ (p92 M x4 0 99) → (12 ≤ M 1 1241 → mj_Cm 93 1 [.ref 0, .int 1, .int 0, .int 0] M (mj_k 1 122 5 129 [some (.ref 0), some (.int x1), some (.int x2), some (.int x3), some (.int x4), some (.int x5), some (.int 1), some (.int 0), none, none, none] [] 0 (some .boolean) K)) ∧ (¬ 12 ≤ M 1 1241 → mj_Cm 120 1 [.ref 0, .int x1] M (mj_k 1 122 5 118 [some (.ref 0), some (.int x1), some (.int x2), some (.int x3), some (.int x4), some (.int x5), some (.int 1), some (.int 0), none, none, none] [.int 0, .int 1, .ref 0] 0 (some .boolean) K))) ∧ ((p92 M x4 0 99) → (¬ (p92 M x5 1 9) → (12 ≤ M 1 1241 → mj_Cm 93 1 [.ref 0, .int 1, .int 0, .int 0] M (mj_k 1 122 5 129 [some (.ref 0), some (.int x1), some (.int x2), some (.int x3), some (.int x4), some (.int x5), some (.int 1), some (.int 0), none, none, none] [] 0 (some .boolean) K)) ∧ (¬ 12 ≤ M 1 1241 → mj_Cm 120 1 [.ref 0, .int x1] M (mj_k 1 122 5 118 [some (.ref 0), some (.int x1), some (.int x2), some (.int x3), some (.int x4), some (.int x5), some (.int 1), some (.int 0), none, none, none] [.int 0, .int 1, .ref 0] 0 (some .boolean) K))) ∧ ((p92 M x5 1 9) → (12 ≤ M 1 1241 → mj_Cm 93 1 [.ref 0, .int 1, .int 1, .int 0] M (mj_k 1 122 5 129 [some (.ref 0), some (.int x1), some (.int x2), some (.int x3), some (.int x4), some (.int x5), some (.int 1), some (.int 1), none, none, none] [] 0 (some .boolean) K)) ∧ (¬ 12 ≤ M 1 1241 → mj_Cm 120 1 [.ref 0, .int x1] M (mj_k 1 122 5 118 [some (.ref 0), some (.int x1), some (.int x2), some (.int x3), some (.int x4), some (.int x5), some (.int 1), some (.int 1), none, none, none] [.int 1, .int 1, .ref 0] 0 (some .boolean) K)))))))))))) : mj_W 1 122 5 0 [some (.ref 0), some (.int x1), some (.int x2), some (.int x3), some (.int x4), some (.int x5), none, none, none, none, none] [] M 0 K := by
  refine b122_0 ?_
  refine sp94  ?_
  refine b122_5 ?_
  refine ⟨fun c1 => ?_, fun c1 => ?_⟩
  · have h1a := h.1 (mj_bi0.mp c1)
    refine b122_20 ?_
    refine b122_21 ?_
    refine ⟨fun _ => ?_, fun c => absurd c (by decide)⟩
    · refine b122_87 ?_
      refine b122_88 ?_
      refine ⟨fun _ => ?_, fun c => absurd c (by decide)⟩
      · refine b122_125 ?_
        refine b122_126 ?_
        exact h1a
  · have h1a := h.2 (mj_bi1.mp c1)
    refine b122_8 ?_
    refine sp94  ?_
    refine b122_13 ?_
    refine ⟨fun c2 => ?_, fun c2 => ?_⟩
    · have h2a := h1a.1 (mj_bi0.mp c2)
      refine b122_20 ?_
      refine b122_21 ?_
      refine ⟨fun _ => ?_, fun c => absurd c (by decide)⟩
      · refine b122_87 ?_
        refine b122_88 ?_
        refine ⟨fun _ => ?_, fun c => absurd c (by decide)⟩
        · refine b122_125 ?_
          refine b122_126 ?_
          exact h2a
    · have h2a := h1a.2 (mj_bi1.mp c2)
      refine b122_16 ?_
      refine b122_21 ?_
      refine ⟨fun c => absurd c (by decide), fun _ => ?_⟩
      · refine b122_28 ?_
        have h3 := h2a.1
        have h4 := h2a.2
        refine sp98 h3 ?_
        refine b122_36 ?_
        refine ⟨fun c5 => ?_, fun c5 => ?_⟩
        · have h5a := h4.1 c5
          refine b122_87 ?_
          refine b122_88 ?_
          refine ⟨fun c => absurd c (by decide), fun _ => ?_⟩
          · refine b122_100 ?_
            refine ⟨fun c6 => ?_, fun c6 => ?_⟩
            · have h6a := h5a.1 c6
              refine b122_125 ?_
              refine b122_126 ?_
              exact h6a
            · have h6a := h5a.2 c6
              refine b122_113 ?_
              exact h6a
        · have h5a := h4.2 c5
          refine b122_40 ?_
          have h7 := h5a.1
          have h8 := h5a.2
          refine sp98 h7 ?_
          refine b122_48 ?_
          refine ⟨fun c9 => ?_, fun c9 => ?_⟩
          · have h9a := h8.1 c9
            refine b122_87 ?_
            refine b122_88 ?_
            refine ⟨fun c => absurd c (by decide), fun _ => ?_⟩
            · refine b122_100 ?_
              refine ⟨fun c10 => ?_, fun c10 => ?_⟩
              · have h10a := h9a.1 c10
                refine b122_125 ?_
                refine b122_126 ?_
                exact h10a
              · have h10a := h9a.2 c10
                refine b122_113 ?_
                exact h10a
          · have h9a := h8.2 c9
            refine b122_51 ?_
            refine sp92  ?_
            refine b122_58 ?_
            refine ⟨fun c11 => ?_, fun c11 => ?_⟩
            · have h11a := h9a.1 (mj_bi0.mp c11)
              refine b122_87 ?_
              refine b122_88 ?_
              refine ⟨fun c => absurd c (by decide), fun _ => ?_⟩
              · refine b122_100 ?_
                refine ⟨fun c12 => ?_, fun c12 => ?_⟩
                · have h12a := h11a.1 c12
                  refine b122_125 ?_
                  refine b122_126 ?_
                  exact h12a
                · have h12a := h11a.2 c12
                  refine b122_113 ?_
                  exact h12a
            · have h11a := h9a.2 (mj_bi1.mp c11)
              refine b122_61 ?_
              refine sp92  ?_
              refine b122_69 ?_
              refine ⟨fun c13 => ?_, fun c13 => ?_⟩
              · have h13a := h11a.1 (mj_bi0.mp c13)
                refine b122_87 ?_
                refine b122_88 ?_
                refine ⟨fun c => absurd c (by decide), fun _ => ?_⟩
                · refine b122_100 ?_
                  refine ⟨fun c14 => ?_, fun c14 => ?_⟩
                  · have h14a := h13a.1 c14
                    refine b122_125 ?_
                    refine b122_126 ?_
                    exact h14a
                  · have h14a := h13a.2 c14
                    refine b122_113 ?_
                    exact h14a
              · have h13a := h11a.2 (mj_bi1.mp c13)
                refine b122_72 ?_
                refine sp92  ?_
                refine b122_80 ?_
                refine ⟨fun c15 => ?_, fun c15 => ?_⟩
                · have h15a := h13a.1 (mj_bi0.mp c15)
                  refine b122_87 ?_
                  refine b122_88 ?_
                  refine ⟨fun c => absurd c (by decide), fun _ => ?_⟩
                  · refine b122_100 ?_
                    refine ⟨fun c16 => ?_, fun c16 => ?_⟩
                    · have h16a := h15a.1 c16
                      refine b122_125 ?_
                      refine b122_126 ?_
                      exact h16a
                    · have h16a := h15a.2 c16
                      refine b122_113 ?_
                      exact h16a
                · have h15a := h13a.2 (mj_bi1.mp c15)
                  refine b122_83 ?_
                  refine b122_88 ?_
                  refine ⟨fun c => absurd c (by decide), fun _ => ?_⟩
                  · refine b122_100 ?_
                    refine ⟨fun c17 => ?_, fun c17 => ?_⟩
                    · have h17a := h15a.1 c17
                      refine b122_125 ?_
                      refine b122_126 ?_
                      exact h17a
                    · have h17a := h15a.2 c17
                      refine b122_113 ?_
                      exact h17a
theorem e122 {M : mj_M} {K : mj_K} {x1 : Int32} {x2 : Int32} {x3 : Int32} {x4 : Int32} {x5 : Int32} (h : (¬ (p94 M x1) → mj_Cm 93 1 [.ref 0, .int 0, .int 0, .int 0] M (mj_k 1 122 5 129 [some (.ref 0), some (.int x1), some (.int x2), some (.int x3), some (.int x4), some (.int x5), some (.int 0), some (.int 0), none, none, none] [] 0 (some .boolean) K)) ∧ ((p94 M x1) → (¬ (p94 M x3) → mj_Cm 93 1 [.ref 0, .int 0, .int 0, .int 0] M (mj_k 1 122 5 129 [some (.ref 0), some (.int x1), some (.int x2), some (.int x3), some (.int x4), some (.int x5), some (.int 0), some (.int 0), none, none, none] [] 0 (some .boolean) K)) ∧ ((p94 M x3) → vp_in (5 * x1 + 1114) 1242 ∧ ((¬ M 1 ((5 * x1 + 1114).toNatClampNeg) = 2 → (12 ≤ M 1 1241 → mj_Cm 93 1 [.ref 0, .int 1, .int 0, .int 0] M (mj_k 1 122 5 129 [some (.ref 0), some (.int x1), some (.int x2), some (.int x3), some (.int x4), some (.int x5), some (.int 1), some (.int 0), none, none, none] [] 0 (some .boolean) K)) ∧ (¬ 12 ≤ M 1 1241 → mj_Cm 120 1 [.ref 0, .int x1] M (mj_k 1 122 5 118 [some (.ref 0), some (.int x1), some (.int x2), some (.int x3), some (.int x4), some (.int x5), some (.int 1), some (.int 0), none, none, none] [.int 0, .int 1, .ref 0] 0 (some .boolean) K))) ∧ (M 1 ((5 * x1 + 1114).toNatClampNeg) = 2 → vp_in (5 * x3 + 1114) 1242 ∧ ((¬ M 1 ((5 * x3 + 1114).toNatClampNeg) = 0 → (12 ≤ M 1 1241 → mj_Cm 93 1 [.ref 0, .int 1, .int 0, .int 0] M (mj_k 1 122 5 129 [some (.ref 0), some (.int x1), some (.int x2), some (.int x3), some (.int x4), some (.int x5), some (.int 1), some (.int 0), none, none, none] [] 0 (some .boolean) K)) ∧ (¬ 12 ≤ M 1 1241 → mj_Cm 120 1 [.ref 0, .int x1] M (mj_k 1 122 5 118 [some (.ref 0), some (.int x1), some (.int x2), some (.int x3), some (.int x4), some (.int x5), some (.int 1), some (.int 0), none, none, none] [.int 0, .int 1, .ref 0] 0 (some .boolean) K))) ∧ (M 1 ((5 * x3 + 1114).toNatClampNeg) = 0 → (¬ (p92 M x2 0 20) → (12 ≤ M 1 1241 → mj_Cm 93 1 [.ref 0, .int 1, .int 0, .int 0] M (mj_k 1 122 5 129 [some (.ref 0), some (.int x1), some (.int x2), some (.int x3), some (.int x4), some (.int x5), some (.int 1), some (.int 0), none, none, none] [] 0 (some .boolean) K)) ∧ (¬ 12 ≤ M 1 1241 → mj_Cm 120 1 [.ref 0, .int x1] M (mj_k 1 122 5 118 [some (.ref 0), some (.int x1), some (.int x2), some (.int x3), some (.int x4), some (.int x5), some (.int 1), some (.int 0), none, none, none] [.int 0, .int 1, .ref 0] 0 (some .boolean) K))) ∧ ((p92 M x2 0 20) → (¬ (p92 M x4 0 99) → (12 ≤ M 1 1241 → mj_Cm 93 1 [.ref 0, .int 1, .int 0, .int 0] M (mj_k 1 122 5 129 [some (.ref 0), some (.int x1), some (.int x2), some (.int x3), some (.int x4), some (.int x5), some (.int 1), some (.int 0), none, none, none] [] 0 (some .boolean) K)) ∧ (¬ 12 ≤ M 1 1241 → mj_Cm 120 1 [.ref 0, .int x1] M (mj_k 1 122 5 118 [some (.ref 0), some (.int x1), some (.int x2), some (.int x3), some (.int x4), some (.int x5), some (.int 1), some (.int 0), none, none, none] [.int 0, .int 1, .ref 0] 0 (some .boolean) K))) ∧ ((p92 M x4 0 99) → (¬ (p92 M x5 1 9) → (12 ≤ M 1 1241 → mj_Cm 93 1 [.ref 0, .int 1, .int 0, .int 0] M (mj_k 1 122 5 129 [some (.ref 0), some (.int x1), some (.int x2), some (.int x3), some (.int x4), some (.int x5), some (.int 1), some (.int 0), none, none, none] [] 0 (some .boolean) K)) ∧ (¬ 12 ≤ M 1 1241 → mj_Cm 120 1 [.ref 0, .int x1] M (mj_k 1 122 5 118 [some (.ref 0), some (.int x1), some (.int x2), some (.int x3), some (.int x4), some (.int x5), some (.int 1), some (.int 0), none, none, none] [.int 0, .int 1, .ref 0] 0 (some .boolean) K))) ∧ ((p92 M x5 1 9) → (12 ≤ M 1 1241 → mj_Cm 93 1 [.ref 0, .int 1, .int 1, .int 0] M (mj_k 1 122 5 129 [some (.ref 0), some (.int x1), some (.int x2), some (.int x3), some (.int x4), some (.int x5), some (.int 1), some (.int 1), none, none, none] [] 0 (some .boolean) K)) ∧ (¬ 12 ≤ M 1 1241 → mj_Cm 120 1 [.ref 0, .int x1] M (mj_k 1 122 5 118 [some (.ref 0), some (.int x1), some (.int x2), some (.int x3), some (.int x4), some (.int x5), some (.int 1), some (.int 1), none, none, none] [.int 1, .int 1, .ref 0] 0 (some .boolean) K)))))))))))) : mj_Cm 122 5 [.ref 0, .int x1, .int x2, .int x3, .int x4, .int x5] M K := mj_en rfl rfl rfl (t122_0 h)

theorem t122_238 {M : mj_M} {K : mj_K} {x1 : Int32} {x2 : Int32} {x3 : Int32} {x4 : Int32} {x5 : Int32} {x6 : Int32} {x7 : Int32} {x8 : Int32} {x9 : Int32} {x10 : Int32} (h : (x8 ≤ x10 → K 0 (M 1 1241 - 1) M) ∧ (¬ x8 ≤ x10 → mj_Cm 118 4 [.ref 0, .int x1, .int x3, .int 0, .int 0, .int (-1)] M (mj_k 1 122 5 254 [some (.ref 0), some (.int x1), some (.int x2), some (.int x3), some (.int x4), some (.int x5), some (.int x6), some (.int x7), some (.int x8), some (.int x9), some (.int x10)] [] 0 (some .int) K))) : mj_W 1 122 5 238 [some (.ref 0), some (.int x1), some (.int x2), some (.int x3), some (.int x4), some (.int x5), some (.int x6), some (.int x7), some (.int x8), some (.int x9), some (.int x10)] [] M 0 K := by
  refine b122_238 ?_
  refine ⟨fun c1 => ?_, fun c1 => ?_⟩
  · have h1a := h.1 c1
    refine b122_261 ?_
    exact h1a
  · have h1a := h.2 c1
    refine b122_245 ?_
    exact h1a

theorem t122_129 {M : mj_M} {K : mj_K} {x1 : Int32} {x2 : Int32} {x3 : Int32} {x4 : Int32} {x5 : Int32} {x6 : Int32} {x7 : Int32} {o8 : Option Value} {o9 : Option Value} {o10 : Option Value} {s0 : Int32} (h : (¬ s0 = 0 → mj_Cm 115 3 [.ref 0, .int x1] M (mj_k 1 122 5 140 [some (.ref 0), some (.int x1), some (.int x2), some (.int x3), some (.int x4), some (.int x5), some (.int x6), some (.int x7), o8, o9, o10] [.int x2] 0 (some .int) K)) ∧ (s0 = 0 → K 0 0 M)) : mj_W 1 122 5 129 [some (.ref 0), some (.int x1), some (.int x2), some (.int x3), some (.int x4), some (.int x5), some (.int x6), some (.int x7), o8, o9, o10] [.int s0] M 0 K := by
  refine b122_129 ?_
  refine ⟨fun c1 => ?_, fun c1 => ?_⟩
  · have h1a := h.1 c1
    refine b122_134 ?_
    exact h1a
  · have h1a := h.2 c1
    refine b122_132 ?_
    exact h1a

theorem t122_118 {M : mj_M} {K : mj_K} {x1 : Int32} {x2 : Int32} {x3 : Int32} {x4 : Int32} {x5 : Int32} {x6 : Int32} {x7 : Int32} {o8 : Option Value} {o9 : Option Value} {o10 : Option Value} {s1 : Int32} {s2 : Int32} {s3 : Int32} (h : (¬ s3 = 0 → mj_Cm 93 1 [.ref 0, .int s1, .int s2, .int 0] M (mj_k 1 122 5 129 [some (.ref 0), some (.int x1), some (.int x2), some (.int x3), some (.int x4), some (.int x5), some (.int x6), some (.int x7), o8, o9, o10] [] 0 (some .boolean) K)) ∧ (s3 = 0 → mj_Cm 93 1 [.ref 0, .int s1, .int s2, .int 1] M (mj_k 1 122 5 129 [some (.ref 0), some (.int x1), some (.int x2), some (.int x3), some (.int x4), some (.int x5), some (.int x6), some (.int x7), o8, o9, o10] [] 0 (some .boolean) K))) : mj_W 1 122 5 118 [some (.ref 0), some (.int x1), some (.int x2), some (.int x3), some (.int x4), some (.int x5), some (.int x6), some (.int x7), o8, o9, o10] [.int s3, .int s2, .int s1, .ref 0] M 0 K := by
  refine b122_118 ?_
  refine ⟨fun c1 => ?_, fun c1 => ?_⟩
  · have h1a := h.1 c1
    refine b122_125 ?_
    refine b122_126 ?_
    exact h1a
  · have h1a := h.2 c1
    refine b122_121 ?_
    refine b122_126 ?_
    exact h1a

theorem t122_254 {M : mj_M} {K : mj_K} {x1 : Int32} {x2 : Int32} {x3 : Int32} {x4 : Int32} {x5 : Int32} {x6 : Int32} {x7 : Int32} {x8 : Int32} {x9 : Int32} {x10 : Int32} {s0 : Int32} (h : mj_W 1 122 5 238 [some (.ref 0), some (.int x1), some (.int x2), some (.int x3), some (.int x4), some (.int x5), some (.int x6), some (.int x7), some (.int x8), some (.int x9), some (.int (x10 + 1))] [] M 0 K) : mj_W 1 122 5 254 [some (.ref 0), some (.int x1), some (.int x2), some (.int x3), some (.int x4), some (.int x5), some (.int x6), some (.int x7), some (.int x8), some (.int x9), some (.int x10)] [.int s0] M 0 K := by
  refine b122_254 ?_
  exact h

theorem t122_140 {M : mj_M} {K : mj_K} {x1 : Int32} {x2 : Int32} {x3 : Int32} {x4 : Int32} {x5 : Int32} {x6 : Int32} {x7 : Int32} {o8 : Option Value} {o9 : Option Value} {o10 : Option Value} {s0 : Int32} {s1 : Int32} (h : vp_in (6 * M 1 1241 + 1164) 1242 ∧ vp_in (6 * M 1 1241 + 1166) 1242 ∧ vp_in (6 * M 1 1241 + 1167) 1242 ∧ vp_in (6 * M 1 1241 + 1168) 1242 ∧ mj_W 1 122 5 238 [some (.ref 0), some (.int x1), some (.int x2), some (.int x3), some (.int x4), some (.int x5), some (.int x6), some (.int x7), some (.int (f121 M s0 (f121 M s1 (120 - M 1 1240)))), some (.int (6 * M 1 1241)), some (.int 0)] [] (mj_u (mj_u (mj_u (mj_u (mj_u M 1 ((6 * M 1 1241 + 1164).toNatClampNeg) x1) 1 ((6 * M 1 1241 + 1166).toNatClampNeg) (f121 M s0 (f121 M s1 (120 - M 1 1240)))) 1 ((6 * M 1 1241 + 1167).toNatClampNeg) x4) 1 ((6 * M 1 1241 + 1168).toNatClampNeg) x5) 1 1241 ((mj_u (mj_u (mj_u (mj_u M 1 ((6 * M 1 1241 + 1164).toNatClampNeg) x1) 1 ((6 * M 1 1241 + 1166).toNatClampNeg) (f121 M s0 (f121 M s1 (120 - M 1 1240)))) 1 ((6 * M 1 1241 + 1167).toNatClampNeg) x4) 1 ((6 * M 1 1241 + 1168).toNatClampNeg) x5) 1 1241 + 1)) 0 K) : mj_W 1 122 5 140 [some (.ref 0), some (.int x1), some (.int x2), some (.int x3), some (.int x4), some (.int x5), some (.int x6), some (.int x7), o8, o9, o10] [.int s1, .int s0] M 0 K := by
  refine b122_140 ?_
  refine sp121  ?_
  refine b122_154 ?_
  refine sp121  ?_
  refine b122_157 ?_
  have g1 := h.1
  refine ⟨g1, ?_⟩
  have h1 := h.2
  have g2 := h1.1
  refine ⟨g2, ?_⟩
  have h2 := h1.2
  have g3 := h2.1
  refine ⟨g3, ?_⟩
  have h3 := h2.2
  have g4 := h3.1
  refine ⟨g4, ?_⟩
  have h4 := h3.2
  exact h4

theorem t123_0 {M : mj_M} {K : mj_K}  (h : mj_W 1 123 4 13 [some (.ref 0), some (.int 0), some (.int 0), none, none, none] [] (mj_u M 1 1237 1) 0 K) : mj_W 1 123 4 0 [some (.ref 0), none, none, none, none, none] [] M 0 K := by
  refine b123_0 ?_
  exact h
theorem e123 {M : mj_M} {K : mj_K}  (h : mj_W 1 123 4 13 [some (.ref 0), some (.int 0), some (.int 0), none, none, none] [] (mj_u M 1 1237 1) 0 K) : mj_Cm 123 4 [.ref 0] M K := mj_en rfl rfl rfl (t123_0 h)

theorem t123_13 {M : mj_M} {K : mj_K} {x1 : Int32} {x2 : Int32} {o3 : Option Value} {o4 : Option Value} {o5 : Option Value} (h : (M 1 1240 ≤ x2 → K 0 x1 M) ∧ (¬ M 1 1240 ≤ x2 → vp_in (8 * x2 + 1) 1242 ∧ ((2 ≤ M 1 ((8 * x2 + 1).toNatClampNeg) → vp_in (8 * x2 + 6) 1242 ∧ mj_W 1 123 4 13 [some (.ref 0), some (.int x1), some (.int (x2 + 1)), o3, o4, o5] [] (mj_u M 1 ((8 * x2 + 6).toNatClampNeg) 0) 0 K) ∧ (¬ 2 ≤ M 1 ((8 * x2 + 1).toNatClampNeg) → mj_W 1 123 4 44 [some (.ref 0), some (.int x1), some (.int x2), some (.int (-1)), some (.int 1000000), some (.int 0)] [] M 0 K)))) : mj_W 1 123 4 13 [some (.ref 0), some (.int x1), some (.int x2), o3, o4, o5] [] M 0 K := by
  refine b123_13 ?_
  refine ⟨fun c1 => ?_, fun c1 => ?_⟩
  · have h1a := h.1 c1
    refine b123_196 ?_
    exact h1a
  · have h1a := h.2 c1
    refine b123_25 ?_
    have h2 := h1a.1
    have h3 := h1a.2
    refine sp99 h2 ?_
    refine b123_31 ?_
    refine ⟨fun c4 => ?_, fun c4 => ?_⟩
    · have h4a := h3.1 c4
      refine b123_177 ?_
      have g5 := h4a.1
      refine ⟨g5, ?_⟩
      have h5 := h4a.2
      exact h5
    · have h4a := h3.2 c4
      refine b123_35 ?_
      exact h4a

theorem t123_44 {M : mj_M} {K : mj_K} {x1 : Int32} {x2 : Int32} {x3 : Int32} {x4 : Int32} {x5 : Int32} (h : (M 1 1238 ≤ x5 → (x3 = (-1) → (¬ x3 = (-1) → vp_in (8 * x2 + 2) 1242 ∧ mj_Cm 116 2 [.ref 0, .int x2] (mj_u M 1 ((8 * x2 + 2).toNatClampNeg) x3) (mj_k 1 123 4 177 [some (.ref 0), some (.int (x1 + 0)), some (.int x2), some (.int x3), some (.int x4), some (.int x5)] [] 0 none K)) ∧ (x3 = (-1) → vp_in (8 * x2 + 2) 1242 ∧ (vp_in (8 * x2 + 2) 1242 ∧ mj_Cm 116 2 [.ref 0, .int x2] (mj_u M 1 ((8 * x2 + 2).toNatClampNeg) (M 1 ((8 * x2 + 2).toNatClampNeg))) (mj_k 1 123 4 177 [some (.ref 0), some (.int (x1 + 0)), some (.int x2), some (.int x3), some (.int x4), some (.int x5)] [] 0 none K)))) ∧ (¬ x3 = (-1) → vp_in (8 * x2 + 2) 1242 ∧ ((x3 = M 1 ((8 * x2 + 2).toNatClampNeg) → (¬ x3 = (-1) → vp_in (8 * x2 + 2) 1242 ∧ mj_Cm 116 2 [.ref 0, .int x2] (mj_u M 1 ((8 * x2 + 2).toNatClampNeg) x3) (mj_k 1 123 4 177 [some (.ref 0), some (.int (x1 + 0)), some (.int x2), some (.int x3), some (.int x4), some (.int x5)] [] 0 none K)) ∧ (x3 = (-1) → vp_in (8 * x2 + 2) 1242 ∧ (vp_in (8 * x2 + 2) 1242 ∧ mj_Cm 116 2 [.ref 0, .int x2] (mj_u M 1 ((8 * x2 + 2).toNatClampNeg) (M 1 ((8 * x2 + 2).toNatClampNeg))) (mj_k 1 123 4 177 [some (.ref 0), some (.int (x1 + 0)), some (.int x2), some (.int x3), some (.int x4), some (.int x5)] [] 0 none K)))) ∧ (¬ x3 = M 1 ((8 * x2 + 2).toNatClampNeg) → (¬ x3 = (-1) → vp_in (8 * x2 + 2) 1242 ∧ mj_Cm 116 2 [.ref 0, .int x2] (mj_u M 1 ((8 * x2 + 2).toNatClampNeg) x3) (mj_k 1 123 4 177 [some (.ref 0), some (.int (x1 + 1)), some (.int x2), some (.int x3), some (.int x4), some (.int x5)] [] 0 none K)) ∧ (x3 = (-1) → vp_in (8 * x2 + 2) 1242 ∧ (vp_in (8 * x2 + 2) 1242 ∧ mj_Cm 116 2 [.ref 0, .int x2] (mj_u M 1 ((8 * x2 + 2).toNatClampNeg) (M 1 ((8 * x2 + 2).toNatClampNeg))) (mj_k 1 123 4 177 [some (.ref 0), some (.int (x1 + 1)), some (.int x2), some (.int x3), some (.int x4), some (.int x5)] [] 0 none K))))))) ∧ (¬ M 1 1238 ≤ x5 → vp_in (5 * x5 + 1114) 1242 ∧ ((¬ M 1 ((5 * x5 + 1114).toNatClampNeg) = 0 → mj_W 1 123 4 44 [some (.ref 0), some (.int x1), some (.int x2), some (.int x3), some (.int x4), some (.int (x5 + 1))] [] M 0 K) ∧ (M 1 ((5 * x5 + 1114).toNatClampNeg) = 0 → mj_Cm 111 3 [.ref 0, .int x2, .int x5] M (mj_k 1 123 4 76 [some (.ref 0), some (.int x1), some (.int x2), some (.int x3), some (.int x4), some (.int x5)] [] 0 none K))))) : mj_W 1 123 4 44 [some (.ref 0), some (.int x1), some (.int x2), some (.int x3), some (.int x4), some (.int x5)] [] M 0 K := by
  refine b123_44 ?_
  refine ⟨fun c1 => ?_, fun c1 => ?_⟩
  · have h1a := h.1 c1
    refine b123_123 ?_
    refine ⟨fun c2 => ?_, fun c2 => ?_⟩
    · have h2a := h1a.1 c2
      refine b123_143 ?_
      refine b123_144 ?_
      refine ⟨fun c3 => ?_, fun c3 => ?_⟩
      · have h3a := h2a.1 c3
        refine b123_170 ?_
        refine b123_171 ?_
        have g4 := h3a.1
        refine ⟨g4, ?_⟩
        have h4 := h3a.2
        exact h4
      · have h3a := h2a.2 c3
        refine b123_161 ?_
        have h5 := h3a.1
        have h6 := h3a.2
        refine sp99 h5 ?_
        refine b123_167 ?_
        refine b123_171 ?_
        have g7 := h6.1
        refine ⟨g7, ?_⟩
        have h7 := h6.2
        exact h7
    · have h2a := h1a.2 c2
      refine b123_129 ?_
      have h8 := h2a.1
      have h9 := h2a.2
      refine sp99 h8 ?_
      refine b123_136 ?_
      refine ⟨fun c10 => ?_, fun c10 => ?_⟩
      · have h10a := h9.1 c10
        refine b123_143 ?_
        refine b123_144 ?_
        refine ⟨fun c11 => ?_, fun c11 => ?_⟩
        · have h11a := h10a.1 c11
          refine b123_170 ?_
          refine b123_171 ?_
          have g12 := h11a.1
          refine ⟨g12, ?_⟩
          have h12 := h11a.2
          exact h12
        · have h11a := h10a.2 c11
          refine b123_161 ?_
          have h13 := h11a.1
          have h14 := h11a.2
          refine sp99 h13 ?_
          refine b123_167 ?_
          refine b123_171 ?_
          have g15 := h14.1
          refine ⟨g15, ?_⟩
          have h15 := h14.2
          exact h15
      · have h10a := h9.2 c10
        refine b123_139 ?_
        refine b123_144 ?_
        refine ⟨fun c16 => ?_, fun c16 => ?_⟩
        · have h16a := h10a.1 c16
          refine b123_170 ?_
          refine b123_171 ?_
          have g17 := h16a.1
          refine ⟨g17, ?_⟩
          have h17 := h16a.2
          exact h17
        · have h16a := h10a.2 c16
          refine b123_161 ?_
          have h18 := h16a.1
          have h19 := h16a.2
          refine sp99 h18 ?_
          refine b123_167 ?_
          refine b123_171 ?_
          have g20 := h19.1
          refine ⟨g20, ?_⟩
          have h20 := h19.2
          exact h20
  · have h1a := h.2 c1
    refine b123_57 ?_
    have h21 := h1a.1
    have h22 := h1a.2
    refine sp98 h21 ?_
    refine b123_66 ?_
    refine ⟨fun c23 => ?_, fun c23 => ?_⟩
    · have h23a := h22.1 c23
      refine b123_117 ?_
      exact h23a
    · have h23a := h22.2 c23
      refine b123_69 ?_
      exact h23a

theorem t123_177 {M : mj_M} {K : mj_K} {x1 : Int32} {x2 : Int32} {o3 : Option Value} {o4 : Option Value} {o5 : Option Value} (h : vp_in (8 * x2 + 6) 1242 ∧ mj_W 1 123 4 13 [some (.ref 0), some (.int x1), some (.int (x2 + 1)), o3, o4, o5] [] (mj_u M 1 ((8 * x2 + 6).toNatClampNeg) 0) 0 K) : mj_W 1 123 4 177 [some (.ref 0), some (.int x1), some (.int x2), o3, o4, o5] [] M 0 K := by
  refine b123_177 ?_
  have g1 := h.1
  refine ⟨g1, ?_⟩
  have h1 := h.2
  exact h1

theorem t123_76 {M : mj_M} {K : mj_K} {x1 : Int32} {x2 : Int32} {x3 : Int32} {x4 : Int32} {x5 : Int32} (h : vp_in (8 * x2 + 0) 1242 ∧ (vp_in (M 1 ((8 * x2 + 0).toNatClampNeg)) 10 ∧ ((x4 ≤ M 3 ((M 1 ((8 * x2 + 0).toNatClampNeg)).toNatClampNeg) → vp_in (8 * x2 + 0) 1242 ∧ mj_W 1 123 4 44 [some (.ref 0), some (.int x1), some (.int x2), some (.int x3), some (.int (f121 M x4 (M 3 ((M 1 ((8 * x2 + 0).toNatClampNeg)).toNatClampNeg)))), some (.int (x5 + 1))] [] M 0 K) ∧ (¬ x4 ≤ M 3 ((M 1 ((8 * x2 + 0).toNatClampNeg)).toNatClampNeg) → vp_in (8 * x2 + 0) 1242 ∧ mj_W 1 123 4 44 [some (.ref 0), some (.int x1), some (.int x2), some (.int x5), some (.int (f121 M x4 (M 3 ((M 1 ((8 * x2 + 0).toNatClampNeg)).toNatClampNeg)))), some (.int (x5 + 1))] [] M 0 K)))) : mj_W 1 123 4 76 [some (.ref 0), some (.int x1), some (.int x2), some (.int x3), some (.int x4), some (.int x5)] [] M 0 K := by
  refine b123_76 ?_
  have h1 := h.1
  have h2 := h.2
  refine sp99 h1 ?_
  refine b123_86 ?_
  have g3 := h2.1
  refine ⟨g3, ?_⟩
  have h3 := h2.2
  refine ⟨fun c4 => ?_, fun c4 => ?_⟩
  · have h4a := h3.1 c4
    refine b123_97 ?_
    refine b123_98 ?_
    have h5 := h4a.1
    have h6 := h4a.2
    refine sp99 h5 ?_
    refine b123_111 ?_
    refine ⟨g3, ?_⟩
    refine sp121  ?_
    refine b123_115 ?_
    refine b123_117 ?_
    exact h6
  · have h4a := h3.2 c4
    refine b123_92 ?_
    refine b123_98 ?_
    have h7 := h4a.1
    have h8 := h4a.2
    refine sp99 h7 ?_
    refine b123_111 ?_
    refine ⟨g3, ?_⟩
    refine sp121  ?_
    refine b123_115 ?_
    refine b123_117 ?_
    exact h8

theorem t124_0 {M : mj_M} {K : mj_K}  (h : mj_Cm 123 4 [.ref 0] (mj_u M 0 5 0) (mj_k 1 124 5 9 [some (.ref 0)] [] 0 (some .int) K)) : mj_W 1 124 5 0 [some (.ref 0)] [] M 0 K := by
  refine b124_0 ?_
  exact h
theorem e124 {M : mj_M} {K : mj_K}  (h : mj_Cm 123 4 [.ref 0] (mj_u M 0 5 0) (mj_k 1 124 5 9 [some (.ref 0)] [] 0 (some .int) K)) : mj_Cm 124 5 [.ref 0] M K := mj_en rfl rfl rfl (t124_0 h)

theorem t124_9 {M : mj_M} {K : mj_K} {s0 : Int32} (h : K 0 s0 M) : mj_W 1 124 5 9 [some (.ref 0)] [.int s0] M 0 K := by
  refine b124_9 ?_
  exact h

theorem t125_0 {M : mj_M} {K : mj_K} {x1 : Int32} {x2 : Int32} (h : vp_in (8 * x1 + 1) 1242 ∧ ((¬ M 1 ((8 * x1 + 1).toNatClampNeg) = 0 → K 0 0 M) ∧ (M 1 ((8 * x1 + 1).toNatClampNeg) = 0 → vp_in (8 * x1 + 0) 1242 ∧ ((¬ M 1 ((8 * x1 + 0).toNatClampNeg) = x2 → K 0 0 M) ∧ (M 1 ((8 * x1 + 0).toNatClampNeg) = x2 → vp_in (8 * x1 + 2) 1242 ∧ ((¬ M 1 ((8 * x1 + 2).toNatClampNeg) = x2 → K 0 0 M) ∧ (M 1 ((8 * x1 + 2).toNatClampNeg) = x2 → vp_in (8 * x1 + 6) 1242 ∧ ((¬ M 1 ((8 * x1 + 6).toNatClampNeg) = 1 → K 0 0 M) ∧ (M 1 ((8 * x1 + 6).toNatClampNeg) = 1 → K 0 1 M))))))))) : mj_W 1 125 2 0 [some (.ref 0), some (.int x1), some (.int x2)] [] M 0 K := by
  refine b125_0 ?_
  have h1 := h.1
  have h2 := h.2
  refine sp99 h1 ?_
  refine b125_6 ?_
  refine ⟨fun c3 => ?_, fun c3 => ?_⟩
  · have h3a := h2.1 c3
    refine b125_44 ?_
    refine b125_45 ?_
    rw [mj_nb0]
    exact h3a
  · have h3a := h2.2 c3
    refine b125_9 ?_
    have h4 := h3a.1
    have h5 := h3a.2
    refine sp99 h4 ?_
    refine b125_15 ?_
    refine ⟨fun c6 => ?_, fun c6 => ?_⟩
    · have h6a := h5.1 c6
      refine b125_44 ?_
      refine b125_45 ?_
      rw [mj_nb0]
      exact h6a
    · have h6a := h5.2 c6
      refine b125_19 ?_
      have h7 := h6a.1
      have h8 := h6a.2
      refine sp99 h7 ?_
      refine b125_25 ?_
      refine ⟨fun c9 => ?_, fun c9 => ?_⟩
      · have h9a := h8.1 c9
        refine b125_44 ?_
        refine b125_45 ?_
        rw [mj_nb0]
        exact h9a
      · have h9a := h8.2 c9
        refine b125_29 ?_
        have h10 := h9a.1
        have h11 := h9a.2
        refine sp99 h10 ?_
        refine b125_36 ?_
        refine ⟨fun c12 => ?_, fun c12 => ?_⟩
        · have h12a := h11.1 c12
          refine b125_44 ?_
          refine b125_45 ?_
          rw [mj_nb0]
          exact h12a
        · have h12a := h11.2 c12
          refine b125_40 ?_
          refine b125_45 ?_
          rw [mj_nb1]
          exact h12a
theorem e125 {M : mj_M} {K : mj_K} {x1 : Int32} {x2 : Int32} (h : vp_in (8 * x1 + 1) 1242 ∧ ((¬ M 1 ((8 * x1 + 1).toNatClampNeg) = 0 → K 0 0 M) ∧ (M 1 ((8 * x1 + 1).toNatClampNeg) = 0 → vp_in (8 * x1 + 0) 1242 ∧ ((¬ M 1 ((8 * x1 + 0).toNatClampNeg) = x2 → K 0 0 M) ∧ (M 1 ((8 * x1 + 0).toNatClampNeg) = x2 → vp_in (8 * x1 + 2) 1242 ∧ ((¬ M 1 ((8 * x1 + 2).toNatClampNeg) = x2 → K 0 0 M) ∧ (M 1 ((8 * x1 + 2).toNatClampNeg) = x2 → vp_in (8 * x1 + 6) 1242 ∧ ((¬ M 1 ((8 * x1 + 6).toNatClampNeg) = 1 → K 0 0 M) ∧ (M 1 ((8 * x1 + 6).toNatClampNeg) = 1 → K 0 1 M))))))))) : mj_Cm 125 2 [.ref 0, .int x1, .int x2] M K := mj_en rfl rfl rfl (t125_0 h)

theorem t126_0 {M : mj_M} {K : mj_K} {x1 : Int32} (h : mj_W 1 126 3 4 [some (.ref 0), some (.int x1), some (.int (-1)), some (.int 0)] [] M 0 K) : mj_W 1 126 3 0 [some (.ref 0), some (.int x1), none, none] [] M 0 K := by
  refine b126_0 ?_
  exact h
theorem e126 {M : mj_M} {K : mj_K} {x1 : Int32} (h : mj_W 1 126 3 4 [some (.ref 0), some (.int x1), some (.int (-1)), some (.int 0)] [] M 0 K) : mj_Cm 126 3 [.ref 0, .int x1] M K := mj_en rfl rfl rfl (t126_0 h)

theorem t126_4 {M : mj_M} {K : mj_K} {x1 : Int32} {x2 : Int32} {x3 : Int32} (h : (M 1 1240 ≤ x3 → K 0 x2 M) ∧ (¬ M 1 1240 ≤ x3 → mj_Cm 125 2 [.ref 0, .int x3, .int x1] M (mj_k 1 126 3 22 [some (.ref 0), some (.int x1), some (.int x2), some (.int x3)] [] 0 (some .boolean) K))) : mj_W 1 126 3 4 [some (.ref 0), some (.int x1), some (.int x2), some (.int x3)] [] M 0 K := by
  refine b126_4 ?_
  refine ⟨fun c1 => ?_, fun c1 => ?_⟩
  · have h1a := h.1 c1
    refine b126_59 ?_
    exact h1a
  · have h1a := h.2 c1
    refine b126_16 ?_
    exact h1a

theorem t126_22 {M : mj_M} {K : mj_K} {x1 : Int32} {x2 : Int32} {x3 : Int32} {s0 : Int32} (h : (s0 = 0 → mj_W 1 126 3 4 [some (.ref 0), some (.int x1), some (.int x2), some (.int (x3 + 1))] [] M 0 K) ∧ (¬ s0 = 0 → (x2 = (-1) → mj_W 1 126 3 4 [some (.ref 0), some (.int x1), some (.int x3), some (.int (x3 + 1))] [] M 0 K) ∧ (¬ x2 = (-1) → vp_in (8 * x3 + 7) 1242 ∧ (vp_in (8 * x2 + 7) 1242 ∧ ((M 1 ((8 * x2 + 7).toNatClampNeg) ≤ M 1 ((8 * x3 + 7).toNatClampNeg) → mj_W 1 126 3 4 [some (.ref 0), some (.int x1), some (.int x2), some (.int (x3 + 1))] [] M 0 K) ∧ (¬ M 1 ((8 * x2 + 7).toNatClampNeg) ≤ M 1 ((8 * x3 + 7).toNatClampNeg) → mj_W 1 126 3 4 [some (.ref 0), some (.int x1), some (.int x3), some (.int (x3 + 1))] [] M 0 K)))))) : mj_W 1 126 3 22 [some (.ref 0), some (.int x1), some (.int x2), some (.int x3)] [.int s0] M 0 K := by
  refine b126_22 ?_
  refine ⟨fun c1 => ?_, fun c1 => ?_⟩
  · have h1a := h.1 c1
    refine b126_51 ?_
    refine b126_52 ?_
    exact h1a
  · have h1a := h.2 c1
    refine b126_25 ?_
    refine ⟨fun c2 => ?_, fun c2 => ?_⟩
    · have h2a := h1a.1 c2
      refine b126_47 ?_
      refine b126_52 ?_
      exact h2a
    · have h2a := h1a.2 c2
      refine b126_30 ?_
      have h3 := h2a.1
      have h4 := h2a.2
      refine sp99 h3 ?_
      refine b126_37 ?_
      have h5 := h4.1
      have h6 := h4.2
      refine sp99 h5 ?_
      refine b126_44 ?_
      refine ⟨fun c7 => ?_, fun c7 => ?_⟩
      · have h7a := h6.1 c7
        refine b126_51 ?_
        refine b126_52 ?_
        exact h7a
      · have h7a := h6.2 c7
        refine b126_47 ?_
        refine b126_52 ?_
        exact h7a

theorem t127_0 {M : mj_M} {K : mj_K} {x1 : Int32} (h : vp_in (6 * x1 + 1164) 1242 ∧ mj_W 1 127 4 19 [some (.ref 0), some (.int x1), some (.int (6 * x1)), some (.int (M 1 ((6 * x1 + 1164).toNatClampNeg))), some (.int 0)] [] M 0 K) : mj_W 1 127 4 0 [some (.ref 0), some (.int x1), none, none, none] [] M 0 K := by
  refine b127_0 ?_
  have g1 := h.1
  refine ⟨g1, ?_⟩
  have h1 := h.2
  exact h1
theorem e127 {M : mj_M} {K : mj_K} {x1 : Int32} (h : vp_in (6 * x1 + 1164) 1242 ∧ mj_W 1 127 4 19 [some (.ref 0), some (.int x1), some (.int (6 * x1)), some (.int (M 1 ((6 * x1 + 1164).toNatClampNeg))), some (.int 0)] [] M 0 K) : mj_Cm 127 4 [.ref 0, .int x1] M K := mj_en rfl rfl rfl (t127_0 h)

theorem t127_19 {M : mj_M} {K : mj_K} {x1 : Int32} {x2 : Int32} {x3 : Int32} {x4 : Int32} (h : (4 ≤ x4 → vp_in (x2 + 1168) 1242 ∧ ((¬ (mj_u M 1 ((x2 + 1168).toNatClampNeg) (M 1 ((x2 + 1168).toNatClampNeg) - 1)) 1 ((x2 + 1168).toNatClampNeg) = 0 → K 0 0 (mj_u M 1 ((x2 + 1168).toNatClampNeg) (M 1 ((x2 + 1168).toNatClampNeg) - 1))) ∧ ((mj_u M 1 ((x2 + 1168).toNatClampNeg) (M 1 ((x2 + 1168).toNatClampNeg) - 1)) 1 ((x2 + 1168).toNatClampNeg) = 0 → vp_in (x2 + 1169) 1242 ∧ ((3 ≤ (mj_u M 1 ((x2 + 1168).toNatClampNeg) (M 1 ((x2 + 1168).toNatClampNeg) - 1)) 1 ((x2 + 1169).toNatClampNeg) → K 0 0 (mj_u M 1 ((x2 + 1168).toNatClampNeg) (M 1 ((x2 + 1168).toNatClampNeg) - 1))) ∧ (¬ 3 ≤ (mj_u M 1 ((x2 + 1168).toNatClampNeg) (M 1 ((x2 + 1168).toNatClampNeg) - 1)) 1 ((x2 + 1169).toNatClampNeg) → vp_in (x2 + 1167) 1242 ∧ vp_in (x2 + 1165) 1242 ∧ (((mj_u M 1 ((x2 + 1168).toNatClampNeg) (M 1 ((x2 + 1168).toNatClampNeg) - 1)) 1 ((x2 + 1167).toNatClampNeg) ≤ (mj_u M 1 ((x2 + 1168).toNatClampNeg) (M 1 ((x2 + 1168).toNatClampNeg) - 1)) 1 ((x2 + 1165).toNatClampNeg) → K 0 0 (mj_u M 1 ((x2 + 1168).toNatClampNeg) (M 1 ((x2 + 1168).toNatClampNeg) - 1))) ∧ (¬ (mj_u M 1 ((x2 + 1168).toNatClampNeg) (M 1 ((x2 + 1168).toNatClampNeg) - 1)) 1 ((x2 + 1167).toNatClampNeg) ≤ (mj_u M 1 ((x2 + 1168).toNatClampNeg) (M 1 ((x2 + 1168).toNatClampNeg) - 1)) 1 ((x2 + 1165).toNatClampNeg) → mj_Cm 126 3 [.ref 0, .int x3] (mj_u M 1 ((x2 + 1168).toNatClampNeg) (M 1 ((x2 + 1168).toNatClampNeg) - 1)) (mj_k 1 127 4 178 [some (.ref 0), some (.int x1), some (.int x2), some (.int x3), some (.int x4)] [] 0 (some .int) K)))))))) ∧ (¬ 4 ≤ x4 → vp_in (x2 + 1167) 1242 ∧ vp_in (x2 + 1165) 1242 ∧ ((M 1 ((x2 + 1167).toNatClampNeg) ≤ M 1 ((x2 + 1165).toNatClampNeg) → vp_in (x2 + 1168) 1242 ∧ ((¬ (mj_u M 1 ((x2 + 1168).toNatClampNeg) (M 1 ((x2 + 1168).toNatClampNeg) - 1)) 1 ((x2 + 1168).toNatClampNeg) = 0 → K 0 0 (mj_u M 1 ((x2 + 1168).toNatClampNeg) (M 1 ((x2 + 1168).toNatClampNeg) - 1))) ∧ ((mj_u M 1 ((x2 + 1168).toNatClampNeg) (M 1 ((x2 + 1168).toNatClampNeg) - 1)) 1 ((x2 + 1168).toNatClampNeg) = 0 → vp_in (x2 + 1169) 1242 ∧ ((3 ≤ (mj_u M 1 ((x2 + 1168).toNatClampNeg) (M 1 ((x2 + 1168).toNatClampNeg) - 1)) 1 ((x2 + 1169).toNatClampNeg) → K 0 0 (mj_u M 1 ((x2 + 1168).toNatClampNeg) (M 1 ((x2 + 1168).toNatClampNeg) - 1))) ∧ (¬ 3 ≤ (mj_u M 1 ((x2 + 1168).toNatClampNeg) (M 1 ((x2 + 1168).toNatClampNeg) - 1)) 1 ((x2 + 1169).toNatClampNeg) → ((mj_u M 1 ((x2 + 1168).toNatClampNeg) (M 1 ((x2 + 1168).toNatClampNeg) - 1)) 1 ((x2 + 1167).toNatClampNeg) ≤ (mj_u M 1 ((x2 + 1168).toNatClampNeg) (M 1 ((x2 + 1168).toNatClampNeg) - 1)) 1 ((x2 + 1165).toNatClampNeg) → K 0 0 (mj_u M 1 ((x2 + 1168).toNatClampNeg) (M 1 ((x2 + 1168).toNatClampNeg) - 1))) ∧ (¬ (mj_u M 1 ((x2 + 1168).toNatClampNeg) (M 1 ((x2 + 1168).toNatClampNeg) - 1)) 1 ((x2 + 1167).toNatClampNeg) ≤ (mj_u M 1 ((x2 + 1168).toNatClampNeg) (M 1 ((x2 + 1168).toNatClampNeg) - 1)) 1 ((x2 + 1165).toNatClampNeg) → mj_Cm 126 3 [.ref 0, .int x3] (mj_u M 1 ((x2 + 1168).toNatClampNeg) (M 1 ((x2 + 1168).toNatClampNeg) - 1)) (mj_k 1 127 4 178 [some (.ref 0), some (.int x1), some (.int x2), some (.int x3), some (.int x4)] [] 0 (some .int) K))))))) ∧ (¬ M 1 ((x2 + 1167).toNatClampNeg) ≤ M 1 ((x2 + 1165).toNatClampNeg) → mj_Cm 126 3 [.ref 0, .int x3] M (mj_k 1 127 4 53 [some (.ref 0), some (.int x1), some (.int x2), some (.int x3), some (.int x4)] [] 0 (some .int) K))))) : mj_W 1 127 4 19 [some (.ref 0), some (.int x1), some (.int x2), some (.int x3), some (.int x4)] [] M 0 K := by
  refine b127_19 ?_
  refine ⟨fun c1 => ?_, fun c1 => ?_⟩
  · have h1a := h.1 c1
    refine b127_109 ?_
    have g2 := h1a.1
    refine ⟨g2, ?_⟩
    have h2 := h1a.2
    refine ⟨fun c3 => ?_, fun c3 => ?_⟩
    · have h3a := h2.1 c3
      refine b127_207 ?_
      exact h3a
    · have h3a := h2.2 c3
      refine b127_136 ?_
      have g4 := h3a.1
      refine ⟨g4, ?_⟩
      have h4 := h3a.2
      refine ⟨fun c5 => ?_, fun c5 => ?_⟩
      · have h5a := h4.1 c5
        refine b127_207 ?_
        exact h5a
      · have h5a := h4.2 c5
        refine b127_150 ?_
        have g6 := h5a.1
        refine ⟨g6, ?_⟩
        have h6 := h5a.2
        have g7 := h6.1
        refine ⟨g7, ?_⟩
        have h7 := h6.2
        refine ⟨fun c8 => ?_, fun c8 => ?_⟩
        · have h8a := h7.1 c8
          refine b127_207 ?_
          exact h8a
        · have h8a := h7.2 c8
          refine b127_173 ?_
          exact h8a
  · have h1a := h.2 c1
    refine b127_25 ?_
    have g9 := h1a.1
    refine ⟨g9, ?_⟩
    have h9 := h1a.2
    have g10 := h9.1
    refine ⟨g10, ?_⟩
    have h10 := h9.2
    refine ⟨fun c11 => ?_, fun c11 => ?_⟩
    · have h11a := h10.1 c11
      refine b127_109 ?_
      have g12 := h11a.1
      refine ⟨g12, ?_⟩
      have h12 := h11a.2
      refine ⟨fun c13 => ?_, fun c13 => ?_⟩
      · have h13a := h12.1 c13
        refine b127_207 ?_
        exact h13a
      · have h13a := h12.2 c13
        refine b127_136 ?_
        have g14 := h13a.1
        refine ⟨g14, ?_⟩
        have h14 := h13a.2
        refine ⟨fun c15 => ?_, fun c15 => ?_⟩
        · have h15a := h14.1 c15
          refine b127_207 ?_
          exact h15a
        · have h15a := h14.2 c15
          refine b127_150 ?_
          refine ⟨g9, ?_⟩
          refine ⟨g10, ?_⟩
          refine ⟨fun c16 => ?_, fun c16 => ?_⟩
          · have h16a := h15a.1 c16
            refine b127_207 ?_
            exact h16a
          · have h16a := h15a.2 c16
            refine b127_173 ?_
            exact h16a
    · have h11a := h10.2 c11
      refine b127_48 ?_
      exact h11a

theorem t127_178 {M : mj_M} {K : mj_K} {x1 : Int32} {x2 : Int32} {x3 : Int32} {x4 : Int32} {s0 : Int32} (h : (s0 = (-1) → K 0 0 M) ∧ (¬ s0 = (-1) → vp_in (x2 + 1168) 1242 ∧ vp_in (x2 + 1169) 1242 ∧ K 0 0 (mj_u (mj_u M 1 ((x2 + 1168).toNatClampNeg) 1) 1 ((x2 + 1169).toNatClampNeg) ((mj_u M 1 ((x2 + 1168).toNatClampNeg) 1) 1 ((x2 + 1169).toNatClampNeg) + 1)))) : mj_W 1 127 4 178 [some (.ref 0), some (.int x1), some (.int x2), some (.int x3), some (.int x4)] [.int s0] M 0 K := by
  refine b127_178 ?_
  refine ⟨fun c1 => ?_, fun c1 => ?_⟩
  · have h1a := h.1 c1
    refine b127_207 ?_
    exact h1a
  · have h1a := h.2 c1
    refine b127_182 ?_
    have g2 := h1a.1
    refine ⟨g2, ?_⟩
    have h2 := h1a.2
    have g3 := h2.1
    refine ⟨g3, ?_⟩
    have h3 := h2.2
    refine b127_207 ?_
    exact h3

theorem t127_53 {M : mj_M} {K : mj_K} {x1 : Int32} {x2 : Int32} {x3 : Int32} {x4 : Int32} {s0 : Int32} (h : (s0 = (-1) → vp_in (x2 + 1168) 1242 ∧ ((¬ (mj_u M 1 ((x2 + 1168).toNatClampNeg) (M 1 ((x2 + 1168).toNatClampNeg) - 1)) 1 ((x2 + 1168).toNatClampNeg) = 0 → K 0 0 (mj_u M 1 ((x2 + 1168).toNatClampNeg) (M 1 ((x2 + 1168).toNatClampNeg) - 1))) ∧ ((mj_u M 1 ((x2 + 1168).toNatClampNeg) (M 1 ((x2 + 1168).toNatClampNeg) - 1)) 1 ((x2 + 1168).toNatClampNeg) = 0 → vp_in (x2 + 1169) 1242 ∧ ((3 ≤ (mj_u M 1 ((x2 + 1168).toNatClampNeg) (M 1 ((x2 + 1168).toNatClampNeg) - 1)) 1 ((x2 + 1169).toNatClampNeg) → K 0 0 (mj_u M 1 ((x2 + 1168).toNatClampNeg) (M 1 ((x2 + 1168).toNatClampNeg) - 1))) ∧ (¬ 3 ≤ (mj_u M 1 ((x2 + 1168).toNatClampNeg) (M 1 ((x2 + 1168).toNatClampNeg) - 1)) 1 ((x2 + 1169).toNatClampNeg) → vp_in (x2 + 1167) 1242 ∧ vp_in (x2 + 1165) 1242 ∧ (((mj_u M 1 ((x2 + 1168).toNatClampNeg) (M 1 ((x2 + 1168).toNatClampNeg) - 1)) 1 ((x2 + 1167).toNatClampNeg) ≤ (mj_u M 1 ((x2 + 1168).toNatClampNeg) (M 1 ((x2 + 1168).toNatClampNeg) - 1)) 1 ((x2 + 1165).toNatClampNeg) → K 0 0 (mj_u M 1 ((x2 + 1168).toNatClampNeg) (M 1 ((x2 + 1168).toNatClampNeg) - 1))) ∧ (¬ (mj_u M 1 ((x2 + 1168).toNatClampNeg) (M 1 ((x2 + 1168).toNatClampNeg) - 1)) 1 ((x2 + 1167).toNatClampNeg) ≤ (mj_u M 1 ((x2 + 1168).toNatClampNeg) (M 1 ((x2 + 1168).toNatClampNeg) - 1)) 1 ((x2 + 1165).toNatClampNeg) → mj_Cm 126 3 [.ref 0, .int x3] (mj_u M 1 ((x2 + 1168).toNatClampNeg) (M 1 ((x2 + 1168).toNatClampNeg) - 1)) (mj_k 1 127 4 178 [some (.ref 0), some (.int x1), some (.int x2), some (.int x3), some (.int x4)] [] 0 (some .int) K)))))))) ∧ (¬ s0 = (-1) → mj_Cm 126 3 [.ref 0, .int x3] M (mj_k 1 127 4 68 [some (.ref 0), some (.int x1), some (.int x2), some (.int x3), some (.int x4)] [.int 8, .ref 1] 0 (some .int) K))) : mj_W 1 127 4 53 [some (.ref 0), some (.int x1), some (.int x2), some (.int x3), some (.int x4)] [.int s0] M 0 K := by
  refine b127_53 ?_
  refine ⟨fun c1 => ?_, fun c1 => ?_⟩
  · have h1a := h.1 c1
    refine b127_109 ?_
    have g2 := h1a.1
    refine ⟨g2, ?_⟩
    have h2 := h1a.2
    refine ⟨fun c3 => ?_, fun c3 => ?_⟩
    · have h3a := h2.1 c3
      refine b127_207 ?_
      exact h3a
    · have h3a := h2.2 c3
      refine b127_136 ?_
      have g4 := h3a.1
      refine ⟨g4, ?_⟩
      have h4 := h3a.2
      refine ⟨fun c5 => ?_, fun c5 => ?_⟩
      · have h5a := h4.1 c5
        refine b127_207 ?_
        exact h5a
      · have h5a := h4.2 c5
        refine b127_150 ?_
        have g6 := h5a.1
        refine ⟨g6, ?_⟩
        have h6 := h5a.2
        have g7 := h6.1
        refine ⟨g7, ?_⟩
        have h7 := h6.2
        refine ⟨fun c8 => ?_, fun c8 => ?_⟩
        · have h8a := h7.1 c8
          refine b127_207 ?_
          exact h8a
        · have h8a := h7.2 c8
          refine b127_173 ?_
          exact h8a
  · have h1a := h.2 c1
    refine b127_57 ?_
    exact h1a

theorem t127_68 {M : mj_M} {K : mj_K} {x1 : Int32} {x2 : Int32} {x3 : Int32} {x4 : Int32} {s1 : Int32} {s2 : Int32} (h : vp_in (s1 * s2 + 1) 1242 ∧ vp_in (x2 + 1165) 1242 ∧ vp_in (5 * x3 + 1118) 1242 ∧ mj_W 1 127 4 19 [some (.ref 0), some (.int x1), some (.int x2), some (.int x3), some (.int (x4 + 1))] [] (mj_u (mj_u (mj_u M 1 ((s1 * s2 + 1).toNatClampNeg) 2) 1 ((x2 + 1165).toNatClampNeg) ((mj_u M 1 ((s1 * s2 + 1).toNatClampNeg) 2) 1 ((x2 + 1165).toNatClampNeg) + 1)) 1 ((5 * x3 + 1118).toNatClampNeg) ((mj_u (mj_u M 1 ((s1 * s2 + 1).toNatClampNeg) 2) 1 ((x2 + 1165).toNatClampNeg) ((mj_u M 1 ((s1 * s2 + 1).toNatClampNeg) 2) 1 ((x2 + 1165).toNatClampNeg) + 1)) 1 ((5 * x3 + 1118).toNatClampNeg) + 1)) 0 K) : mj_W 1 127 4 68 [some (.ref 0), some (.int x1), some (.int x2), some (.int x3), some (.int x4)] [.int s2, .int s1, .ref 1] M 0 K := by
  refine b127_68 ?_
  have g1 := h.1
  refine ⟨g1, ?_⟩
  have h1 := h.2
  have g2 := h1.1
  refine ⟨g2, ?_⟩
  have h2 := h1.2
  have g3 := h2.1
  refine ⟨g3, ?_⟩
  have h3 := h2.2
  exact h3

theorem t128_0 {M : mj_M} {K : mj_K} {x1 : Int32} {x2 : Int32} {x3 : Int32} (h : vp_in (11 * x3 + 962) 1242 ∧ ((¬ M 1 ((11 * x3 + 962).toNatClampNeg) = 2 → vp_in (8 * x1 + 7) 1242 ∧ (vp_in (8 * x2 + 7) 1242 ∧ ((M 1 ((8 * x1 + 7).toNatClampNeg) - M 1 ((8 * x2 + 7).toNatClampNeg) < 0 → K 0 1 M) ∧ (¬ M 1 ((8 * x1 + 7).toNatClampNeg) - M 1 ((8 * x2 + 7).toNatClampNeg) < 0 → (¬ M 1 ((8 * x1 + 7).toNatClampNeg) - M 1 ((8 * x2 + 7).toNatClampNeg) = 0 → K 0 0 M) ∧ (M 1 ((8 * x1 + 7).toNatClampNeg) - M 1 ((8 * x2 + 7).toNatClampNeg) = 0 → (x2 ≤ x1 → K 0 0 M) ∧ (¬ x2 ≤ x1 → K 0 1 M)))))) ∧ (M 1 ((11 * x3 + 962).toNatClampNeg) = 2 → vp_in (8 * x1 + 3) 1242 ∧ (vp_in (8 * x2 + 3) 1242 ∧ ((M 1 ((8 * x1 + 3).toNatClampNeg) = M 1 ((8 * x2 + 3).toNatClampNeg) → vp_in (8 * x1 + 7) 1242 ∧ (vp_in (8 * x2 + 7) 1242 ∧ ((M 1 ((8 * x1 + 7).toNatClampNeg) - M 1 ((8 * x2 + 7).toNatClampNeg) < 0 → K 0 1 M) ∧ (¬ M 1 ((8 * x1 + 7).toNatClampNeg) - M 1 ((8 * x2 + 7).toNatClampNeg) < 0 → (¬ M 1 ((8 * x1 + 7).toNatClampNeg) - M 1 ((8 * x2 + 7).toNatClampNeg) = 0 → K 0 0 M) ∧ (M 1 ((8 * x1 + 7).toNatClampNeg) - M 1 ((8 * x2 + 7).toNatClampNeg) = 0 → (x2 ≤ x1 → K 0 0 M) ∧ (¬ x2 ≤ x1 → K 0 1 M)))))) ∧ (¬ M 1 ((8 * x1 + 3).toNatClampNeg) = M 1 ((8 * x2 + 3).toNatClampNeg) → vp_in (8 * x1 + 3) 1242 ∧ ((¬ M 1 ((8 * x1 + 3).toNatClampNeg) = 1 → K 0 0 M) ∧ (M 1 ((8 * x1 + 3).toNatClampNeg) = 1 → K 0 1 M)))))))) : mj_W 1 128 2 0 [some (.ref 0), some (.int x1), some (.int x2), some (.int x3), none] [] M 0 K := by
  refine b128_0 ?_
  have h1 := h.1
  have h2 := h.2
  refine sp97 h1 ?_
  refine b128_8 ?_
  refine ⟨fun c3 => ?_, fun c3 => ?_⟩
  · have h3a := h2.1 c3
    refine b128_43 ?_
    have h4 := h3a.1
    have h5 := h3a.2
    refine sp99 h4 ?_
    refine b128_50 ?_
    have h6 := h5.1
    have h7 := h5.2
    refine sp99 h6 ?_
    refine b128_57 ?_
    refine ⟨fun c8 => ?_, fun c8 => ?_⟩
    · have h8a := h7.1 c8
      refine b128_75 ?_
      refine b128_80 ?_
      rw [mj_nb1]
      exact h8a
    · have h8a := h7.2 c8
      refine b128_65 ?_
      refine ⟨fun c9 => ?_, fun c9 => ?_⟩
      · have h9a := h8a.1 c9
        refine b128_79 ?_
        refine b128_80 ?_
        rw [mj_nb0]
        exact h9a
      · have h9a := h8a.2 c9
        refine b128_70 ?_
        refine ⟨fun c10 => ?_, fun c10 => ?_⟩
        · have h10a := h9a.1 c10
          refine b128_79 ?_
          refine b128_80 ?_
          rw [mj_nb0]
          exact h10a
        · have h10a := h9a.2 c10
          refine b128_75 ?_
          refine b128_80 ?_
          rw [mj_nb1]
          exact h10a
  · have h3a := h2.2 c3
    refine b128_12 ?_
    have h11 := h3a.1
    have h12 := h3a.2
    refine sp99 h11 ?_
    refine b128_18 ?_
    have h13 := h12.1
    have h14 := h12.2
    refine sp99 h13 ?_
    refine b128_24 ?_
    refine ⟨fun c15 => ?_, fun c15 => ?_⟩
    · have h15a := h14.1 c15
      refine b128_43 ?_
      have h16 := h15a.1
      have h17 := h15a.2
      refine sp99 h16 ?_
      refine b128_50 ?_
      have h18 := h17.1
      have h19 := h17.2
      refine sp99 h18 ?_
      refine b128_57 ?_
      refine ⟨fun c20 => ?_, fun c20 => ?_⟩
      · have h20a := h19.1 c20
        refine b128_75 ?_
        refine b128_80 ?_
        rw [mj_nb1]
        exact h20a
      · have h20a := h19.2 c20
        refine b128_65 ?_
        refine ⟨fun c21 => ?_, fun c21 => ?_⟩
        · have h21a := h20a.1 c21
          refine b128_79 ?_
          refine b128_80 ?_
          rw [mj_nb0]
          exact h21a
        · have h21a := h20a.2 c21
          refine b128_70 ?_
          refine ⟨fun c22 => ?_, fun c22 => ?_⟩
          · have h22a := h21a.1 c22
            refine b128_79 ?_
            refine b128_80 ?_
            rw [mj_nb0]
            exact h22a
          · have h22a := h21a.2 c22
            refine b128_75 ?_
            refine b128_80 ?_
            rw [mj_nb1]
            exact h22a
    · have h15a := h14.2 c15
      refine b128_27 ?_
      have h23 := h15a.1
      have h24 := h15a.2
      refine sp99 h23 ?_
      refine b128_33 ?_
      refine ⟨fun c25 => ?_, fun c25 => ?_⟩
      · have h25a := h24.1 c25
        refine b128_41 ?_
        refine b128_42 ?_
        rw [mj_nb0]
        exact h25a
      · have h25a := h24.2 c25
        refine b128_37 ?_
        refine b128_42 ?_
        rw [mj_nb1]
        exact h25a
theorem e128 {M : mj_M} {K : mj_K} {x1 : Int32} {x2 : Int32} {x3 : Int32} (h : vp_in (11 * x3 + 962) 1242 ∧ ((¬ M 1 ((11 * x3 + 962).toNatClampNeg) = 2 → vp_in (8 * x1 + 7) 1242 ∧ (vp_in (8 * x2 + 7) 1242 ∧ ((M 1 ((8 * x1 + 7).toNatClampNeg) - M 1 ((8 * x2 + 7).toNatClampNeg) < 0 → K 0 1 M) ∧ (¬ M 1 ((8 * x1 + 7).toNatClampNeg) - M 1 ((8 * x2 + 7).toNatClampNeg) < 0 → (¬ M 1 ((8 * x1 + 7).toNatClampNeg) - M 1 ((8 * x2 + 7).toNatClampNeg) = 0 → K 0 0 M) ∧ (M 1 ((8 * x1 + 7).toNatClampNeg) - M 1 ((8 * x2 + 7).toNatClampNeg) = 0 → (x2 ≤ x1 → K 0 0 M) ∧ (¬ x2 ≤ x1 → K 0 1 M)))))) ∧ (M 1 ((11 * x3 + 962).toNatClampNeg) = 2 → vp_in (8 * x1 + 3) 1242 ∧ (vp_in (8 * x2 + 3) 1242 ∧ ((M 1 ((8 * x1 + 3).toNatClampNeg) = M 1 ((8 * x2 + 3).toNatClampNeg) → vp_in (8 * x1 + 7) 1242 ∧ (vp_in (8 * x2 + 7) 1242 ∧ ((M 1 ((8 * x1 + 7).toNatClampNeg) - M 1 ((8 * x2 + 7).toNatClampNeg) < 0 → K 0 1 M) ∧ (¬ M 1 ((8 * x1 + 7).toNatClampNeg) - M 1 ((8 * x2 + 7).toNatClampNeg) < 0 → (¬ M 1 ((8 * x1 + 7).toNatClampNeg) - M 1 ((8 * x2 + 7).toNatClampNeg) = 0 → K 0 0 M) ∧ (M 1 ((8 * x1 + 7).toNatClampNeg) - M 1 ((8 * x2 + 7).toNatClampNeg) = 0 → (x2 ≤ x1 → K 0 0 M) ∧ (¬ x2 ≤ x1 → K 0 1 M)))))) ∧ (¬ M 1 ((8 * x1 + 3).toNatClampNeg) = M 1 ((8 * x2 + 3).toNatClampNeg) → vp_in (8 * x1 + 3) 1242 ∧ ((¬ M 1 ((8 * x1 + 3).toNatClampNeg) = 1 → K 0 0 M) ∧ (M 1 ((8 * x1 + 3).toNatClampNeg) = 1 → K 0 1 M)))))))) : mj_Cm 128 2 [.ref 0, .int x1, .int x2, .int x3] M K := mj_en rfl rfl rfl (t128_0 h)

theorem t129_0 {M : mj_M} {K : mj_K} {x1 : Int32} {x2 : Int32} (h : (x1 = x2 → K 0 1 M) ∧ (¬ x1 = x2 → vp_in (8 * x2 + 4) 1242 ∧ ((M 1 ((8 * x2 + 4).toNatClampNeg) = (-1) → K 0 0 M) ∧ (¬ M 1 ((8 * x2 + 4).toNatClampNeg) = (-1) → vp_in (8 * x1 + 4) 1242 ∧ (vp_in (8 * x2 + 4) 1242 ∧ ((¬ M 1 ((8 * x1 + 4).toNatClampNeg) = M 1 ((8 * x2 + 4).toNatClampNeg) → K 0 0 M) ∧ (M 1 ((8 * x1 + 4).toNatClampNeg) = M 1 ((8 * x2 + 4).toNatClampNeg) → vp_in (8 * x1 + 1) 1242 ∧ ((2 ≤ M 1 ((8 * x1 + 1).toNatClampNeg) → K 0 0 M) ∧ (¬ 2 ≤ M 1 ((8 * x1 + 1).toNatClampNeg) → K 0 1 M))))))))) : mj_W 1 129 2 0 [some (.ref 0), some (.int x1), some (.int x2)] [] M 0 K := by
  refine b129_0 ?_
  refine ⟨fun c1 => ?_, fun c1 => ?_⟩
  · have h1a := h.1 c1
    refine b129_40 ?_
    refine b129_45 ?_
    rw [mj_nb1]
    exact h1a
  · have h1a := h.2 c1
    refine b129_5 ?_
    have h2 := h1a.1
    have h3 := h1a.2
    refine sp99 h2 ?_
    refine b129_11 ?_
    refine ⟨fun c4 => ?_, fun c4 => ?_⟩
    · have h4a := h3.1 c4
      refine b129_44 ?_
      refine b129_45 ?_
      rw [mj_nb0]
      exact h4a
    · have h4a := h3.2 c4
      refine b129_15 ?_
      have h5 := h4a.1
      have h6 := h4a.2
      refine sp99 h5 ?_
      refine b129_21 ?_
      have h7 := h6.1
      have h8 := h6.2
      refine sp99 h7 ?_
      refine b129_27 ?_
      refine ⟨fun c9 => ?_, fun c9 => ?_⟩
      · have h9a := h8.1 c9
        refine b129_44 ?_
        refine b129_45 ?_
        rw [mj_nb0]
        exact h9a
      · have h9a := h8.2 c9
        refine b129_30 ?_
        have h10 := h9a.1
        have h11 := h9a.2
        refine sp99 h10 ?_
        refine b129_36 ?_
        refine ⟨fun c12 => ?_, fun c12 => ?_⟩
        · have h12a := h11.1 c12
          refine b129_44 ?_
          refine b129_45 ?_
          rw [mj_nb0]
          exact h12a
        · have h12a := h11.2 c12
          refine b129_40 ?_
          refine b129_45 ?_
          rw [mj_nb1]
          exact h12a
theorem e129 {M : mj_M} {K : mj_K} {x1 : Int32} {x2 : Int32} (h : (x1 = x2 → K 0 1 M) ∧ (¬ x1 = x2 → vp_in (8 * x2 + 4) 1242 ∧ ((M 1 ((8 * x2 + 4).toNatClampNeg) = (-1) → K 0 0 M) ∧ (¬ M 1 ((8 * x2 + 4).toNatClampNeg) = (-1) → vp_in (8 * x1 + 4) 1242 ∧ (vp_in (8 * x2 + 4) 1242 ∧ ((¬ M 1 ((8 * x1 + 4).toNatClampNeg) = M 1 ((8 * x2 + 4).toNatClampNeg) → K 0 0 M) ∧ (M 1 ((8 * x1 + 4).toNatClampNeg) = M 1 ((8 * x2 + 4).toNatClampNeg) → vp_in (8 * x1 + 1) 1242 ∧ ((2 ≤ M 1 ((8 * x1 + 1).toNatClampNeg) → K 0 0 M) ∧ (¬ 2 ≤ M 1 ((8 * x1 + 1).toNatClampNeg) → K 0 1 M))))))))) : mj_Cm 129 2 [.ref 0, .int x1, .int x2] M K := mj_en rfl rfl rfl (t129_0 h)

theorem t130_0 {M : mj_M} {K : mj_K} {x1 : Int32} {x2 : Int32} (h : mj_W 1 130 3 5 [some (.ref 0), some (.int x1), some (.int x2), some (.int 0), some (.int 0)] [] M 0 K) : mj_W 1 130 3 0 [some (.ref 0), some (.int x1), some (.int x2), none, none] [] M 0 K := by
  refine b130_0 ?_
  exact h
theorem e130 {M : mj_M} {K : mj_K} {x1 : Int32} {x2 : Int32} (h : mj_W 1 130 3 5 [some (.ref 0), some (.int x1), some (.int x2), some (.int 0), some (.int 0)] [] M 0 K) : mj_Cm 130 3 [.ref 0, .int x1, .int x2] M K := mj_en rfl rfl rfl (t130_0 h)

theorem t130_5 {M : mj_M} {K : mj_K} {x1 : Int32} {x2 : Int32} {x3 : Int32} {x4 : Int32} (h : (M 1 1240 ≤ x4 → K 0 x3 M) ∧ (¬ M 1 1240 ≤ x4 → mj_Cm 129 2 [.ref 0, .int x4, .int x2] M (mj_k 1 130 3 25 [some (.ref 0), some (.int x1), some (.int x2), some (.int x3), some (.int x4)] [] 0 (some .boolean) K))) : mj_W 1 130 3 5 [some (.ref 0), some (.int x1), some (.int x2), some (.int x3), some (.int x4)] [] M 0 K := by
  refine b130_5 ?_
  refine ⟨fun c1 => ?_, fun c1 => ?_⟩
  · have h1a := h.1 c1
    refine b130_76 ?_
    exact h1a
  · have h1a := h.2 c1
    refine b130_18 ?_
    exact h1a

theorem t130_25 {M : mj_M} {K : mj_K} {x1 : Int32} {x2 : Int32} {x3 : Int32} {x4 : Int32} {s0 : Int32} (h : (s0 = 0 → mj_W 1 130 3 5 [some (.ref 0), some (.int x1), some (.int x2), some (.int x3), some (.int (x4 + 1))] [] M 0 K) ∧ (¬ s0 = 0 → vp_in (8 * x4 + 1) 1242 ∧ ((¬ M 1 ((8 * x4 + 1).toNatClampNeg) = 0 → K 0 0 M) ∧ (M 1 ((8 * x4 + 1).toNatClampNeg) = 0 → vp_in (8 * x4 + 0) 1242 ∧ (vp_in (8 * x2 + 0) 1242 ∧ ((¬ M 1 ((8 * x4 + 0).toNatClampNeg) = M 1 ((8 * x2 + 0).toNatClampNeg) → K 0 0 M) ∧ (M 1 ((8 * x4 + 0).toNatClampNeg) = M 1 ((8 * x2 + 0).toNatClampNeg) → vp_in x4 120 ∧ ((M 4 x4.toNatClampNeg = x1 → mj_W 1 130 3 5 [some (.ref 0), some (.int x1), some (.int x2), some (.int (x3 + 1)), some (.int (x4 + 1))] [] M 0 K) ∧ (¬ M 4 x4.toNatClampNeg = x1 → K 0 0 M))))))))) : mj_W 1 130 3 25 [some (.ref 0), some (.int x1), some (.int x2), some (.int x3), some (.int x4)] [.int s0] M 0 K := by
  refine b130_25 ?_
  refine ⟨fun c1 => ?_, fun c1 => ?_⟩
  · have h1a := h.1 c1
    refine b130_70 ?_
    exact h1a
  · have h1a := h.2 c1
    refine b130_28 ?_
    have h2 := h1a.1
    have h3 := h1a.2
    refine sp99 h2 ?_
    refine b130_38 ?_
    refine ⟨fun c4 => ?_, fun c4 => ?_⟩
    · have h4a := h3.1 c4
      refine b130_68 ?_
      exact h4a
    · have h4a := h3.2 c4
      refine b130_41 ?_
      have h5 := h4a.1
      have h6 := h4a.2
      refine sp99 h5 ?_
      refine b130_48 ?_
      have h7 := h6.1
      have h8 := h6.2
      refine sp99 h7 ?_
      refine b130_54 ?_
      refine ⟨fun c9 => ?_, fun c9 => ?_⟩
      · have h9a := h8.1 c9
        refine b130_68 ?_
        exact h9a
      · have h9a := h8.2 c9
        refine b130_57 ?_
        have g10 := h9a.1
        refine ⟨g10, ?_⟩
        have h10 := h9a.2
        refine ⟨fun c11 => ?_, fun c11 => ?_⟩
        · have h11a := h10.1 c11
          refine b130_70 ?_
          exact h11a
        · have h11a := h10.2 c11
          refine b130_68 ?_
          exact h11a

theorem t131_0 {M : mj_M} {K : mj_K} {x1 : Int32} {x2 : Int32} {x3 : Int32} (h : vp_in (8 * x2 + 0) 1242 ∧ (vp_in (11 * x1 + 960) 1242 ∧ ((¬ M 1 ((11 * x1 + 960).toNatClampNeg) = M 1 ((8 * x2 + 0).toNatClampNeg) → vp_in (5 * M 1 ((8 * x2 + 0).toNatClampNeg) + 1118) 1242 ∧ (vp_in (11 * x1 + 970) 1242 ∧ vp_in (8 * x2 + 0) 1242 ∧ vp_in (8 * x2 + 1) 1242 ∧ (vp_in (11 * x1 + 963) 1242 ∧ (vp_in (8 * x2 + 7) 1242 ∧ K 0 0 (mj_u (mj_u (mj_u (mj_u (mj_u M 1 ((5 * M 1 ((8 * x2 + 0).toNatClampNeg) + 1118).toNatClampNeg) (M 1 ((5 * M 1 ((8 * x2 + 0).toNatClampNeg) + 1118).toNatClampNeg) + 1)) 1 ((11 * x1 + 970).toNatClampNeg) ((mj_u M 1 ((5 * M 1 ((8 * x2 + 0).toNatClampNeg) + 1118).toNatClampNeg) (M 1 ((5 * M 1 ((8 * x2 + 0).toNatClampNeg) + 1118).toNatClampNeg) + 1)) 1 ((11 * x1 + 970).toNatClampNeg) + 1)) 1 ((8 * x2 + 0).toNatClampNeg) x3) 1 ((8 * x2 + 1).toNatClampNeg) 1) 1 ((8 * x2 + 7).toNatClampNeg) ((mj_u (mj_u (mj_u (mj_u M 1 ((5 * M 1 ((8 * x2 + 0).toNatClampNeg) + 1118).toNatClampNeg) (M 1 ((5 * M 1 ((8 * x2 + 0).toNatClampNeg) + 1118).toNatClampNeg) + 1)) 1 ((11 * x1 + 970).toNatClampNeg) ((mj_u M 1 ((5 * M 1 ((8 * x2 + 0).toNatClampNeg) + 1118).toNatClampNeg) (M 1 ((5 * M 1 ((8 * x2 + 0).toNatClampNeg) + 1118).toNatClampNeg) + 1)) 1 ((11 * x1 + 970).toNatClampNeg) + 1)) 1 ((8 * x2 + 0).toNatClampNeg) x3) 1 ((8 * x2 + 1).toNatClampNeg) 1) 1 1236 + (mj_u (mj_u (mj_u (mj_u M 1 ((5 * M 1 ((8 * x2 + 0).toNatClampNeg) + 1118).toNatClampNeg) (M 1 ((5 * M 1 ((8 * x2 + 0).toNatClampNeg) + 1118).toNatClampNeg) + 1)) 1 ((11 * x1 + 970).toNatClampNeg) ((mj_u M 1 ((5 * M 1 ((8 * x2 + 0).toNatClampNeg) + 1118).toNatClampNeg) (M 1 ((5 * M 1 ((8 * x2 + 0).toNatClampNeg) + 1118).toNatClampNeg) + 1)) 1 ((11 * x1 + 970).toNatClampNeg) + 1)) 1 ((8 * x2 + 0).toNatClampNeg) x3) 1 ((8 * x2 + 1).toNatClampNeg) 1) 1 ((11 * x1 + 963).toNatClampNeg))))))) ∧ (M 1 ((11 * x1 + 960).toNatClampNeg) = M 1 ((8 * x2 + 0).toNatClampNeg) → vp_in (5 * M 1 ((8 * x2 + 0).toNatClampNeg) + 1118) 1242 ∧ (vp_in (11 * x1 + 969) 1242 ∧ vp_in (8 * x2 + 0) 1242 ∧ vp_in (8 * x2 + 1) 1242 ∧ (vp_in (11 * x1 + 963) 1242 ∧ (vp_in (8 * x2 + 7) 1242 ∧ K 0 0 (mj_u (mj_u (mj_u (mj_u (mj_u M 1 ((5 * M 1 ((8 * x2 + 0).toNatClampNeg) + 1118).toNatClampNeg) (M 1 ((5 * M 1 ((8 * x2 + 0).toNatClampNeg) + 1118).toNatClampNeg) + 1)) 1 ((11 * x1 + 969).toNatClampNeg) ((mj_u M 1 ((5 * M 1 ((8 * x2 + 0).toNatClampNeg) + 1118).toNatClampNeg) (M 1 ((5 * M 1 ((8 * x2 + 0).toNatClampNeg) + 1118).toNatClampNeg) + 1)) 1 ((11 * x1 + 969).toNatClampNeg) + 1)) 1 ((8 * x2 + 0).toNatClampNeg) x3) 1 ((8 * x2 + 1).toNatClampNeg) 1) 1 ((8 * x2 + 7).toNatClampNeg) ((mj_u (mj_u (mj_u (mj_u M 1 ((5 * M 1 ((8 * x2 + 0).toNatClampNeg) + 1118).toNatClampNeg) (M 1 ((5 * M 1 ((8 * x2 + 0).toNatClampNeg) + 1118).toNatClampNeg) + 1)) 1 ((11 * x1 + 969).toNatClampNeg) ((mj_u M 1 ((5 * M 1 ((8 * x2 + 0).toNatClampNeg) + 1118).toNatClampNeg) (M 1 ((5 * M 1 ((8 * x2 + 0).toNatClampNeg) + 1118).toNatClampNeg) + 1)) 1 ((11 * x1 + 969).toNatClampNeg) + 1)) 1 ((8 * x2 + 0).toNatClampNeg) x3) 1 ((8 * x2 + 1).toNatClampNeg) 1) 1 1236 + (mj_u (mj_u (mj_u (mj_u M 1 ((5 * M 1 ((8 * x2 + 0).toNatClampNeg) + 1118).toNatClampNeg) (M 1 ((5 * M 1 ((8 * x2 + 0).toNatClampNeg) + 1118).toNatClampNeg) + 1)) 1 ((11 * x1 + 969).toNatClampNeg) ((mj_u M 1 ((5 * M 1 ((8 * x2 + 0).toNatClampNeg) + 1118).toNatClampNeg) (M 1 ((5 * M 1 ((8 * x2 + 0).toNatClampNeg) + 1118).toNatClampNeg) + 1)) 1 ((11 * x1 + 969).toNatClampNeg) + 1)) 1 ((8 * x2 + 0).toNatClampNeg) x3) 1 ((8 * x2 + 1).toNatClampNeg) 1) 1 ((11 * x1 + 963).toNatClampNeg)))))))))) : mj_W 1 131 2 0 [some (.ref 0), some (.int x1), some (.int x2), some (.int x3), none, none] [] M 0 K := by
  refine b131_0 ?_
  have h1 := h.1
  have h2 := h.2
  refine sp99 h1 ?_
  refine b131_6 ?_
  have h3 := h2.1
  have h4 := h2.2
  refine sp97 h3 ?_
  refine b131_16 ?_
  refine ⟨fun c5 => ?_, fun c5 => ?_⟩
  · have h5a := h4.1 c5
    refine b131_25 ?_
    refine b131_26 ?_
    have g6 := h5a.1
    refine ⟨g6, ?_⟩
    have h6 := h5a.2
    refine ⟨fun _ => ?_, fun c => absurd c (by decide)⟩
    · refine b131_64 ?_
      refine b131_67 ?_
      have g7 := h6.1
      refine ⟨g7, ?_⟩
      have h7 := h6.2
      have g8 := h7.1
      refine ⟨g8, ?_⟩
      have h8 := h7.2
      have g9 := h8.1
      refine ⟨g9, ?_⟩
      have h9 := h8.2
      have h10 := h9.1
      have h11 := h9.2
      refine sp97 h10 ?_
      refine b131_124 ?_
      have g12 := h11.1
      refine ⟨g12, ?_⟩
      have h12 := h11.2
      exact h12
  · have h5a := h4.2 c5
    refine b131_21 ?_
    refine b131_26 ?_
    have g13 := h5a.1
    refine ⟨g13, ?_⟩
    have h13 := h5a.2
    refine ⟨fun c => absurd c (by decide), fun _ => ?_⟩
    · refine b131_58 ?_
      refine b131_67 ?_
      have g14 := h13.1
      refine ⟨g14, ?_⟩
      have h14 := h13.2
      have g15 := h14.1
      refine ⟨g15, ?_⟩
      have h15 := h14.2
      have g16 := h15.1
      refine ⟨g16, ?_⟩
      have h16 := h15.2
      have h17 := h16.1
      have h18 := h16.2
      refine sp97 h17 ?_
      refine b131_124 ?_
      have g19 := h18.1
      refine ⟨g19, ?_⟩
      have h19 := h18.2
      exact h19
theorem e131 {M : mj_M} {K : mj_K} {x1 : Int32} {x2 : Int32} {x3 : Int32} (h : vp_in (8 * x2 + 0) 1242 ∧ (vp_in (11 * x1 + 960) 1242 ∧ ((¬ M 1 ((11 * x1 + 960).toNatClampNeg) = M 1 ((8 * x2 + 0).toNatClampNeg) → vp_in (5 * M 1 ((8 * x2 + 0).toNatClampNeg) + 1118) 1242 ∧ (vp_in (11 * x1 + 970) 1242 ∧ vp_in (8 * x2 + 0) 1242 ∧ vp_in (8 * x2 + 1) 1242 ∧ (vp_in (11 * x1 + 963) 1242 ∧ (vp_in (8 * x2 + 7) 1242 ∧ K 0 0 (mj_u (mj_u (mj_u (mj_u (mj_u M 1 ((5 * M 1 ((8 * x2 + 0).toNatClampNeg) + 1118).toNatClampNeg) (M 1 ((5 * M 1 ((8 * x2 + 0).toNatClampNeg) + 1118).toNatClampNeg) + 1)) 1 ((11 * x1 + 970).toNatClampNeg) ((mj_u M 1 ((5 * M 1 ((8 * x2 + 0).toNatClampNeg) + 1118).toNatClampNeg) (M 1 ((5 * M 1 ((8 * x2 + 0).toNatClampNeg) + 1118).toNatClampNeg) + 1)) 1 ((11 * x1 + 970).toNatClampNeg) + 1)) 1 ((8 * x2 + 0).toNatClampNeg) x3) 1 ((8 * x2 + 1).toNatClampNeg) 1) 1 ((8 * x2 + 7).toNatClampNeg) ((mj_u (mj_u (mj_u (mj_u M 1 ((5 * M 1 ((8 * x2 + 0).toNatClampNeg) + 1118).toNatClampNeg) (M 1 ((5 * M 1 ((8 * x2 + 0).toNatClampNeg) + 1118).toNatClampNeg) + 1)) 1 ((11 * x1 + 970).toNatClampNeg) ((mj_u M 1 ((5 * M 1 ((8 * x2 + 0).toNatClampNeg) + 1118).toNatClampNeg) (M 1 ((5 * M 1 ((8 * x2 + 0).toNatClampNeg) + 1118).toNatClampNeg) + 1)) 1 ((11 * x1 + 970).toNatClampNeg) + 1)) 1 ((8 * x2 + 0).toNatClampNeg) x3) 1 ((8 * x2 + 1).toNatClampNeg) 1) 1 1236 + (mj_u (mj_u (mj_u (mj_u M 1 ((5 * M 1 ((8 * x2 + 0).toNatClampNeg) + 1118).toNatClampNeg) (M 1 ((5 * M 1 ((8 * x2 + 0).toNatClampNeg) + 1118).toNatClampNeg) + 1)) 1 ((11 * x1 + 970).toNatClampNeg) ((mj_u M 1 ((5 * M 1 ((8 * x2 + 0).toNatClampNeg) + 1118).toNatClampNeg) (M 1 ((5 * M 1 ((8 * x2 + 0).toNatClampNeg) + 1118).toNatClampNeg) + 1)) 1 ((11 * x1 + 970).toNatClampNeg) + 1)) 1 ((8 * x2 + 0).toNatClampNeg) x3) 1 ((8 * x2 + 1).toNatClampNeg) 1) 1 ((11 * x1 + 963).toNatClampNeg))))))) ∧ (M 1 ((11 * x1 + 960).toNatClampNeg) = M 1 ((8 * x2 + 0).toNatClampNeg) → vp_in (5 * M 1 ((8 * x2 + 0).toNatClampNeg) + 1118) 1242 ∧ (vp_in (11 * x1 + 969) 1242 ∧ vp_in (8 * x2 + 0) 1242 ∧ vp_in (8 * x2 + 1) 1242 ∧ (vp_in (11 * x1 + 963) 1242 ∧ (vp_in (8 * x2 + 7) 1242 ∧ K 0 0 (mj_u (mj_u (mj_u (mj_u (mj_u M 1 ((5 * M 1 ((8 * x2 + 0).toNatClampNeg) + 1118).toNatClampNeg) (M 1 ((5 * M 1 ((8 * x2 + 0).toNatClampNeg) + 1118).toNatClampNeg) + 1)) 1 ((11 * x1 + 969).toNatClampNeg) ((mj_u M 1 ((5 * M 1 ((8 * x2 + 0).toNatClampNeg) + 1118).toNatClampNeg) (M 1 ((5 * M 1 ((8 * x2 + 0).toNatClampNeg) + 1118).toNatClampNeg) + 1)) 1 ((11 * x1 + 969).toNatClampNeg) + 1)) 1 ((8 * x2 + 0).toNatClampNeg) x3) 1 ((8 * x2 + 1).toNatClampNeg) 1) 1 ((8 * x2 + 7).toNatClampNeg) ((mj_u (mj_u (mj_u (mj_u M 1 ((5 * M 1 ((8 * x2 + 0).toNatClampNeg) + 1118).toNatClampNeg) (M 1 ((5 * M 1 ((8 * x2 + 0).toNatClampNeg) + 1118).toNatClampNeg) + 1)) 1 ((11 * x1 + 969).toNatClampNeg) ((mj_u M 1 ((5 * M 1 ((8 * x2 + 0).toNatClampNeg) + 1118).toNatClampNeg) (M 1 ((5 * M 1 ((8 * x2 + 0).toNatClampNeg) + 1118).toNatClampNeg) + 1)) 1 ((11 * x1 + 969).toNatClampNeg) + 1)) 1 ((8 * x2 + 0).toNatClampNeg) x3) 1 ((8 * x2 + 1).toNatClampNeg) 1) 1 1236 + (mj_u (mj_u (mj_u (mj_u M 1 ((5 * M 1 ((8 * x2 + 0).toNatClampNeg) + 1118).toNatClampNeg) (M 1 ((5 * M 1 ((8 * x2 + 0).toNatClampNeg) + 1118).toNatClampNeg) + 1)) 1 ((11 * x1 + 969).toNatClampNeg) ((mj_u M 1 ((5 * M 1 ((8 * x2 + 0).toNatClampNeg) + 1118).toNatClampNeg) (M 1 ((5 * M 1 ((8 * x2 + 0).toNatClampNeg) + 1118).toNatClampNeg) + 1)) 1 ((11 * x1 + 969).toNatClampNeg) + 1)) 1 ((8 * x2 + 0).toNatClampNeg) x3) 1 ((8 * x2 + 1).toNatClampNeg) 1) 1 ((11 * x1 + 963).toNatClampNeg)))))))))) : mj_Cm 131 2 [.ref 0, .int x1, .int x2, .int x3] M K := mj_en rfl rfl rfl (t131_0 h)

theorem t132_0 {M : mj_M} {K : mj_K} {x1 : Int32} (h : mj_W 1 132 3 4 [some (.ref 0), some (.int x1), some (.int 0), some (.int 0), none] [] M 0 K) : mj_W 1 132 3 0 [some (.ref 0), some (.int x1), none, none, none] [] M 0 K := by
  refine b132_0 ?_
  exact h
theorem e132 {M : mj_M} {K : mj_K} {x1 : Int32} (h : mj_W 1 132 3 4 [some (.ref 0), some (.int x1), some (.int 0), some (.int 0), none] [] M 0 K) : mj_Cm 132 3 [.ref 0, .int x1] M K := mj_en rfl rfl rfl (t132_0 h)

theorem t132_4 {M : mj_M} {K : mj_K} {x1 : Int32} {x2 : Int32} {x3 : Int32} {o4 : Option Value} (h : (M 1 1240 ≤ x3 → K 0 x2 M) ∧ (¬ M 1 1240 ≤ x3 → vp_in x3 120 ∧ ((¬ M 4 x3.toNatClampNeg = x1 → mj_W 1 132 3 4 [some (.ref 0), some (.int x1), some (.int x2), some (.int (x3 + 1)), o4] [] M 0 K) ∧ (M 4 x3.toNatClampNeg = x1 → mj_W 1 132 3 29 [some (.ref 0), some (.int x1), some (.int x2), some (.int x3), some (.int x2)] [] M 0 K)))) : mj_W 1 132 3 4 [some (.ref 0), some (.int x1), some (.int x2), some (.int x3), o4] [] M 0 K := by
  refine b132_4 ?_
  refine ⟨fun c1 => ?_, fun c1 => ?_⟩
  · have h1a := h.1 c1
    refine b132_91 ?_
    exact h1a
  · have h1a := h.2 c1
    refine b132_16 ?_
    have g2 := h1a.1
    refine ⟨g2, ?_⟩
    have h2 := h1a.2
    refine ⟨fun c3 => ?_, fun c3 => ?_⟩
    · have h3a := h2.1 c3
      refine b132_85 ?_
      exact h3a
    · have h3a := h2.2 c3
      refine b132_26 ?_
      exact h3a

theorem t132_29 {M : mj_M} {K : mj_K} {x1 : Int32} {x2 : Int32} {x3 : Int32} {x4 : Int32} (h : (x4 ≤ 0 → vp_in x4 120 ∧ mj_W 1 132 3 4 [some (.ref 0), some (.int x1), some (.int (x2 + 1)), some (.int (x3 + 1)), some (.int x4)] [] (mj_u M 5 x4.toNatClampNeg x3) 0 K) ∧ (¬ x4 ≤ 0 → vp_in (x4 - 1) 120 ∧ mj_Cm 128 2 [.ref 0, .int x3, .int (M 5 ((x4 - 1).toNatClampNeg)), .int x1] M (mj_k 1 132 3 49 [some (.ref 0), some (.int x1), some (.int x2), some (.int x3), some (.int x4)] [] 0 (some .boolean) K))) : mj_W 1 132 3 29 [some (.ref 0), some (.int x1), some (.int x2), some (.int x3), some (.int x4)] [] M 0 K := by
  refine b132_29 ?_
  refine ⟨fun c1 => ?_, fun c1 => ?_⟩
  · have h1a := h.1 c1
    refine b132_74 ?_
    have g2 := h1a.1
    refine ⟨g2, ?_⟩
    have h2 := h1a.2
    refine b132_85 ?_
    exact h2
  · have h1a := h.2 c1
    refine b132_34 ?_
    have g3 := h1a.1
    refine ⟨g3, ?_⟩
    have h3 := h1a.2
    exact h3

theorem t132_49 {M : mj_M} {K : mj_K} {x1 : Int32} {x2 : Int32} {x3 : Int32} {x4 : Int32} {s0 : Int32} (h : (s0 = 0 → vp_in x4 120 ∧ mj_W 1 132 3 4 [some (.ref 0), some (.int x1), some (.int (x2 + 1)), some (.int (x3 + 1)), some (.int x4)] [] (mj_u M 5 x4.toNatClampNeg x3) 0 K) ∧ (¬ s0 = 0 → vp_in (x4 - 1) 120 ∧ vp_in x4 120 ∧ mj_W 1 132 3 29 [some (.ref 0), some (.int x1), some (.int x2), some (.int x3), some (.int (x4 + (-1)))] [] (mj_u M 5 x4.toNatClampNeg (M 5 ((x4 - 1).toNatClampNeg))) 0 K)) : mj_W 1 132 3 49 [some (.ref 0), some (.int x1), some (.int x2), some (.int x3), some (.int x4)] [.int s0] M 0 K := by
  refine b132_49 ?_
  refine ⟨fun c1 => ?_, fun c1 => ?_⟩
  · have h1a := h.1 c1
    refine b132_74 ?_
    have g2 := h1a.1
    refine ⟨g2, ?_⟩
    have h2 := h1a.2
    refine b132_85 ?_
    exact h2
  · have h1a := h.2 c1
    refine b132_52 ?_
    have g3 := h1a.1
    refine ⟨g3, ?_⟩
    have h3 := h1a.2
    have g4 := h3.1
    refine ⟨g4, ?_⟩
    have h4 := h3.2
    exact h4

theorem t133_0 {M : mj_M} {K : mj_K} {x1 : Int32} (h : mj_Cm 108 2 [.ref 0, .int x1] M (mj_k 1 133 4 5 [some (.ref 0), some (.int x1), none, none, none, none, none, none, none, none, none, none] [] 0 (some .int) K)) : mj_W 1 133 4 0 [some (.ref 0), some (.int x1), none, none, none, none, none, none, none, none, none, none] [] M 0 K := by
  refine b133_0 ?_
  exact h
theorem e133 {M : mj_M} {K : mj_K} {x1 : Int32} (h : mj_Cm 108 2 [.ref 0, .int x1] M (mj_k 1 133 4 5 [some (.ref 0), some (.int x1), none, none, none, none, none, none, none, none, none, none] [] 0 (some .int) K)) : mj_Cm 133 4 [.ref 0, .int x1] M K := mj_en rfl rfl rfl (t133_0 h)

theorem t133_18 {M : mj_M} {K : mj_K} {x1 : Int32} {x2 : Int32} {x3 : Int32} {x4 : Int32} {x5 : Int32} {o6 : Option Value} {o7 : Option Value} {o8 : Option Value} {o9 : Option Value} {o10 : Option Value} {o11 : Option Value} (h : (x4 ≤ x5 → K 0 0 M) ∧ (¬ x4 ≤ x5 → vp_in x5 120 ∧ (vp_in (8 * M 5 x5.toNatClampNeg + 1) 1242 ∧ ((¬ M 1 ((8 * M 5 x5.toNatClampNeg + 1).toNatClampNeg) = 0 → vp_in (8 * M 5 x5.toNatClampNeg + 0) 1242 ∧ mj_Cm 112 3 [.ref 0, .int x1, .int (M 1 ((8 * M 5 x5.toNatClampNeg + 0).toNatClampNeg))] M (mj_k 1 133 4 69 [some (.ref 0), some (.int x1), some (.int x2), some (.int x3), some (.int x4), some (.int x5), some (.int (M 5 x5.toNatClampNeg)), some (.int 0), o8, o9, o10, o11] [] 0 (some .int) K)) ∧ (M 1 ((8 * M 5 x5.toNatClampNeg + 1).toNatClampNeg) = 0 → mj_Cm 130 3 [.ref 0, .int x1, .int (M 5 x5.toNatClampNeg)] M (mj_k 1 133 4 51 [some (.ref 0), some (.int x1), some (.int x2), some (.int x3), some (.int x4), some (.int x5), some (.int (M 5 x5.toNatClampNeg)), o7, o8, o9, o10, o11] [] 0 (some .int) K)))))) : mj_W 1 133 4 18 [some (.ref 0), some (.int x1), some (.int x2), some (.int x3), some (.int x4), some (.int x5), o6, o7, o8, o9, o10, o11] [] M 0 K := by
  refine b133_18 ?_
  refine ⟨fun c1 => ?_, fun c1 => ?_⟩
  · have h1a := h.1 c1
    refine b133_212 ?_
    exact h1a
  · have h1a := h.2 c1
    refine b133_25 ?_
    have g2 := h1a.1
    refine ⟨g2, ?_⟩
    have h2 := h1a.2
    have h3 := h2.1
    have h4 := h2.2
    refine sp99 h3 ?_
    refine b133_41 ?_
    refine ⟨fun c5 => ?_, fun c5 => ?_⟩
    · have h5a := h4.1 c5
      refine b133_54 ?_
      refine b133_55 ?_
      have h6 := h5a.1
      have h7 := h5a.2
      refine sp99 h6 ?_
      refine b133_66 ?_
      exact h7
    · have h5a := h4.2 c5
      refine b133_44 ?_
      exact h5a

theorem t133_133 {M : mj_M} {K : mj_K} {x1 : Int32} {x2 : Int32} {x3 : Int32} {x4 : Int32} {x5 : Int32} {x6 : Int32} {x7 : Int32} {x8 : Int32} {x9 : Int32} {x10 : Int32} {x11 : Int32} (h : (M 1 1240 ≤ x11 → mj_W 1 133 4 18 [some (.ref 0), some (.int x1), some (.int x2), some (.int (x3 + x7)), some (.int x4), some (.int (x5 + 1)), some (.int x6), some (.int x7), some (.int x8), some (.int x9), some (.int x10), some (.int x11)] [] M 0 K) ∧ (¬ M 1 1240 ≤ x11 → (x10 = (-1) → mj_W 1 133 4 18 [some (.ref 0), some (.int x1), some (.int x2), some (.int (x3 + x7)), some (.int x4), some (.int (x5 + 1)), some (.int x6), some (.int x7), some (.int x8), some (.int x9), some (.int x10), some (.int x11)] [] M 0 K) ∧ (¬ x10 = (-1) → vp_in (8 * x11 + 4) 1242 ∧ ((¬ M 1 ((8 * x11 + 4).toNatClampNeg) = x10 → mj_W 1 133 4 133 [some (.ref 0), some (.int x1), some (.int x2), some (.int x3), some (.int x4), some (.int x5), some (.int x6), some (.int x7), some (.int x8), some (.int x9), some (.int x10), some (.int (x11 + 1))] [] M 0 K) ∧ (M 1 ((8 * x11 + 4).toNatClampNeg) = x10 → vp_in (8 * x11 + 1) 1242 ∧ ((¬ M 1 ((8 * x11 + 1).toNatClampNeg) = 0 → mj_W 1 133 4 133 [some (.ref 0), some (.int x1), some (.int x2), some (.int x3), some (.int x4), some (.int x5), some (.int x6), some (.int x7), some (.int x8), some (.int x9), some (.int x10), some (.int (x11 + 1))] [] M 0 K) ∧ (M 1 ((8 * x11 + 1).toNatClampNeg) = 0 → vp_in (8 * x11 + 0) 1242 ∧ ((¬ M 1 ((8 * x11 + 0).toNatClampNeg) = x9 → mj_W 1 133 4 133 [some (.ref 0), some (.int x1), some (.int x2), some (.int x3), some (.int x4), some (.int x5), some (.int x6), some (.int x7), some (.int x8), some (.int x9), some (.int x10), some (.int (x11 + 1))] [] M 0 K) ∧ (M 1 ((8 * x11 + 0).toNatClampNeg) = x9 → mj_Cm 131 2 [.ref 0, .int x1, .int x11, .int x8] M (mj_k 1 133 4 195 [some (.ref 0), some (.int x1), some (.int x2), some (.int x3), some (.int x4), some (.int x5), some (.int x6), some (.int x7), some (.int x8), some (.int x9), some (.int x10), some (.int x11)] [] 0 none K)))))))))) : mj_W 1 133 4 133 [some (.ref 0), some (.int x1), some (.int x2), some (.int x3), some (.int x4), some (.int x5), some (.int x6), some (.int x7), some (.int x8), some (.int x9), some (.int x10), some (.int x11)] [] M 0 K := by
  refine b133_133 ?_
  refine ⟨fun c1 => ?_, fun c1 => ?_⟩
  · have h1a := h.1 c1
    refine b133_201 ?_
    refine b133_206 ?_
    exact h1a
  · have h1a := h.2 c1
    refine b133_146 ?_
    refine ⟨fun c2 => ?_, fun c2 => ?_⟩
    · have h2a := h1a.1 c2
      refine b133_201 ?_
      refine b133_206 ?_
      exact h2a
    · have h2a := h1a.2 c2
      refine b133_152 ?_
      have h3 := h2a.1
      have h4 := h2a.2
      refine sp99 h3 ?_
      refine b133_159 ?_
      refine ⟨fun c5 => ?_, fun c5 => ?_⟩
      · have h5a := h4.1 c5
        refine b133_195 ?_
        exact h5a
      · have h5a := h4.2 c5
        refine b133_164 ?_
        have h6 := h5a.1
        have h7 := h5a.2
        refine sp99 h6 ?_
        refine b133_171 ?_
        refine ⟨fun c8 => ?_, fun c8 => ?_⟩
        · have h8a := h7.1 c8
          refine b133_195 ?_
          exact h8a
        · have h8a := h7.2 c8
          refine b133_174 ?_
          have h9 := h8a.1
          have h10 := h8a.2
          refine sp99 h9 ?_
          refine b133_181 ?_
          refine ⟨fun c11 => ?_, fun c11 => ?_⟩
          · have h11a := h10.1 c11
            refine b133_195 ?_
            exact h11a
          · have h11a := h10.2 c11
            refine b133_186 ?_
            exact h11a

theorem t133_5 {M : mj_M} {K : mj_K} {x1 : Int32} {o2 : Option Value} {o3 : Option Value} {o4 : Option Value} {o5 : Option Value} {o6 : Option Value} {o7 : Option Value} {o8 : Option Value} {o9 : Option Value} {o10 : Option Value} {o11 : Option Value} {s0 : Int32} (h : mj_Cm 132 3 [.ref 0, .int x1] M (mj_k 1 133 4 13 [some (.ref 0), some (.int x1), some (.int s0), some (.int 0), o4, o5, o6, o7, o8, o9, o10, o11] [] 0 (some .int) K)) : mj_W 1 133 4 5 [some (.ref 0), some (.int x1), o2, o3, o4, o5, o6, o7, o8, o9, o10, o11] [.int s0] M 0 K := by
  refine b133_5 ?_
  exact h

theorem t133_69 {M : mj_M} {K : mj_K} {x1 : Int32} {x2 : Int32} {x3 : Int32} {x4 : Int32} {x5 : Int32} {x6 : Int32} {x7 : Int32} {o8 : Option Value} {o9 : Option Value} {o10 : Option Value} {o11 : Option Value} {s0 : Int32} (h : (x7 ≤ 0 → mj_W 1 133 4 18 [some (.ref 0), some (.int x1), some (.int x2), some (.int x3), some (.int x4), some (.int (x5 + 1)), some (.int x6), some (.int x7), some (.int s0), o9, o10, o11] [] M 0 K) ∧ (¬ x7 ≤ 0 → (x2 ≤ 0 → mj_W 1 133 4 18 [some (.ref 0), some (.int x1), some (.int x2), some (.int x3), some (.int x4), some (.int (x5 + 1)), some (.int x6), some (.int x7), some (.int s0), o9, o10, o11] [] M 0 K) ∧ (¬ x2 ≤ 0 → (x3 + x7 ≤ x2 → mj_Cm 115 3 [.ref 0, .int s0] M (mj_k 1 133 4 98 [some (.ref 0), some (.int x1), some (.int x2), some (.int x3), some (.int x4), some (.int x5), some (.int x6), some (.int x7), some (.int s0), o9, o10, o11] [] 0 (some .int) K)) ∧ (¬ x3 + x7 ≤ x2 → (¬ x3 = 0 → mj_W 1 133 4 18 [some (.ref 0), some (.int x1), some (.int x2), some (.int x3), some (.int x4), some (.int (x5 + 1)), some (.int x6), some (.int x7), some (.int s0), o9, o10, o11] [] M 0 K) ∧ (x3 = 0 → mj_Cm 115 3 [.ref 0, .int s0] M (mj_k 1 133 4 98 [some (.ref 0), some (.int x1), some (.int x2), some (.int x3), some (.int x4), some (.int x5), some (.int x6), some (.int x7), some (.int s0), o9, o10, o11] [] 0 (some .int) K)))))) : mj_W 1 133 4 69 [some (.ref 0), some (.int x1), some (.int x2), some (.int x3), some (.int x4), some (.int x5), some (.int x6), some (.int x7), o8, o9, o10, o11] [.int s0] M 0 K := by
  refine b133_69 ?_
  refine ⟨fun c1 => ?_, fun c1 => ?_⟩
  · have h1a := h.1 c1
    refine b133_206 ?_
    exact h1a
  · have h1a := h.2 c1
    refine b133_76 ?_
    refine ⟨fun c2 => ?_, fun c2 => ?_⟩
    · have h2a := h1a.1 c2
      refine b133_206 ?_
      exact h2a
    · have h2a := h1a.2 c2
      refine b133_80 ?_
      refine ⟨fun c3 => ?_, fun c3 => ?_⟩
      · have h3a := h2a.1 c3
        refine b133_92 ?_
        exact h3a
      · have h3a := h2a.2 c3
        refine b133_88 ?_
        refine ⟨fun c4 => ?_, fun c4 => ?_⟩
        · have h4a := h3a.1 c4
          refine b133_206 ?_
          exact h4a
        · have h4a := h3a.2 c4
          refine b133_92 ?_
          exact h4a

theorem t133_51 {M : mj_M} {K : mj_K} {x1 : Int32} {x2 : Int32} {x3 : Int32} {x4 : Int32} {x5 : Int32} {x6 : Int32} {o7 : Option Value} {o8 : Option Value} {o9 : Option Value} {o10 : Option Value} {o11 : Option Value} {s0 : Int32} (h : vp_in (8 * x6 + 0) 1242 ∧ mj_Cm 112 3 [.ref 0, .int x1, .int (M 1 ((8 * x6 + 0).toNatClampNeg))] M (mj_k 1 133 4 69 [some (.ref 0), some (.int x1), some (.int x2), some (.int x3), some (.int x4), some (.int x5), some (.int x6), some (.int s0), o8, o9, o10, o11] [] 0 (some .int) K)) : mj_W 1 133 4 51 [some (.ref 0), some (.int x1), some (.int x2), some (.int x3), some (.int x4), some (.int x5), some (.int x6), o7, o8, o9, o10, o11] [.int s0] M 0 K := by
  refine b133_51 ?_
  refine b133_55 ?_
  have h1 := h.1
  have h2 := h.2
  refine sp99 h1 ?_
  refine b133_66 ?_
  exact h2

theorem t133_195 {M : mj_M} {K : mj_K} {x1 : Int32} {x2 : Int32} {x3 : Int32} {x4 : Int32} {x5 : Int32} {x6 : Int32} {x7 : Int32} {x8 : Int32} {x9 : Int32} {x10 : Int32} {x11 : Int32} (h : mj_W 1 133 4 133 [some (.ref 0), some (.int x1), some (.int x2), some (.int x3), some (.int x4), some (.int x5), some (.int x6), some (.int x7), some (.int x8), some (.int x9), some (.int x10), some (.int (x11 + 1))] [] M 0 K) : mj_W 1 133 4 195 [some (.ref 0), some (.int x1), some (.int x2), some (.int x3), some (.int x4), some (.int x5), some (.int x6), some (.int x7), some (.int x8), some (.int x9), some (.int x10), some (.int x11)] [] M 0 K := by
  refine b133_195 ?_
  exact h

theorem t133_13 {M : mj_M} {K : mj_K} {x1 : Int32} {x2 : Int32} {x3 : Int32} {o4 : Option Value} {o5 : Option Value} {o6 : Option Value} {o7 : Option Value} {o8 : Option Value} {o9 : Option Value} {o10 : Option Value} {o11 : Option Value} {s0 : Int32} (h : mj_W 1 133 4 18 [some (.ref 0), some (.int x1), some (.int x2), some (.int x3), some (.int s0), some (.int 0), o6, o7, o8, o9, o10, o11] [] M 0 K) : mj_W 1 133 4 13 [some (.ref 0), some (.int x1), some (.int x2), some (.int x3), o4, o5, o6, o7, o8, o9, o10, o11] [.int s0] M 0 K := by
  refine b133_13 ?_
  exact h

theorem t133_98 {M : mj_M} {K : mj_K} {x1 : Int32} {x2 : Int32} {x3 : Int32} {x4 : Int32} {x5 : Int32} {x6 : Int32} {x7 : Int32} {x8 : Int32} {o9 : Option Value} {o10 : Option Value} {o11 : Option Value} {s0 : Int32} (h : (s0 < x7 → mj_W 1 133 4 18 [some (.ref 0), some (.int x1), some (.int x2), some (.int x3), some (.int x4), some (.int (x5 + 1)), some (.int x6), some (.int x7), some (.int x8), o9, o10, o11] [] M 0 K) ∧ (¬ s0 < x7 → vp_in (8 * x6 + 0) 1242 ∧ (vp_in (8 * x6 + 4) 1242 ∧ mj_Cm 131 2 [.ref 0, .int x1, .int x6, .int x8] M (mj_k 1 133 4 130 [some (.ref 0), some (.int x1), some (.int x2), some (.int x3), some (.int x4), some (.int x5), some (.int x6), some (.int x7), some (.int x8), some (.int (M 1 ((8 * x6 + 0).toNatClampNeg))), some (.int (M 1 ((8 * x6 + 4).toNatClampNeg))), o11] [] 0 none K)))) : mj_W 1 133 4 98 [some (.ref 0), some (.int x1), some (.int x2), some (.int x3), some (.int x4), some (.int x5), some (.int x6), some (.int x7), some (.int x8), o9, o10, o11] [.int s0] M 0 K := by
  refine b133_98 ?_
  refine ⟨fun c1 => ?_, fun c1 => ?_⟩
  · have h1a := h.1 c1
    refine b133_206 ?_
    exact h1a
  · have h1a := h.2 c1
    refine b133_103 ?_
    have h2 := h1a.1
    have h3 := h1a.2
    refine sp99 h2 ?_
    refine b133_110 ?_
    have h4 := h3.1
    have h5 := h3.2
    refine sp99 h4 ?_
    refine b133_119 ?_
    exact h5

theorem t133_130 {M : mj_M} {K : mj_K} {x1 : Int32} {x2 : Int32} {x3 : Int32} {x4 : Int32} {x5 : Int32} {x6 : Int32} {x7 : Int32} {x8 : Int32} {x9 : Int32} {x10 : Int32} {o11 : Option Value} (h : mj_W 1 133 4 133 [some (.ref 0), some (.int x1), some (.int x2), some (.int x3), some (.int x4), some (.int x5), some (.int x6), some (.int x7), some (.int x8), some (.int x9), some (.int x10), some (.int 0)] [] M 0 K) : mj_W 1 133 4 130 [some (.ref 0), some (.int x1), some (.int x2), some (.int x3), some (.int x4), some (.int x5), some (.int x6), some (.int x7), some (.int x8), some (.int x9), some (.int x10), o11] [] M 0 K := by
  refine b133_130 ?_
  exact h

theorem t134_0 {M : mj_M} {K : mj_K}  (h : mj_W 1 134 5 14 [some (.ref 0), some (.int 0), none, none, none] [] (mj_u M 1 1236 (M 1 1236 + 1)) 0 K) : mj_W 1 134 5 0 [some (.ref 0), none, none, none, none] [] M 0 K := by
  refine b134_0 ?_
  exact h
theorem e134 {M : mj_M} {K : mj_K}  (h : mj_W 1 134 5 14 [some (.ref 0), some (.int 0), none, none, none] [] (mj_u M 1 1236 (M 1 1236 + 1)) 0 K) : mj_Cm 134 5 [.ref 0] M K := mj_en rfl rfl rfl (t134_0 h)

theorem t134_14 {M : mj_M} {K : mj_K} {x1 : Int32} {o2 : Option Value} {o3 : Option Value} {o4 : Option Value} (h : (M 1 1240 ≤ x1 → mj_W 1 134 5 73 [some (.ref 0), some (.int 0), o2, o3, o4] [] M 0 K) ∧ (¬ M 1 1240 ≤ x1 → vp_in (8 * x1 + 1) 1242 ∧ ((¬ M 1 ((8 * x1 + 1).toNatClampNeg) = 1 → mj_W 1 134 5 14 [some (.ref 0), some (.int (x1 + 1)), o2, o3, o4] [] M 0 K) ∧ (M 1 ((8 * x1 + 1).toNatClampNeg) = 1 → vp_in (8 * x1 + 7) 1242 ∧ ((¬ M 1 ((8 * x1 + 7).toNatClampNeg) = M 1 1236 → mj_W 1 134 5 14 [some (.ref 0), some (.int (x1 + 1)), o2, o3, o4] [] M 0 K) ∧ (M 1 ((8 * x1 + 7).toNatClampNeg) = M 1 1236 → vp_in (8 * x1 + 0) 1242 ∧ mj_Cm 117 3 [.ref 0, .int x1, .int (M 1 ((8 * x1 + 0).toNatClampNeg))] M (mj_k 1 134 5 65 [some (.ref 0), some (.int x1), o2, o3, o4] [] 0 none K))))))) : mj_W 1 134 5 14 [some (.ref 0), some (.int x1), o2, o3, o4] [] M 0 K := by
  refine b134_14 ?_
  refine ⟨fun c1 => ?_, fun c1 => ?_⟩
  · have h1a := h.1 c1
    refine b134_71 ?_
    exact h1a
  · have h1a := h.2 c1
    refine b134_26 ?_
    have h2 := h1a.1
    have h3 := h1a.2
    refine sp99 h2 ?_
    refine b134_32 ?_
    refine ⟨fun c4 => ?_, fun c4 => ?_⟩
    · have h4a := h3.1 c4
      refine b134_65 ?_
      exact h4a
    · have h4a := h3.2 c4
      refine b134_36 ?_
      have h5 := h4a.1
      have h6 := h4a.2
      refine sp99 h5 ?_
      refine b134_43 ?_
      refine ⟨fun c7 => ?_, fun c7 => ?_⟩
      · have h7a := h6.1 c7
        refine b134_65 ?_
        exact h7a
      · have h7a := h6.2 c7
        refine b134_54 ?_
        have h8 := h7a.1
        have h9 := h7a.2
        refine sp99 h8 ?_
        refine b134_62 ?_
        exact h9

theorem t134_73 {M : mj_M} {K : mj_K} {x1 : Int32} {o2 : Option Value} {o3 : Option Value} {o4 : Option Value} (h : (M 1 1241 ≤ x1 → mj_W 1 134 5 114 [some (.ref 0), some (.int 0), o2, o3, o4] [] M 0 K) ∧ (¬ M 1 1241 ≤ x1 → vp_in (6 * x1 + 1168) 1242 ∧ ((M 1 ((6 * x1 + 1168).toNatClampNeg) ≤ 0 → mj_W 1 134 5 73 [some (.ref 0), some (.int (x1 + 1)), o2, o3, o4] [] M 0 K) ∧ (¬ M 1 ((6 * x1 + 1168).toNatClampNeg) ≤ 0 → mj_Cm 127 4 [.ref 0, .int x1] M (mj_k 1 134 5 106 [some (.ref 0), some (.int x1), o2, o3, o4] [] 0 none K))))) : mj_W 1 134 5 73 [some (.ref 0), some (.int x1), o2, o3, o4] [] M 0 K := by
  refine b134_73 ?_
  refine ⟨fun c1 => ?_, fun c1 => ?_⟩
  · have h1a := h.1 c1
    refine b134_112 ?_
    exact h1a
  · have h1a := h.2 c1
    refine b134_85 ?_
    have g2 := h1a.1
    refine ⟨g2, ?_⟩
    have h2 := h1a.2
    refine ⟨fun c3 => ?_, fun c3 => ?_⟩
    · have h3a := h2.1 c3
      refine b134_106 ?_
      exact h3a
    · have h3a := h2.2 c3
      refine b134_101 ?_
      exact h3a

theorem t134_114 {M : mj_M} {K : mj_K} {x1 : Int32} {o2 : Option Value} {o3 : Option Value} {o4 : Option Value} (h : (M 1 1240 ≤ x1 → mj_W 1 134 5 191 [some (.ref 0), some (.int 0), o2, o3, o4] [] M 0 K) ∧ (¬ M 1 1240 ≤ x1 → mj_Cm 113 4 [.ref 0, .int x1] M (mj_k 1 134 5 136 [some (.ref 0), some (.int x1), o2, o3, o4] [.int x1, .ref 4] 0 (some .int) K))) : mj_W 1 134 5 114 [some (.ref 0), some (.int x1), o2, o3, o4] [] M 0 K := by
  refine b134_114 ?_
  refine ⟨fun c1 => ?_, fun c1 => ?_⟩
  · have h1a := h.1 c1
    refine b134_189 ?_
    exact h1a
  · have h1a := h.2 c1
    refine b134_126 ?_
    exact h1a

theorem t134_191 {M : mj_M} {K : mj_K} {x1 : Int32} {o2 : Option Value} {o3 : Option Value} {o4 : Option Value} (h : (M 1 1239 ≤ x1 → mj_W 1 134 5 227 [some (.ref 0), some (.int 0), o2, o3, o4] [] M 0 K) ∧ (¬ M 1 1239 ≤ x1 → vp_in (11 * x1 + 965) 1242 ∧ ((¬ M 1 ((11 * x1 + 965).toNatClampNeg) = 0 → mj_W 1 134 5 191 [some (.ref 0), some (.int (x1 + 1)), o2, o3, o4] [] M 0 K) ∧ (M 1 ((11 * x1 + 965).toNatClampNeg) = 0 → mj_Cm 133 4 [.ref 0, .int x1] M (mj_k 1 134 5 219 [some (.ref 0), some (.int x1), o2, o3, o4] [] 0 none K))))) : mj_W 1 134 5 191 [some (.ref 0), some (.int x1), o2, o3, o4] [] M 0 K := by
  refine b134_191 ?_
  refine ⟨fun c1 => ?_, fun c1 => ?_⟩
  · have h1a := h.1 c1
    refine b134_225 ?_
    exact h1a
  · have h1a := h.2 c1
    refine b134_203 ?_
    have h2 := h1a.1
    have h3 := h1a.2
    refine sp97 h2 ?_
    refine b134_211 ?_
    refine ⟨fun c4 => ?_, fun c4 => ?_⟩
    · have h4a := h3.1 c4
      refine b134_219 ?_
      exact h4a
    · have h4a := h3.2 c4
      refine b134_214 ?_
      exact h4a

theorem t134_227 {M : mj_M} {K : mj_K} {x1 : Int32} {o2 : Option Value} {o3 : Option Value} {o4 : Option Value} (h : (M 1 1238 ≤ x1 → K 0 0 M) ∧ (¬ M 1 1238 ≤ x1 → mj_Cm 114 2 [.ref 0, .int x1, .int 0] M (mj_k 1 134 5 247 [some (.ref 0), some (.int x1), o2, o3, o4] [.int 10] 0 (some .int) K))) : mj_W 1 134 5 227 [some (.ref 0), some (.int x1), o2, o3, o4] [] M 0 K := by
  refine b134_227 ?_
  refine ⟨fun c1 => ?_, fun c1 => ?_⟩
  · have h1a := h.1 c1
    refine b134_332 ?_
    exact h1a
  · have h1a := h.2 c1
    refine b134_239 ?_
    exact h1a

theorem t134_65 {M : mj_M} {K : mj_K} {x1 : Int32} {o2 : Option Value} {o3 : Option Value} {o4 : Option Value} (h : mj_W 1 134 5 14 [some (.ref 0), some (.int (x1 + 1)), o2, o3, o4] [] M 0 K) : mj_W 1 134 5 65 [some (.ref 0), some (.int x1), o2, o3, o4] [] M 0 K := by
  refine b134_65 ?_
  exact h

theorem t134_106 {M : mj_M} {K : mj_K} {x1 : Int32} {o2 : Option Value} {o3 : Option Value} {o4 : Option Value} (h : mj_W 1 134 5 73 [some (.ref 0), some (.int (x1 + 1)), o2, o3, o4] [] M 0 K) : mj_W 1 134 5 106 [some (.ref 0), some (.int x1), o2, o3, o4] [] M 0 K := by
  refine b134_106 ?_
  exact h

theorem t134_136 {M : mj_M} {K : mj_K} {x1 : Int32} {o2 : Option Value} {o3 : Option Value} {o4 : Option Value} {s1 : Int32} {s2 : Int32} (h : vp_in s1 120 ∧ vp_in x1 120 ∧ (((mj_u M 4 s1.toNatClampNeg s2) 4 x1.toNatClampNeg = (-1) → mj_W 1 134 5 114 [some (.ref 0), some (.int (x1 + 1)), o2, o3, o4] [] (mj_u M 4 s1.toNatClampNeg s2) 0 K) ∧ (¬ (mj_u M 4 s1.toNatClampNeg s2) 4 x1.toNatClampNeg = (-1) → vp_in (11 * (mj_u M 4 s1.toNatClampNeg s2) 4 x1.toNatClampNeg + 965) 1242 ∧ ((¬ M 1 ((11 * (mj_u M 4 s1.toNatClampNeg s2) 4 x1.toNatClampNeg + 965).toNatClampNeg) = 1 → mj_W 1 134 5 114 [some (.ref 0), some (.int (x1 + 1)), o2, o3, o4] [] (mj_u M 4 s1.toNatClampNeg s2) 0 K) ∧ (M 1 ((11 * (mj_u M 4 s1.toNatClampNeg s2) 4 x1.toNatClampNeg + 965).toNatClampNeg) = 1 → vp_in (8 * x1 + 5) 1242 ∧ mj_W 1 134 5 114 [some (.ref 0), some (.int (x1 + 1)), o2, o3, o4] [] (mj_u (mj_u (mj_u M 4 s1.toNatClampNeg s2) 1 ((8 * x1 + 5).toNatClampNeg) 1) 4 x1.toNatClampNeg (-1)) 0 K))))) : mj_W 1 134 5 136 [some (.ref 0), some (.int x1), o2, o3, o4] [.int s2, .int s1, .ref 4] M 0 K := by
  refine b134_136 ?_
  have g1 := h.1
  refine ⟨g1, ?_⟩
  have h1 := h.2
  have g2 := h1.1
  refine ⟨g2, ?_⟩
  have h2 := h1.2
  refine ⟨fun c3 => ?_, fun c3 => ?_⟩
  · have h3a := h2.1 c3
    refine b134_183 ?_
    exact h3a
  · have h3a := h2.2 c3
    refine b134_147 ?_
    refine ⟨g2, ?_⟩
    have h4 := h3a.1
    have h5 := h3a.2
    refine sp97 h4 ?_
    refine b134_160 ?_
    refine ⟨fun c6 => ?_, fun c6 => ?_⟩
    · have h6a := h5.1 c6
      refine b134_183 ?_
      exact h6a
    · have h6a := h5.2 c6
      refine b134_164 ?_
      have g7 := h6a.1
      refine ⟨g7, ?_⟩
      have h7 := h6a.2
      refine ⟨g2, ?_⟩
      refine b134_183 ?_
      exact h7

theorem t134_219 {M : mj_M} {K : mj_K} {x1 : Int32} {o2 : Option Value} {o3 : Option Value} {o4 : Option Value} (h : mj_W 1 134 5 191 [some (.ref 0), some (.int (x1 + 1)), o2, o3, o4] [] M 0 K) : mj_W 1 134 5 219 [some (.ref 0), some (.int x1), o2, o3, o4] [] M 0 K := by
  refine b134_219 ?_
  exact h

theorem t134_247 {M : mj_M} {K : mj_K} {x1 : Int32} {o2 : Option Value} {o3 : Option Value} {o4 : Option Value} {s0 : Int32} {s1 : Int32} (h : vp_in (5 * x1 + 1115) 1242 ∧ ((9 * M 1 ((5 * x1 + 1115).toNatClampNeg) ≤ s0 * s1 → vp_in (5 * x1 + 1114) 1242 ∧ ((M 1 ((5 * x1 + 1114).toNatClampNeg) = 0 → vp_in (5 * x1 + 1116) 1242 ∧ mj_W 1 134 5 227 [some (.ref 0), some (.int (x1 + 1)), some (.int (s0 * s1)), some (.int (M 1 ((5 * x1 + 1115).toNatClampNeg))), some (.int 1)] [] (mj_u M 1 ((5 * x1 + 1116).toNatClampNeg) 0) 0 K) ∧ (¬ M 1 ((5 * x1 + 1114).toNatClampNeg) = 0 → vp_in (5 * x1 + 1116) 1242 ∧ mj_W 1 134 5 227 [some (.ref 0), some (.int (x1 + 1)), some (.int (s0 * s1)), some (.int (M 1 ((5 * x1 + 1115).toNatClampNeg))), some (.int 1)] [] (mj_u M 1 ((5 * x1 + 1116).toNatClampNeg) 1) 0 K))) ∧ (¬ 9 * M 1 ((5 * x1 + 1115).toNatClampNeg) ≤ s0 * s1 → vp_in (5 * x1 + 1116) 1242 ∧ ((¬ M 1 ((5 * x1 + 1116).toNatClampNeg) = 1 → vp_in (5 * x1 + 1114) 1242 ∧ ((M 1 ((5 * x1 + 1114).toNatClampNeg) = 0 → vp_in (5 * x1 + 1116) 1242 ∧ mj_W 1 134 5 227 [some (.ref 0), some (.int (x1 + 1)), some (.int (s0 * s1)), some (.int (M 1 ((5 * x1 + 1115).toNatClampNeg))), some (.int 0)] [] (mj_u M 1 ((5 * x1 + 1116).toNatClampNeg) 0) 0 K) ∧ (¬ M 1 ((5 * x1 + 1114).toNatClampNeg) = 0 → vp_in (5 * x1 + 1116) 1242 ∧ mj_W 1 134 5 227 [some (.ref 0), some (.int (x1 + 1)), some (.int (s0 * s1)), some (.int (M 1 ((5 * x1 + 1115).toNatClampNeg))), some (.int 0)] [] (mj_u M 1 ((5 * x1 + 1116).toNatClampNeg) 0) 0 K))) ∧ (M 1 ((5 * x1 + 1116).toNatClampNeg) = 1 → (s0 * s1 ≤ 7 * M 1 ((5 * x1 + 1115).toNatClampNeg) → vp_in (5 * x1 + 1114) 1242 ∧ ((M 1 ((5 * x1 + 1114).toNatClampNeg) = 0 → vp_in (5 * x1 + 1116) 1242 ∧ mj_W 1 134 5 227 [some (.ref 0), some (.int (x1 + 1)), some (.int (s0 * s1)), some (.int (M 1 ((5 * x1 + 1115).toNatClampNeg))), some (.int 0)] [] (mj_u M 1 ((5 * x1 + 1116).toNatClampNeg) 0) 0 K) ∧ (¬ M 1 ((5 * x1 + 1114).toNatClampNeg) = 0 → vp_in (5 * x1 + 1116) 1242 ∧ mj_W 1 134 5 227 [some (.ref 0), some (.int (x1 + 1)), some (.int (s0 * s1)), some (.int (M 1 ((5 * x1 + 1115).toNatClampNeg))), some (.int 0)] [] (mj_u M 1 ((5 * x1 + 1116).toNatClampNeg) 0) 0 K))) ∧ (¬ s0 * s1 ≤ 7 * M 1 ((5 * x1 + 1115).toNatClampNeg) → vp_in (5 * x1 + 1114) 1242 ∧ ((M 1 ((5 * x1 + 1114).toNatClampNeg) = 0 → vp_in (5 * x1 + 1116) 1242 ∧ mj_W 1 134 5 227 [some (.ref 0), some (.int (x1 + 1)), some (.int (s0 * s1)), some (.int (M 1 ((5 * x1 + 1115).toNatClampNeg))), some (.int 1)] [] (mj_u M 1 ((5 * x1 + 1116).toNatClampNeg) 0) 0 K) ∧ (¬ M 1 ((5 * x1 + 1114).toNatClampNeg) = 0 → vp_in (5 * x1 + 1116) 1242 ∧ mj_W 1 134 5 227 [some (.ref 0), some (.int (x1 + 1)), some (.int (s0 * s1)), some (.int (M 1 ((5 * x1 + 1115).toNatClampNeg))), some (.int 1)] [] (mj_u M 1 ((5 * x1 + 1116).toNatClampNeg) 1) 0 K)))))))) : mj_W 1 134 5 247 [some (.ref 0), some (.int x1), o2, o3, o4] [.int s1, .int s0] M 0 K := by
  refine b134_247 ?_
  have h1 := h.1
  have h2 := h.2
  refine sp98 h1 ?_
  refine b134_257 ?_
  refine ⟨fun c3 => ?_, fun c3 => ?_⟩
  · have h3a := h2.1 c3
    refine b134_286 ?_
    refine b134_291 ?_
    have h4 := h3a.1
    have h5 := h3a.2
    refine sp98 h4 ?_
    refine b134_312 ?_
    refine ⟨fun c6 => ?_, fun c6 => ?_⟩
    · have h6a := h5.1 c6
      refine b134_324 ?_
      refine b134_325 ?_
      have g7 := h6a.1
      refine ⟨g7, ?_⟩
      have h7 := h6a.2
      exact h7
    · have h6a := h5.2 c6
      refine b134_315 ?_
      refine ⟨fun c => absurd c (by decide), fun _ => ?_⟩
      · refine b134_320 ?_
        refine b134_325 ?_
        have g8 := h6a.1
        refine ⟨g8, ?_⟩
        have h8 := h6a.2
        exact h8
  · have h3a := h2.2 c3
    refine b134_266 ?_
    have h9 := h3a.1
    have h10 := h3a.2
    refine sp98 h9 ?_
    refine b134_274 ?_
    refine ⟨fun c11 => ?_, fun c11 => ?_⟩
    · have h11a := h10.1 c11
      refine b134_290 ?_
      refine b134_291 ?_
      have h12 := h11a.1
      have h13 := h11a.2
      refine sp98 h12 ?_
      refine b134_312 ?_
      refine ⟨fun c14 => ?_, fun c14 => ?_⟩
      · have h14a := h13.1 c14
        refine b134_324 ?_
        refine b134_325 ?_
        have g15 := h14a.1
        refine ⟨g15, ?_⟩
        have h15 := h14a.2
        exact h15
      · have h14a := h13.2 c14
        refine b134_315 ?_
        refine ⟨fun _ => ?_, fun c => absurd c (by decide)⟩
        · refine b134_324 ?_
          refine b134_325 ?_
          have g16 := h14a.1
          refine ⟨g16, ?_⟩
          have h16 := h14a.2
          exact h16
    · have h11a := h10.2 c11
      refine b134_278 ?_
      refine ⟨fun c17 => ?_, fun c17 => ?_⟩
      · have h17a := h11a.1 c17
        refine b134_290 ?_
        refine b134_291 ?_
        have h18 := h17a.1
        have h19 := h17a.2
        refine sp98 h18 ?_
        refine b134_312 ?_
        refine ⟨fun c20 => ?_, fun c20 => ?_⟩
        · have h20a := h19.1 c20
          refine b134_324 ?_
          refine b134_325 ?_
          have g21 := h20a.1
          refine ⟨g21, ?_⟩
          have h21 := h20a.2
          exact h21
        · have h20a := h19.2 c20
          refine b134_315 ?_
          refine ⟨fun _ => ?_, fun c => absurd c (by decide)⟩
          · refine b134_324 ?_
            refine b134_325 ?_
            have g22 := h20a.1
            refine ⟨g22, ?_⟩
            have h22 := h20a.2
            exact h22
      · have h17a := h11a.2 c17
        refine b134_286 ?_
        refine b134_291 ?_
        have h23 := h17a.1
        have h24 := h17a.2
        refine sp98 h23 ?_
        refine b134_312 ?_
        refine ⟨fun c25 => ?_, fun c25 => ?_⟩
        · have h25a := h24.1 c25
          refine b134_324 ?_
          refine b134_325 ?_
          have g26 := h25a.1
          refine ⟨g26, ?_⟩
          have h26 := h25a.2
          exact h26
        · have h25a := h24.2 c25
          refine b134_315 ?_
          refine ⟨fun c => absurd c (by decide), fun _ => ?_⟩
          · refine b134_320 ?_
            refine b134_325 ?_
            have g27 := h25a.1
            refine ⟨g27, ?_⟩
            have h27 := h25a.2
            exact h27

theorem t135_0 {M : mj_M} {K : mj_K} {x1 : Int32} (h : mj_Cm 93 1 [.ref 0, .int (mj_bi (p92 M x1 1 60)), .int 1, .int 1] M (mj_k 1 135 6 13 [some (.ref 0), some (.int x1), none] [] 0 (some .boolean) K)) : mj_W 1 135 6 0 [some (.ref 0), some (.int x1), none] [] M 0 K := by
  refine b135_0 ?_
  refine sp92  ?_
  refine b135_8 ?_
  exact h
theorem e135 {M : mj_M} {K : mj_K} {x1 : Int32} (h : mj_Cm 93 1 [.ref 0, .int (mj_bi (p92 M x1 1 60)), .int 1, .int 1] M (mj_k 1 135 6 13 [some (.ref 0), some (.int x1), none] [] 0 (some .boolean) K)) : mj_Cm 135 6 [.ref 0, .int x1] M K := mj_en rfl rfl rfl (t135_0 h)

theorem t135_20 {M : mj_M} {K : mj_K} {x1 : Int32} {x2 : Int32} (h : (x1 ≤ x2 → K 0 (M 1 1236) M) ∧ (¬ x1 ≤ x2 → mj_Cm 134 5 [.ref 0] M (mj_k 1 135 6 29 [some (.ref 0), some (.int x1), some (.int x2)] [] 0 none K))) : mj_W 1 135 6 20 [some (.ref 0), some (.int x1), some (.int x2)] [] M 0 K := by
  refine b135_20 ?_
  refine ⟨fun c1 => ?_, fun c1 => ?_⟩
  · have h1a := h.1 c1
    refine b135_35 ?_
    exact h1a
  · have h1a := h.2 c1
    refine b135_25 ?_
    exact h1a

theorem t135_13 {M : mj_M} {K : mj_K} {x1 : Int32} {o2 : Option Value} {s0 : Int32} (h : (¬ s0 = 0 → mj_W 1 135 6 20 [some (.ref 0), some (.int x1), some (.int 0)] [] M 0 K) ∧ (s0 = 0 → K 0 0 M)) : mj_W 1 135 6 13 [some (.ref 0), some (.int x1), o2] [.int s0] M 0 K := by
  refine b135_13 ?_
  refine ⟨fun c1 => ?_, fun c1 => ?_⟩
  · have h1a := h.1 c1
    refine b135_18 ?_
    exact h1a
  · have h1a := h.2 c1
    refine b135_16 ?_
    exact h1a

theorem t135_29 {M : mj_M} {K : mj_K} {x1 : Int32} {x2 : Int32} (h : mj_W 1 135 6 20 [some (.ref 0), some (.int x1), some (.int (x2 + 1))] [] M 0 K) : mj_W 1 135 6 29 [some (.ref 0), some (.int x1), some (.int x2)] [] M 0 K := by
  refine b135_29 ?_
  exact h

theorem t136_0 {M : mj_M} {K : mj_K}  (h : K 0 (M 1 1236) (mj_u M 0 5 0)) : mj_W 1 136 1 0 [some (.ref 0)] [] M 0 K := by
  refine b136_0 ?_
  exact h
theorem e136 {M : mj_M} {K : mj_K}  (h : K 0 (M 1 1236) (mj_u M 0 5 0)) : mj_Cm 136 1 [.ref 0] M K := mj_en rfl rfl rfl (t136_0 h)

theorem t137_0 {M : mj_M} {K : mj_K} {x1 : Int32} {x2 : Int32} (h : mj_Cm 93 1 [.ref 0, .int (mj_bi (p94 M x1)), .int (mj_bi (p92 M x2 0 4)), .int 1] M (mj_k 1 137 3 16 [some (.ref 0), some (.int x1), some (.int x2)] [] 0 (some .boolean) K)) : mj_W 1 137 3 0 [some (.ref 0), some (.int x1), some (.int x2)] [] M 0 K := by
  refine b137_0 ?_
  refine sp94  ?_
  refine b137_6 ?_
  refine sp92  ?_
  refine b137_12 ?_
  exact h
theorem e137 {M : mj_M} {K : mj_K} {x1 : Int32} {x2 : Int32} (h : mj_Cm 93 1 [.ref 0, .int (mj_bi (p94 M x1)), .int (mj_bi (p92 M x2 0 4)), .int 1] M (mj_k 1 137 3 16 [some (.ref 0), some (.int x1), some (.int x2)] [] 0 (some .boolean) K)) : mj_Cm 137 3 [.ref 0, .int x1, .int x2] M K := mj_en rfl rfl rfl (t137_0 h)

theorem t137_16 {M : mj_M} {K : mj_K} {x1 : Int32} {x2 : Int32} {s0 : Int32} (h : (¬ s0 = 0 → (¬ x2 = 0 → (¬ x2 = 1 → vp_in (5 * x1 + (1114 + x2)) 1242 ∧ K 0 (M 1 ((5 * x1 + (1114 + x2)).toNatClampNeg)) M) ∧ (x2 = 1 → mj_Cm 114 2 [.ref 0, .int x1, .int 1] M (mj_k 1 137 3 45 [some (.ref 0), some (.int x1), some (.int x2)] [] 0 (some .int) K))) ∧ (x2 = 0 → mj_Cm 114 2 [.ref 0, .int x1, .int 0] M (mj_k 1 137 3 31 [some (.ref 0), some (.int x1), some (.int x2)] [] 0 (some .int) K))) ∧ (s0 = 0 → K 0 0 M)) : mj_W 1 137 3 16 [some (.ref 0), some (.int x1), some (.int x2)] [.int s0] M 0 K := by
  refine b137_16 ?_
  refine ⟨fun c1 => ?_, fun c1 => ?_⟩
  · have h1a := h.1 c1
    refine b137_21 ?_
    refine ⟨fun c2 => ?_, fun c2 => ?_⟩
    · have h2a := h1a.1 c2
      refine b137_34 ?_
      refine ⟨fun c3 => ?_, fun c3 => ?_⟩
      · have h3a := h2a.1 c3
        refine b137_48 ?_
        have h4 := h3a.1
        have h5 := h3a.2
        refine sp98 h4 ?_
        refine b137_58 ?_
        exact h5
      · have h3a := h2a.2 c3
        refine b137_39 ?_
        exact h3a
    · have h2a := h1a.2 c2
      refine b137_25 ?_
      exact h2a
  · have h1a := h.2 c1
    refine b137_19 ?_
    exact h1a

theorem t137_45 {M : mj_M} {K : mj_K} {x1 : Int32} {x2 : Int32} {s0 : Int32} (h : K 0 s0 M) : mj_W 1 137 3 45 [some (.ref 0), some (.int x1), some (.int x2)] [.int s0] M 0 K := by
  refine b137_45 ?_
  refine b137_58 ?_
  exact h

theorem t137_31 {M : mj_M} {K : mj_K} {x1 : Int32} {x2 : Int32} {s0 : Int32} (h : K 0 s0 M) : mj_W 1 137 3 31 [some (.ref 0), some (.int x1), some (.int x2)] [.int s0] M 0 K := by
  refine b137_31 ?_
  refine b137_58 ?_
  exact h

theorem t138_0 {M : mj_M} {K : mj_K} {x1 : Int32} {x2 : Int32} (h : mj_Cm 93 1 [.ref 0, .int (mj_bi (p95 M x1)), .int (mj_bi (p92 M x2 0 4)), .int 1] M (mj_k 1 138 5 16 [some (.ref 0), some (.int x1), some (.int x2), none, none] [] 0 (some .boolean) K)) : mj_W 1 138 5 0 [some (.ref 0), some (.int x1), some (.int x2), none, none] [] M 0 K := by
  refine b138_0 ?_
  refine sp95  ?_
  refine b138_6 ?_
  refine sp92  ?_
  refine b138_12 ?_
  exact h
theorem e138 {M : mj_M} {K : mj_K} {x1 : Int32} {x2 : Int32} (h : mj_Cm 93 1 [.ref 0, .int (mj_bi (p95 M x1)), .int (mj_bi (p92 M x2 0 4)), .int 1] M (mj_k 1 138 5 16 [some (.ref 0), some (.int x1), some (.int x2), none, none] [] 0 (some .boolean) K)) : mj_Cm 138 5 [.ref 0, .int x1, .int x2] M K := mj_en rfl rfl rfl (t138_0 h)

theorem t138_26 {M : mj_M} {K : mj_K} {x1 : Int32} {x2 : Int32} {x3 : Int32} {x4 : Int32} (h : (M 1 1240 ≤ x4 → (¬ x2 = 0 → (¬ x2 = 1 → (¬ x2 = 2 → (¬ x2 = 3 → mj_Cm 108 2 [.ref 0, .int x1] M (mj_k 1 138 5 129 [some (.ref 0), some (.int x1), some (.int x2), some (.int x3), some (.int x4)] [] 0 (some .int) K)) ∧ (x2 = 3 → K 0 x3 M)) ∧ (x2 = 2 → vp_in (11 * x1 + 970) 1242 ∧ K 0 (M 1 ((11 * x1 + 970).toNatClampNeg)) M)) ∧ (x2 = 1 → vp_in (11 * x1 + 969) 1242 ∧ K 0 (M 1 ((11 * x1 + 969).toNatClampNeg)) M)) ∧ (x2 = 0 → vp_in (11 * x1 + 965) 1242 ∧ K 0 (M 1 ((11 * x1 + 965).toNatClampNeg)) M)) ∧ (¬ M 1 1240 ≤ x4 → (¬ x2 = 3 → (¬ x2 = 0 → (¬ x2 = 1 → (¬ x2 = 2 → (¬ x2 = 3 → mj_Cm 108 2 [.ref 0, .int x1] M (mj_k 1 138 5 129 [some (.ref 0), some (.int x1), some (.int x2), some (.int x3), some (.int x4)] [] 0 (some .int) K)) ∧ (x2 = 3 → K 0 x3 M)) ∧ (x2 = 2 → vp_in (11 * x1 + 970) 1242 ∧ K 0 (M 1 ((11 * x1 + 970).toNatClampNeg)) M)) ∧ (x2 = 1 → vp_in (11 * x1 + 969) 1242 ∧ K 0 (M 1 ((11 * x1 + 969).toNatClampNeg)) M)) ∧ (x2 = 0 → vp_in (11 * x1 + 965) 1242 ∧ K 0 (M 1 ((11 * x1 + 965).toNatClampNeg)) M)) ∧ (x2 = 3 → mj_Cm 113 4 [.ref 0, .int x4] M (mj_k 1 138 5 51 [some (.ref 0), some (.int x1), some (.int x2), some (.int x3), some (.int x4)] [.int x3] 0 (some .int) K)))) : mj_W 1 138 5 26 [some (.ref 0), some (.int x1), some (.int x2), some (.int x3), some (.int x4)] [] M 0 K := by
  refine b138_26 ?_
  refine ⟨fun c1 => ?_, fun c1 => ?_⟩
  · have h1a := h.1 c1
    refine b138_68 ?_
    refine ⟨fun c2 => ?_, fun c2 => ?_⟩
    · have h2a := h1a.1 c2
      refine b138_83 ?_
      refine ⟨fun c3 => ?_, fun c3 => ?_⟩
      · have h3a := h2a.1 c3
        refine b138_99 ?_
        refine ⟨fun c4 => ?_, fun c4 => ?_⟩
        · have h4a := h3a.1 c4
          refine b138_115 ?_
          refine ⟨fun c5 => ?_, fun c5 => ?_⟩
          · have h5a := h4a.1 c5
            refine b138_124 ?_
            exact h5a
          · have h5a := h4a.2 c5
            refine b138_120 ?_
            refine b138_129 ?_
            exact h5a
        · have h4a := h3a.2 c4
          refine b138_104 ?_
          have h6 := h4a.1
          have h7 := h4a.2
          refine sp97 h6 ?_
          refine b138_112 ?_
          refine b138_129 ?_
          exact h7
      · have h3a := h2a.2 c3
        refine b138_88 ?_
        have h8 := h3a.1
        have h9 := h3a.2
        refine sp97 h8 ?_
        refine b138_96 ?_
        refine b138_129 ?_
        exact h9
    · have h2a := h1a.2 c2
      refine b138_72 ?_
      have h10 := h2a.1
      have h11 := h2a.2
      refine sp97 h10 ?_
      refine b138_80 ?_
      refine b138_129 ?_
      exact h11
  · have h1a := h.2 c1
    refine b138_39 ?_
    refine ⟨fun c12 => ?_, fun c12 => ?_⟩
    · have h12a := h1a.1 c12
      refine b138_68 ?_
      refine ⟨fun c13 => ?_, fun c13 => ?_⟩
      · have h13a := h12a.1 c13
        refine b138_83 ?_
        refine ⟨fun c14 => ?_, fun c14 => ?_⟩
        · have h14a := h13a.1 c14
          refine b138_99 ?_
          refine ⟨fun c15 => ?_, fun c15 => ?_⟩
          · have h15a := h14a.1 c15
            refine b138_115 ?_
            refine ⟨fun c16 => ?_, fun c16 => ?_⟩
            · have h16a := h15a.1 c16
              refine b138_124 ?_
              exact h16a
            · have h16a := h15a.2 c16
              refine b138_120 ?_
              refine b138_129 ?_
              exact h16a
          · have h15a := h14a.2 c15
            refine b138_104 ?_
            have h17 := h15a.1
            have h18 := h15a.2
            refine sp97 h17 ?_
            refine b138_112 ?_
            refine b138_129 ?_
            exact h18
        · have h14a := h13a.2 c14
          refine b138_88 ?_
          have h19 := h14a.1
          have h20 := h14a.2
          refine sp97 h19 ?_
          refine b138_96 ?_
          refine b138_129 ?_
          exact h20
      · have h13a := h12a.2 c13
        refine b138_72 ?_
        have h21 := h13a.1
        have h22 := h13a.2
        refine sp97 h21 ?_
        refine b138_80 ?_
        refine b138_129 ?_
        exact h22
    · have h12a := h1a.2 c12
      refine b138_44 ?_
      exact h12a

theorem t138_16 {M : mj_M} {K : mj_K} {x1 : Int32} {x2 : Int32} {o3 : Option Value} {o4 : Option Value} {s0 : Int32} (h : (¬ s0 = 0 → mj_W 1 138 5 26 [some (.ref 0), some (.int x1), some (.int x2), some (.int 0), some (.int 0)] [] M 0 K) ∧ (s0 = 0 → K 0 0 M)) : mj_W 1 138 5 16 [some (.ref 0), some (.int x1), some (.int x2), o3, o4] [.int s0] M 0 K := by
  refine b138_16 ?_
  refine ⟨fun c1 => ?_, fun c1 => ?_⟩
  · have h1a := h.1 c1
    refine b138_21 ?_
    exact h1a
  · have h1a := h.2 c1
    refine b138_19 ?_
    exact h1a

theorem t138_129 {M : mj_M} {K : mj_K} {x1 : Int32} {x2 : Int32} {x3 : Int32} {x4 : Int32} {s0 : Int32} (h : K 0 s0 M) : mj_W 1 138 5 129 [some (.ref 0), some (.int x1), some (.int x2), some (.int x3), some (.int x4)] [.int s0] M 0 K := by
  refine b138_129 ?_
  exact h

theorem t138_51 {M : mj_M} {K : mj_K} {x1 : Int32} {x2 : Int32} {x3 : Int32} {x4 : Int32} {s0 : Int32} {s1 : Int32} (h : (¬ s1 = x1 → mj_W 1 138 5 26 [some (.ref 0), some (.int x1), some (.int x2), some (.int (s0 + 0)), some (.int (x4 + 1))] [] M 0 K) ∧ (s1 = x1 → mj_W 1 138 5 26 [some (.ref 0), some (.int x1), some (.int x2), some (.int (s0 + 1)), some (.int (x4 + 1))] [] M 0 K)) : mj_W 1 138 5 51 [some (.ref 0), some (.int x1), some (.int x2), some (.int x3), some (.int x4)] [.int s1, .int s0] M 0 K := by
  refine b138_51 ?_
  refine ⟨fun c1 => ?_, fun c1 => ?_⟩
  · have h1a := h.1 c1
    refine b138_59 ?_
    refine b138_60 ?_
    exact h1a
  · have h1a := h.2 c1
    refine b138_55 ?_
    refine b138_60 ?_
    exact h1a

theorem t139_0 {M : mj_M} {K : mj_K} {x1 : Int32} {x2 : Int32} (h : mj_Cm 93 1 [.ref 0, .int (mj_bi (p96 M x1)), .int (mj_bi (p92 M x2 0 6)), .int 1] M (mj_k 1 139 5 17 [some (.ref 0), some (.int x1), some (.int x2)] [] 0 (some .boolean) K)) : mj_W 1 139 5 0 [some (.ref 0), some (.int x1), some (.int x2)] [] M 0 K := by
  refine b139_0 ?_
  refine sp96  ?_
  refine b139_6 ?_
  refine sp92  ?_
  refine b139_13 ?_
  exact h
theorem e139 {M : mj_M} {K : mj_K} {x1 : Int32} {x2 : Int32} (h : mj_Cm 93 1 [.ref 0, .int (mj_bi (p96 M x1)), .int (mj_bi (p92 M x2 0 6)), .int 1] M (mj_k 1 139 5 17 [some (.ref 0), some (.int x1), some (.int x2)] [] 0 (some .boolean) K)) : mj_Cm 139 5 [.ref 0, .int x1, .int x2] M K := mj_en rfl rfl rfl (t139_0 h)

theorem t139_17 {M : mj_M} {K : mj_K} {x1 : Int32} {x2 : Int32} {s0 : Int32} (h : (¬ s0 = 0 → (x2.toInt < 0 ∨ 6 ≤ x2.toInt → vp_in (8 * x1 + 7) 1242 ∧ K 0 (M 1 ((8 * x1 + 7).toNatClampNeg)) M) ∧ (x2.toInt = 0 → vp_in (8 * x1 + 1) 1242 ∧ K 0 (M 1 ((8 * x1 + 1).toNatClampNeg)) M) ∧ (x2.toInt = 1 → vp_in (8 * x1 + 0) 1242 ∧ K 0 (M 1 ((8 * x1 + 0).toNatClampNeg)) M) ∧ (x2.toInt = 2 → vp_in (8 * x1 + 2) 1242 ∧ K 0 (M 1 ((8 * x1 + 2).toNatClampNeg)) M) ∧ (x2.toInt = 3 → mj_Cm 113 4 [.ref 0, .int x1] M (mj_k 1 139 5 86 [some (.ref 0), some (.int x1), some (.int x2)] [] 0 (some .int) K)) ∧ (x2.toInt = 4 → vp_in (8 * x1 + 5) 1242 ∧ K 0 (M 1 ((8 * x1 + 5).toNatClampNeg)) M) ∧ (x2.toInt = 5 → vp_in (8 * x1 + 6) 1242 ∧ K 0 (M 1 ((8 * x1 + 6).toNatClampNeg)) M)) ∧ (s0 = 0 → K 0 0 M)) : mj_W 1 139 5 17 [some (.ref 0), some (.int x1), some (.int x2)] [.int s0] M 0 K := by
  refine b139_17 ?_
  refine ⟨fun c1 => ?_, fun c1 => ?_⟩
  · have h1a := h.1 c1
    refine b139_22 ?_
    refine ⟨fun c => ?_, fun c => ?_, fun c => ?_, fun c => ?_, fun c => ?_, fun c => ?_, fun c => ?_, trivial⟩
    · have h2s0 := h1a.1 c
      refine b139_102 ?_
      have h3 := h2s0.1
      have h4 := h2s0.2
      refine sp99 h3 ?_
      refine b139_109 ?_
      exact h4
    · have h2s1 := h1a.2.1 c
      refine b139_60 ?_
      have h5 := h2s1.1
      have h6 := h2s1.2
      refine sp99 h5 ?_
      refine b139_66 ?_
      exact h6
    · have h2s2 := h1a.2.2.1 c
      refine b139_67 ?_
      have h7 := h2s2.1
      have h8 := h2s2.2
      refine sp99 h7 ?_
      refine b139_73 ?_
      exact h8
    · have h2s3 := h1a.2.2.2.1 c
      refine b139_74 ?_
      have h9 := h2s3.1
      have h10 := h2s3.2
      refine sp99 h9 ?_
      refine b139_80 ?_
      exact h10
    · have h2s4 := h1a.2.2.2.2.1 c
      refine b139_81 ?_
      exact h2s4
    · have h2s5 := h1a.2.2.2.2.2.1 c
      refine b139_87 ?_
      have h11 := h2s5.1
      have h12 := h2s5.2
      refine sp99 h11 ?_
      refine b139_93 ?_
      exact h12
    · have h2s6 := h1a.2.2.2.2.2.2 c
      refine b139_94 ?_
      have h13 := h2s6.1
      have h14 := h2s6.2
      refine sp99 h13 ?_
      refine b139_101 ?_
      exact h14
  · have h1a := h.2 c1
    refine b139_20 ?_
    exact h1a

theorem t139_86 {M : mj_M} {K : mj_K} {x1 : Int32} {x2 : Int32} {s0 : Int32} (h : K 0 s0 M) : mj_W 1 139 5 86 [some (.ref 0), some (.int x1), some (.int x2)] [.int s0] M 0 K := by
  refine b139_86 ?_
  exact h

theorem t140_0 {M : mj_M} {K : mj_K} {x1 : Int32} {x2 : Int32} (h : mj_Cm 93 1 [.ref 0, .int (mj_bi (p92 M x1 0 (M 1 1241 - 1))), .int (mj_bi (p92 M x2 0 3)), .int 1] M (mj_k 1 140 2 26 [some (.ref 0), some (.int x1), some (.int x2), none] [] 0 (some .boolean) K)) : mj_W 1 140 2 0 [some (.ref 0), some (.int x1), some (.int x2), none] [] M 0 K := by
  refine b140_0 ?_
  refine sp92  ?_
  refine b140_16 ?_
  refine sp92  ?_
  refine b140_22 ?_
  exact h
theorem e140 {M : mj_M} {K : mj_K} {x1 : Int32} {x2 : Int32} (h : mj_Cm 93 1 [.ref 0, .int (mj_bi (p92 M x1 0 (M 1 1241 - 1))), .int (mj_bi (p92 M x2 0 3)), .int 1] M (mj_k 1 140 2 26 [some (.ref 0), some (.int x1), some (.int x2), none] [] 0 (some .boolean) K)) : mj_Cm 140 2 [.ref 0, .int x1, .int x2] M K := mj_en rfl rfl rfl (t140_0 h)

theorem t140_26 {M : mj_M} {K : mj_K} {x1 : Int32} {x2 : Int32} {o3 : Option Value} {s0 : Int32} (h : (¬ s0 = 0 → vp_in (6 * x1 + 1168) 1242 ∧ ((¬ x2 = 0 → (¬ x2 = 1 → (¬ x2 = 3 → (M 1 ((6 * x1 + 1168).toNatClampNeg) ≤ 0 → K 0 0 M) ∧ (¬ M 1 ((6 * x1 + 1168).toNatClampNeg) ≤ 0 → K 0 1 M)) ∧ (x2 = 3 → K 0 (M 1 ((6 * x1 + 1168).toNatClampNeg)) M)) ∧ (x2 = 1 → vp_in (6 * x1 + 1166) 1242 ∧ K 0 (M 1 ((6 * x1 + 1166).toNatClampNeg)) M)) ∧ (x2 = 0 → vp_in (6 * x1 + 1165) 1242 ∧ K 0 (M 1 ((6 * x1 + 1165).toNatClampNeg)) M))) ∧ (s0 = 0 → K 0 0 M)) : mj_W 1 140 2 26 [some (.ref 0), some (.int x1), some (.int x2), o3] [.int s0] M 0 K := by
  refine b140_26 ?_
  refine ⟨fun c1 => ?_, fun c1 => ?_⟩
  · have h1a := h.1 c1
    refine b140_31 ?_
    have g2 := h1a.1
    refine ⟨g2, ?_⟩
    have h2 := h1a.2
    refine ⟨fun c3 => ?_, fun c3 => ?_⟩
    · have h3a := h2.1 c3
      refine b140_65 ?_
      refine ⟨fun c4 => ?_, fun c4 => ?_⟩
      · have h4a := h3a.1 c4
        refine b140_86 ?_
        refine ⟨fun c5 => ?_, fun c5 => ?_⟩
        · have h5a := h4a.1 c5
          refine b140_95 ?_
          refine ⟨fun c6 => ?_, fun c6 => ?_⟩
          · have h6a := h5a.1 c6
            refine b140_103 ?_
            refine b140_104 ?_
            exact h6a
          · have h6a := h5a.2 c6
            refine b140_99 ?_
            refine b140_104 ?_
            exact h6a
        · have h5a := h4a.2 c5
          refine b140_91 ?_
          refine b140_104 ?_
          exact h5a
      · have h4a := h3a.2 c4
        refine b140_70 ?_
        have g7 := h4a.1
        refine ⟨g7, ?_⟩
        have h7 := h4a.2
        refine b140_104 ?_
        exact h7
    · have h3a := h2.2 c3
      refine b140_49 ?_
      have g8 := h3a.1
      refine ⟨g8, ?_⟩
      have h8 := h3a.2
      refine b140_104 ?_
      exact h8
  · have h1a := h.2 c1
    refine b140_29 ?_
    exact h1a

theorem t141_0a {M : mj_M} {K : mj_K}  (h : mj_W 1 141 1 2 [some (.ref 1), some (.ref 2), some (.int 0)] [] M 0 K) : mj_W 1 141 1 0 [some (.ref 1), some (.ref 2), none] [] M 0 K := by
  refine b141_0a ?_
  exact h
theorem e141a {M : mj_M} {K : mj_K}  (h : mj_W 1 141 1 2 [some (.ref 1), some (.ref 2), some (.int 0)] [] M 0 K) : mj_Cm 141 1 [.ref 1, .ref 2] M K := mj_en rfl rfl rfl (t141_0a h)

theorem t141_2a {M : mj_M} {K : mj_K} {x2 : Int32} (h : (1242 ≤ x2 → K 0 0 M) ∧ (¬ 1242 ≤ x2 → vp_in x2 1242 ∧ mj_W 1 141 1 2 [some (.ref 1), some (.ref 2), some (.int (x2 + 1))] [] (mj_u M 2 x2.toNatClampNeg (M 1 x2.toNatClampNeg)) 0 K)) : mj_W 1 141 1 2 [some (.ref 1), some (.ref 2), some (.int x2)] [] M 0 K := by
  refine b141_2a ?_
  refine ⟨fun c1 => ?_, fun c1 => ?_⟩
  · have h1a := h.1 c1
    refine b141_21a ?_
    exact h1a
  · have h1a := h.2 c1
    refine b141_9a ?_
    have g2 := h1a.1
    refine ⟨g2, ?_⟩
    have h2 := h1a.2
    exact h2

theorem t141_0b {M : mj_M} {K : mj_K}  (h : mj_W 1 141 1 2 [some (.ref 2), some (.ref 1), some (.int 0)] [] M 0 K) : mj_W 1 141 1 0 [some (.ref 2), some (.ref 1), none] [] M 0 K := by
  refine b141_0b ?_
  exact h
theorem e141b {M : mj_M} {K : mj_K}  (h : mj_W 1 141 1 2 [some (.ref 2), some (.ref 1), some (.int 0)] [] M 0 K) : mj_Cm 141 1 [.ref 2, .ref 1] M K := mj_en rfl rfl rfl (t141_0b h)

theorem t141_2b {M : mj_M} {K : mj_K} {x2 : Int32} (h : (1242 ≤ x2 → K 0 0 M) ∧ (¬ 1242 ≤ x2 → vp_in x2 1242 ∧ mj_W 1 141 1 2 [some (.ref 2), some (.ref 1), some (.int (x2 + 1))] [] (mj_u M 1 x2.toNatClampNeg (M 2 x2.toNatClampNeg)) 0 K)) : mj_W 1 141 1 2 [some (.ref 2), some (.ref 1), some (.int x2)] [] M 0 K := by
  refine b141_2b ?_
  refine ⟨fun c1 => ?_, fun c1 => ?_⟩
  · have h1a := h.1 c1
    refine b141_21b ?_
    exact h1a
  · have h1a := h.2 c1
    refine b141_9b ?_
    have g2 := h1a.1
    refine ⟨g2, ?_⟩
    have h2 := h1a.2
    exact h2

theorem t142_0 {M : mj_M} {K : mj_K} {x1 : Int32} {x2 : Int32} (h : mj_Cm 93 1 [.ref 0, .int (mj_bi (p94 M x1)), .int (mj_bi (p92 M x2 1 60)), .int 1] M (mj_k 1 142 6 17 [some (.ref 0), some (.int x1), some (.int x2), none] [] 0 (some .boolean) K)) : mj_W 1 142 6 0 [some (.ref 0), some (.int x1), some (.int x2), none] [] M 0 K := by
  refine b142_0 ?_
  refine sp94  ?_
  refine b142_6 ?_
  refine sp92  ?_
  refine b142_13 ?_
  exact h
theorem e142 {M : mj_M} {K : mj_K} {x1 : Int32} {x2 : Int32} (h : mj_Cm 93 1 [.ref 0, .int (mj_bi (p94 M x1)), .int (mj_bi (p92 M x2 1 60)), .int 1] M (mj_k 1 142 6 17 [some (.ref 0), some (.int x1), some (.int x2), none] [] 0 (some .boolean) K)) : mj_Cm 142 6 [.ref 0, .int x1, .int x2] M K := mj_en rfl rfl rfl (t142_0 h)

theorem t142_35 {M : mj_M} {K : mj_K} {x1 : Int32} {x2 : Int32} {x3 : Int32} (h : (x2 ≤ x3 → mj_Cm 114 2 [.ref 0, .int x1, .int 0] M (mj_k 1 142 6 56 [some (.ref 0), some (.int x1), some (.int x2), some (.int x3)] [] 0 (some .int) K)) ∧ (¬ x2 ≤ x3 → mj_Cm 134 5 [.ref 0] M (mj_k 1 142 6 44 [some (.ref 0), some (.int x1), some (.int x2), some (.int x3)] [] 0 none K))) : mj_W 1 142 6 35 [some (.ref 0), some (.int x1), some (.int x2), some (.int x3)] [] M 0 K := by
  refine b142_35 ?_
  refine ⟨fun c1 => ?_, fun c1 => ?_⟩
  · have h1a := h.1 c1
    refine b142_50 ?_
    exact h1a
  · have h1a := h.2 c1
    refine b142_40 ?_
    exact h1a

theorem t142_17 {M : mj_M} {K : mj_K} {x1 : Int32} {x2 : Int32} {o3 : Option Value} {s0 : Int32} (h : (¬ s0 = 0 → mj_Cm 141 1 [.ref 1, .ref 2] M (mj_k 1 142 6 33 [some (.ref 0), some (.int x1), some (.int x2), o3] [] 0 none K)) ∧ (s0 = 0 → K 0 0 M)) : mj_W 1 142 6 17 [some (.ref 0), some (.int x1), some (.int x2), o3] [.int s0] M 0 K := by
  refine b142_17 ?_
  refine ⟨fun c1 => ?_, fun c1 => ?_⟩
  · have h1a := h.1 c1
    refine b142_22 ?_
    exact h1a
  · have h1a := h.2 c1
    refine b142_20 ?_
    exact h1a

theorem t142_56 {M : mj_M} {K : mj_K} {x1 : Int32} {x2 : Int32} {x3 : Int32} {s0 : Int32} (h : mj_Cm 141 1 [.ref 2, .ref 1] M (mj_k 1 142 6 68 [some (.ref 0), some (.int x1), some (.int x2), some (.int s0)] [] 0 none K)) : mj_W 1 142 6 56 [some (.ref 0), some (.int x1), some (.int x2), some (.int x3)] [.int s0] M 0 K := by
  refine b142_56 ?_
  exact h

theorem t142_44 {M : mj_M} {K : mj_K} {x1 : Int32} {x2 : Int32} {x3 : Int32} (h : mj_W 1 142 6 35 [some (.ref 0), some (.int x1), some (.int x2), some (.int (x3 + 1))] [] M 0 K) : mj_W 1 142 6 44 [some (.ref 0), some (.int x1), some (.int x2), some (.int x3)] [] M 0 K := by
  refine b142_44 ?_
  exact h

theorem t142_33 {M : mj_M} {K : mj_K} {x1 : Int32} {x2 : Int32} {o3 : Option Value} (h : mj_W 1 142 6 35 [some (.ref 0), some (.int x1), some (.int x2), some (.int 0)] [] M 0 K) : mj_W 1 142 6 33 [some (.ref 0), some (.int x1), some (.int x2), o3] [] M 0 K := by
  refine b142_33 ?_
  exact h

theorem t142_68 {M : mj_M} {K : mj_K} {x1 : Int32} {x2 : Int32} {x3 : Int32} (h : K 0 x3 M) : mj_W 1 142 6 68 [some (.ref 0), some (.int x1), some (.int x2), some (.int x3)] [] M 0 K := by
  refine b142_68 ?_
  exact h

theorem t143_0 {M : mj_M} {K : mj_K}  (h : mj_W 1 143 2 4 [some (.ref 0), some (.int 1), some (.int 0)] [] M 0 K) : mj_W 1 143 2 0 [some (.ref 0), none, none] [] M 0 K := by
  refine b143_0 ?_
  exact h
theorem e143 {M : mj_M} {K : mj_K}  (h : mj_W 1 143 2 4 [some (.ref 0), some (.int 1), some (.int 0)] [] M 0 K) : mj_Cm 143 2 [.ref 0] M K := mj_en rfl rfl rfl (t143_0 h)

theorem t143_4 {M : mj_M} {K : mj_K} {x1 : Int32} {x2 : Int32} (h : (M 1 1240 ≤ x2 → K 0 (mj_nb x1) M) ∧ (¬ M 1 1240 ≤ x2 → (x1 = 0 → mj_W 1 143 2 4 [some (.ref 0), some (.int 0), some (.int (x2 + 1))] [] M 0 K) ∧ (¬ x1 = 0 → vp_in (8 * x2 + 1) 1242 ∧ ((M 1 ((8 * x2 + 1).toNatClampNeg) < 2 → mj_W 1 143 2 4 [some (.ref 0), some (.int 0), some (.int (x2 + 1))] [] M 0 K) ∧ (¬ M 1 ((8 * x2 + 1).toNatClampNeg) < 2 → mj_W 1 143 2 4 [some (.ref 0), some (.int 1), some (.int (x2 + 1))] [] M 0 K))))) : mj_W 1 143 2 4 [some (.ref 0), some (.int x1), some (.int x2)] [] M 0 K := by
  refine b143_4 ?_
  refine ⟨fun c1 => ?_, fun c1 => ?_⟩
  · have h1a := h.1 c1
    refine b143_42 ?_
    exact h1a
  · have h1a := h.2 c1
    refine b143_16 ?_
    refine ⟨fun c2 => ?_, fun c2 => ?_⟩
    · have h2a := h1a.1 c2
      refine b143_34 ?_
      refine b143_35 ?_
      exact h2a
    · have h2a := h1a.2 c2
      refine b143_20 ?_
      have h3 := h2a.1
      have h4 := h2a.2
      refine sp99 h3 ?_
      refine b143_26 ?_
      refine ⟨fun c5 => ?_, fun c5 => ?_⟩
      · have h5a := h4.1 c5
        refine b143_34 ?_
        refine b143_35 ?_
        exact h5a
      · have h5a := h4.2 c5
        refine b143_30 ?_
        refine b143_35 ?_
        exact h5a

theorem t144_0 {M : mj_M} {K : mj_K}  (h : mj_Cm 141 1 [.ref 1, .ref 2] (mj_u M 0 5 0) (mj_k 1 144 6 16 [some (.ref 0), none, none] [] 0 none K)) : mj_W 1 144 6 0 [some (.ref 0), none, none] [] M 0 K := by
  refine b144_0 ?_
  exact h
theorem e144 {M : mj_M} {K : mj_K}  (h : mj_Cm 141 1 [.ref 1, .ref 2] (mj_u M 0 5 0) (mj_k 1 144 6 16 [some (.ref 0), none, none] [] 0 none K)) : mj_Cm 144 6 [.ref 0] M K := mj_en rfl rfl rfl (t144_0 h)

theorem t144_23 {M : mj_M} {K : mj_K} {x1 : Int32} {o2 : Option Value} (h : (100 ≤ x1 → mj_Cm 143 2 [.ref 0] M (mj_k 1 144 6 50 [some (.ref 0), some (.int x1), o2] [] 0 (some .boolean) K)) ∧ (¬ 100 ≤ x1 → mj_Cm 143 2 [.ref 0] M (mj_k 1 144 6 33 [some (.ref 0), some (.int x1), o2] [] 0 (some .boolean) K))) : mj_W 1 144 6 23 [some (.ref 0), some (.int x1), o2] [] M 0 K := by
  refine b144_23 ?_
  refine ⟨fun c1 => ?_, fun c1 => ?_⟩
  · have h1a := h.1 c1
    refine b144_46 ?_
    exact h1a
  · have h1a := h.2 c1
    refine b144_29 ?_
    exact h1a

theorem t144_16 {M : mj_M} {K : mj_K} {o1 : Option Value} {o2 : Option Value} (h : mj_Cm 123 4 [.ref 0] M (mj_k 1 144 6 20 [some (.ref 0), o1, o2] [] 0 (some .int) K)) : mj_W 1 144 6 16 [some (.ref 0), o1, o2] [] M 0 K := by
  refine b144_16 ?_
  exact h

theorem t144_50 {M : mj_M} {K : mj_K} {x1 : Int32} {o2 : Option Value} {s0 : Int32} (h : (s0 = 0 → mj_Cm 141 1 [.ref 2, .ref 1] M (mj_k 1 144 6 70 [some (.ref 0), some (.int x1), some (.int (-1))] [] 0 none K)) ∧ (¬ s0 = 0 → mj_Cm 141 1 [.ref 2, .ref 1] M (mj_k 1 144 6 70 [some (.ref 0), some (.int x1), some (.int x1)] [] 0 none K))) : mj_W 1 144 6 50 [some (.ref 0), some (.int x1), o2] [.int s0] M 0 K := by
  refine b144_50 ?_
  refine ⟨fun c1 => ?_, fun c1 => ?_⟩
  · have h1a := h.1 c1
    refine b144_57 ?_
    refine b144_58 ?_
    exact h1a
  · have h1a := h.2 c1
    refine b144_53 ?_
    refine b144_58 ?_
    exact h1a

theorem t144_33 {M : mj_M} {K : mj_K} {x1 : Int32} {o2 : Option Value} {s0 : Int32} (h : (¬ s0 = 0 → mj_Cm 143 2 [.ref 0] M (mj_k 1 144 6 50 [some (.ref 0), some (.int x1), o2] [] 0 (some .boolean) K)) ∧ (s0 = 0 → mj_Cm 134 5 [.ref 0] M (mj_k 1 144 6 40 [some (.ref 0), some (.int x1), o2] [] 0 none K))) : mj_W 1 144 6 33 [some (.ref 0), some (.int x1), o2] [.int s0] M 0 K := by
  refine b144_33 ?_
  refine ⟨fun c1 => ?_, fun c1 => ?_⟩
  · have h1a := h.1 c1
    refine b144_46 ?_
    exact h1a
  · have h1a := h.2 c1
    refine b144_36 ?_
    exact h1a

theorem t144_20 {M : mj_M} {K : mj_K} {o1 : Option Value} {o2 : Option Value} {s0 : Int32} (h : mj_W 1 144 6 23 [some (.ref 0), some (.int 0), o2] [] M 0 K) : mj_W 1 144 6 20 [some (.ref 0), o1, o2] [.int s0] M 0 K := by
  refine b144_20 ?_
  exact h

theorem t144_70 {M : mj_M} {K : mj_K} {x1 : Int32} {x2 : Int32} (h : K 0 x2 M) : mj_W 1 144 6 70 [some (.ref 0), some (.int x1), some (.int x2)] [] M 0 K := by
  refine b144_70 ?_
  exact h

theorem t144_40 {M : mj_M} {K : mj_K} {x1 : Int32} {o2 : Option Value} (h : mj_W 1 144 6 23 [some (.ref 0), some (.int (x1 + 1)), o2] [] M 0 K) : mj_W 1 144 6 40 [some (.ref 0), some (.int x1), o2] [] M 0 K := by
  refine b144_40 ?_
  exact h

theorem t145_0 {M : mj_M} {K : mj_K} {x1 : Int32} (h : mj_Cm 93 1 [.ref 0, .int (mj_bi (p96 M x1)), .int 1, .int 1] M (mj_k 1 145 4 11 [some (.ref 0), some (.int x1)] [] 0 (some .boolean) K)) : mj_W 1 145 4 0 [some (.ref 0), some (.int x1)] [] M 0 K := by
  refine b145_0 ?_
  refine sp96  ?_
  refine b145_6 ?_
  exact h
theorem e145 {M : mj_M} {K : mj_K} {x1 : Int32} (h : mj_Cm 93 1 [.ref 0, .int (mj_bi (p96 M x1)), .int 1, .int 1] M (mj_k 1 145 4 11 [some (.ref 0), some (.int x1)] [] 0 (some .boolean) K)) : mj_Cm 145 4 [.ref 0, .int x1] M K := mj_en rfl rfl rfl (t145_0 h)

theorem t145_11 {M : mj_M} {K : mj_K} {x1 : Int32} {s0 : Int32} (h : (¬ s0 = 0 → vp_in (8 * x1 + 2) 1242 ∧ mj_Cm 111 3 [.ref 0, .int x1, .int (M 1 ((8 * x1 + 2).toNatClampNeg))] M (mj_k 1 145 4 27 [some (.ref 0), some (.int x1)] [] 0 none K)) ∧ (s0 = 0 → K 0 0 M)) : mj_W 1 145 4 11 [some (.ref 0), some (.int x1)] [.int s0] M 0 K := by
  refine b145_11 ?_
  refine ⟨fun c1 => ?_, fun c1 => ?_⟩
  · have h1a := h.1 c1
    refine b145_16 ?_
    have h2 := h1a.1
    have h3 := h1a.2
    refine sp99 h2 ?_
    refine b145_24 ?_
    exact h3
  · have h1a := h.2 c1
    refine b145_14 ?_
    exact h1a

theorem t145_27 {M : mj_M} {K : mj_K} {x1 : Int32} (h : vp_in (8 * x1 + 0) 1242 ∧ (vp_in (M 1 ((8 * x1 + 0).toNatClampNeg)) 10 ∧ ((1000000 ≤ M 3 ((M 1 ((8 * x1 + 0).toNatClampNeg)).toNatClampNeg) → K 0 (-1) M) ∧ (¬ 1000000 ≤ M 3 ((M 1 ((8 * x1 + 0).toNatClampNeg)).toNatClampNeg) → vp_in (8 * x1 + 0) 1242 ∧ K 0 (M 3 ((M 1 ((8 * x1 + 0).toNatClampNeg)).toNatClampNeg)) M)))) : mj_W 1 145 4 27 [some (.ref 0), some (.int x1)] [] M 0 K := by
  refine b145_27 ?_
  have h1 := h.1
  have h2 := h.2
  refine sp99 h1 ?_
  refine b145_37 ?_
  have g3 := h2.1
  refine ⟨g3, ?_⟩
  have h3 := h2.2
  refine ⟨fun c4 => ?_, fun c4 => ?_⟩
  · have h4a := h3.1 c4
    refine b145_57 ?_
    refine b145_58 ?_
    exact h4a
  · have h4a := h3.2 c4
    refine b145_43 ?_
    have h5 := h4a.1
    have h6 := h4a.2
    refine sp99 h5 ?_
    refine b145_53 ?_
    refine ⟨g3, ?_⟩
    refine b145_58 ?_
    exact h6

theorem t146_0 {M : mj_M} {K : mj_K} {x1 : Int32} (h : mj_Cm 145 4 [.ref 0, .int x1] M (mj_k 1 146 5 5 [some (.ref 0), some (.int x1)] [] 0 (some .int) K)) : mj_W 1 146 5 0 [some (.ref 0), some (.int x1)] [] M 0 K := by
  refine b146_0 ?_
  exact h
theorem e146 {M : mj_M} {K : mj_K} {x1 : Int32} (h : mj_Cm 145 4 [.ref 0, .int x1] M (mj_k 1 146 5 5 [some (.ref 0), some (.int x1)] [] 0 (some .int) K)) : mj_Cm 146 5 [.ref 0, .int x1] M K := mj_en rfl rfl rfl (t146_0 h)

theorem t146_5 {M : mj_M} {K : mj_K} {x1 : Int32} {s0 : Int32} (h : K 0 s0 M) : mj_W 1 146 5 5 [some (.ref 0), some (.int x1)] [.int s0] M 0 K := by
  refine b146_5 ?_
  exact h

