-- trees of blocks: what remains of a method from a start
theorem t92_0 {M : mj_M} {K : mj_K} {x3 : Int32} {x4 : Int32} {x5 : Int32} (h : vp_in (11 * x4 + 1) 55 ∧ ((¬ M 1 ((11 * x4 + 1).toNatClampNeg) = x5 → mj_W 1 92 1 23 [some (.ref 0), some (.ref 1), some (.ref 4), some (.int x3), some (.int x4), some (.int x5), some (.int (11 * x4)), none, none, none] [.int 0] M 0 K) ∧ (M 1 ((11 * x4 + 1).toNatClampNeg) = x5 → mj_W 1 92 1 23 [some (.ref 0), some (.ref 1), some (.ref 4), some (.int x3), some (.int x4), some (.int x5), some (.int (11 * x4)), none, none, none] [.int 1] M 0 K))) : mj_W 1 92 1 0 [some (.ref 0), some (.ref 1), some (.ref 4), some (.int x3), some (.int x4), some (.int x5), none, none, none, none] [] M 0 K := by
  refine b92_0 ?_
  have g1 := h.1
  refine ⟨g1, ?_⟩
  have h1 := h.2
  refine ⟨fun c2 => ?_, fun c2 => ?_⟩
  · have h2a := h1.1 c2
    refine b92_22 ?_
    exact h2a
  · have h2a := h1.2 c2
    refine b92_18 ?_
    exact h2a
theorem e92 {M : mj_M} {K : mj_K} {x3 : Int32} {x4 : Int32} {x5 : Int32} (h : vp_in (11 * x4 + 1) 55 ∧ ((¬ M 1 ((11 * x4 + 1).toNatClampNeg) = x5 → mj_W 1 92 1 23 [some (.ref 0), some (.ref 1), some (.ref 4), some (.int x3), some (.int x4), some (.int x5), some (.int (11 * x4)), none, none, none] [.int 0] M 0 K) ∧ (M 1 ((11 * x4 + 1).toNatClampNeg) = x5 → mj_W 1 92 1 23 [some (.ref 0), some (.ref 1), some (.ref 4), some (.int x3), some (.int x4), some (.int x5), some (.int (11 * x4)), none, none, none] [.int 1] M 0 K))) : mj_Cm 92 1 [.ref 0, .ref 1, .ref 4, .int x3, .int x4, .int x5] M K := mj_en rfl rfl rfl (t92_0 h)

theorem t92_23 {M : mj_M} {K : mj_K} {x3 : Int32} {x4 : Int32} {x5 : Int32} {x6 : Int32} {o7 : Option Value} {o8 : Option Value} {o9 : Option Value} {s0 : Int32} (h : (¬ s0 = 0 → mj_W 1 92 1 46 [some (.ref 0), some (.ref 1), some (.ref 4), some (.int x3), some (.int x4), some (.int x5), some (.int x6), some (.int s0), o8, o9] [.int 1] M 0 K) ∧ (s0 = 0 → vp_in (x6 + 2) 55 ∧ ((¬ M 1 ((x6 + 2).toNatClampNeg) = x5 → mj_W 1 92 1 46 [some (.ref 0), some (.ref 1), some (.ref 4), some (.int x3), some (.int x4), some (.int x5), some (.int x6), some (.int s0), o8, o9] [.int 0] M 0 K) ∧ (M 1 ((x6 + 2).toNatClampNeg) = x5 → mj_W 1 92 1 46 [some (.ref 0), some (.ref 1), some (.ref 4), some (.int x3), some (.int x4), some (.int x5), some (.int x6), some (.int s0), o8, o9] [.int 1] M 0 K)))) : mj_W 1 92 1 23 [some (.ref 0), some (.ref 1), some (.ref 4), some (.int x3), some (.int x4), some (.int x5), some (.int x6), o7, o8, o9] [.int s0] M 0 K := by
  refine b92_23 ?_
  refine ⟨fun c1 => ?_, fun c1 => ?_⟩
  · have h1a := h.1 c1
    refine b92_41 ?_
    exact h1a
  · have h1a := h.2 c1
    refine b92_30 ?_
    have g2 := h1a.1
    refine ⟨g2, ?_⟩
    have h2 := h1a.2
    refine ⟨fun c3 => ?_, fun c3 => ?_⟩
    · have h3a := h2.1 c3
      refine b92_45 ?_
      exact h3a
    · have h3a := h2.2 c3
      refine b92_41 ?_
      exact h3a

theorem t92_46 {M : mj_M} {K : mj_K} {x3 : Int32} {x4 : Int32} {x5 : Int32} {x6 : Int32} {x7 : Int32} {o8 : Option Value} {o9 : Option Value} {s0 : Int32} (h : vp_in x6 55 ∧ ((¬ M 1 x6.toNatClampNeg = 3 → mj_W 1 92 1 71 [some (.ref 0), some (.ref 1), some (.ref 4), some (.int x3), some (.int x4), some (.int x5), some (.int x6), some (.int x7), some (.int s0), o9] [.int 0] M 0 K) ∧ (M 1 x6.toNatClampNeg = 3 → vp_in (x6 + 8) 55 ∧ ((¬ M 1 ((x6 + 8).toNatClampNeg) = 0 → mj_W 1 92 1 71 [some (.ref 0), some (.ref 1), some (.ref 4), some (.int x3), some (.int x4), some (.int x5), some (.int x6), some (.int x7), some (.int s0), o9] [.int 0] M 0 K) ∧ (M 1 ((x6 + 8).toNatClampNeg) = 0 → mj_W 1 92 1 71 [some (.ref 0), some (.ref 1), some (.ref 4), some (.int x3), some (.int x4), some (.int x5), some (.int x6), some (.int x7), some (.int s0), o9] [.int 1] M 0 K))))) : mj_W 1 92 1 46 [some (.ref 0), some (.ref 1), some (.ref 4), some (.int x3), some (.int x4), some (.int x5), some (.int x6), some (.int x7), o8, o9] [.int s0] M 0 K := by
  refine b92_46 ?_
  have g1 := h.1
  refine ⟨g1, ?_⟩
  have h1 := h.2
  refine ⟨fun c2 => ?_, fun c2 => ?_⟩
  · have h2a := h1.1 c2
    refine b92_70 ?_
    exact h2a
  · have h2a := h1.2 c2
    refine b92_56 ?_
    have g3 := h2a.1
    refine ⟨g3, ?_⟩
    have h3 := h2a.2
    refine ⟨fun c4 => ?_, fun c4 => ?_⟩
    · have h4a := h3.1 c4
      refine b92_70 ?_
      exact h4a
    · have h4a := h3.2 c4
      refine b92_66 ?_
      exact h4a

theorem t92_71 {M : mj_M} {K : mj_K} {x3 : Int32} {x4 : Int32} {x5 : Int32} {x6 : Int32} {x7 : Int32} {x8 : Int32} {o9 : Option Value} {s0 : Int32} (h : (x8 = 0 → mj_W 1 92 1 128 [some (.ref 0), some (.ref 1), some (.ref 4), some (.int x3), some (.int x4), some (.int x5), some (.int x6), some (.int x7), some (.int x8), some (.int s0)] [.int 0] M 0 K) ∧ (¬ x8 = 0 → (s0 = 0 → vp_in x6 55 ∧ ((¬ M 1 x6.toNatClampNeg = 4 → mj_W 1 92 1 128 [some (.ref 0), some (.ref 1), some (.ref 4), some (.int x3), some (.int x4), some (.int x5), some (.int x6), some (.int x7), some (.int x8), some (.int s0)] [.int 1] M 0 K) ∧ (M 1 x6.toNatClampNeg = 4 → (¬ x7 = 0 → mj_W 1 92 1 128 [some (.ref 0), some (.ref 1), some (.ref 4), some (.int x3), some (.int x4), some (.int x5), some (.int x6), some (.int x7), some (.int x8), some (.int s0)] [.int 1] M 0 K) ∧ (x7 = 0 → (¬ M 4 1 = 1 → mj_W 1 92 1 128 [some (.ref 0), some (.ref 1), some (.ref 4), some (.int x3), some (.int x4), some (.int x5), some (.int x6), some (.int x7), some (.int x8), some (.int s0)] [.int 0] M 0 K) ∧ (M 4 1 = 1 → mj_W 1 92 1 128 [some (.ref 0), some (.ref 1), some (.ref 4), some (.int x3), some (.int x4), some (.int x5), some (.int x6), some (.int x7), some (.int x8), some (.int s0)] [.int 1] M 0 K))))) ∧ (¬ s0 = 0 → vp_in (x6 + 7) 55 ∧ ((¬ M 1 ((x6 + 7).toNatClampNeg) = 0 → mj_W 1 92 1 98 [some (.ref 0), some (.ref 1), some (.ref 4), some (.int x3), some (.int x4), some (.int x5), some (.int x6), some (.int x7), some (.int x8), some (.int s0)] [.int 0] M 0 K) ∧ (M 1 ((x6 + 7).toNatClampNeg) = 0 → mj_W 1 92 1 98 [some (.ref 0), some (.ref 1), some (.ref 4), some (.int x3), some (.int x4), some (.int x5), some (.int x6), some (.int x7), some (.int x8), some (.int s0)] [.int 1] M 0 K))))) : mj_W 1 92 1 71 [some (.ref 0), some (.ref 1), some (.ref 4), some (.int x3), some (.int x4), some (.int x5), some (.int x6), some (.int x7), some (.int x8), o9] [.int s0] M 0 K := by
  refine b92_71 ?_
  refine ⟨fun c1 => ?_, fun c1 => ?_⟩
  · have h1a := h.1 c1
    refine b92_127 ?_
    exact h1a
  · have h1a := h.2 c1
    refine b92_78 ?_
    refine ⟨fun c2 => ?_, fun c2 => ?_⟩
    · have h2a := h1a.1 c2
      refine b92_103 ?_
      have g3 := h2a.1
      refine ⟨g3, ?_⟩
      have h3 := h2a.2
      refine ⟨fun c4 => ?_, fun c4 => ?_⟩
      · have h4a := h3.1 c4
        refine b92_123 ?_
        exact h4a
      · have h4a := h3.2 c4
        refine b92_111 ?_
        refine ⟨fun c5 => ?_, fun c5 => ?_⟩
        · have h5a := h4a.1 c5
          refine b92_123 ?_
          exact h5a
        · have h5a := h4a.2 c5
          refine b92_116 ?_
          refine ⟨fun c6 => ?_, fun c6 => ?_⟩
          · have h6a := h5a.1 c6
            refine b92_127 ?_
            exact h6a
          · have h6a := h5a.2 c6
            refine b92_123 ?_
            exact h6a
    · have h2a := h1a.2 c2
      refine b92_83 ?_
      have g7 := h2a.1
      refine ⟨g7, ?_⟩
      have h7 := h2a.2
      refine ⟨fun c8 => ?_, fun c8 => ?_⟩
      · have h8a := h7.1 c8
        refine b92_97 ?_
        exact h8a
      · have h8a := h7.2 c8
        refine b92_93 ?_
        exact h8a

theorem t92_98 {M : mj_M} {K : mj_K} {x3 : Int32} {x4 : Int32} {x5 : Int32} {x6 : Int32} {x7 : Int32} {x8 : Int32} {x9 : Int32} {s0 : Int32} (h : (¬ s0 = x7 → mj_W 1 92 1 128 [some (.ref 0), some (.ref 1), some (.ref 4), some (.int x3), some (.int x4), some (.int x5), some (.int x6), some (.int x7), some (.int x8), some (.int x9)] [.int 0] M 0 K) ∧ (s0 = x7 → vp_in x6 55 ∧ ((¬ M 1 x6.toNatClampNeg = 4 → mj_W 1 92 1 128 [some (.ref 0), some (.ref 1), some (.ref 4), some (.int x3), some (.int x4), some (.int x5), some (.int x6), some (.int x7), some (.int x8), some (.int x9)] [.int 1] M 0 K) ∧ (M 1 x6.toNatClampNeg = 4 → (¬ x7 = 0 → mj_W 1 92 1 128 [some (.ref 0), some (.ref 1), some (.ref 4), some (.int x3), some (.int x4), some (.int x5), some (.int x6), some (.int x7), some (.int x8), some (.int x9)] [.int 1] M 0 K) ∧ (x7 = 0 → (¬ M 4 1 = 1 → mj_W 1 92 1 128 [some (.ref 0), some (.ref 1), some (.ref 4), some (.int x3), some (.int x4), some (.int x5), some (.int x6), some (.int x7), some (.int x8), some (.int x9)] [.int 0] M 0 K) ∧ (M 4 1 = 1 → mj_W 1 92 1 128 [some (.ref 0), some (.ref 1), some (.ref 4), some (.int x3), some (.int x4), some (.int x5), some (.int x6), some (.int x7), some (.int x8), some (.int x9)] [.int 1] M 0 K)))))) : mj_W 1 92 1 98 [some (.ref 0), some (.ref 1), some (.ref 4), some (.int x3), some (.int x4), some (.int x5), some (.int x6), some (.int x7), some (.int x8), some (.int x9)] [.int s0] M 0 K := by
  refine b92_98 ?_
  refine ⟨fun c1 => ?_, fun c1 => ?_⟩
  · have h1a := h.1 c1
    refine b92_127 ?_
    exact h1a
  · have h1a := h.2 c1
    refine b92_103 ?_
    have g2 := h1a.1
    refine ⟨g2, ?_⟩
    have h2 := h1a.2
    refine ⟨fun c3 => ?_, fun c3 => ?_⟩
    · have h3a := h2.1 c3
      refine b92_123 ?_
      exact h3a
    · have h3a := h2.2 c3
      refine b92_111 ?_
      refine ⟨fun c4 => ?_, fun c4 => ?_⟩
      · have h4a := h3a.1 c4
        refine b92_123 ?_
        exact h4a
      · have h4a := h3a.2 c4
        refine b92_116 ?_
        refine ⟨fun c5 => ?_, fun c5 => ?_⟩
        · have h5a := h4a.1 c5
          refine b92_127 ?_
          exact h5a
        · have h5a := h4a.2 c5
          refine b92_123 ?_
          exact h5a

theorem t92_128 {M : mj_M} {K : mj_K} {x3 : Int32} {x4 : Int32} {x5 : Int32} {x6 : Int32} {x7 : Int32} {x8 : Int32} {x9 : Int32} {s0 : Int32} (h : (s0 = 0 → mj_W 1 92 1 200 [some (.ref 0), some (.ref 1), some (.ref 4), some (.int x3), some (.int x4), some (.int x5), some (.int x6), some (.int x7), some (.int s0), some (.int x9)] [.int 0] M 0 K) ∧ (¬ s0 = 0 → vp_in (8 * x3 + 3) 64 ∧ ((M 0 ((8 * x3 + 3).toNatClampNeg) = 0 → vp_in (8 * x3 + 5) 64 ∧ ((¬ M 0 ((8 * x3 + 5).toNatClampNeg) = 1 → mj_W 1 92 1 190 [some (.ref 0), some (.ref 1), some (.ref 4), some (.int x3), some (.int x4), some (.int x5), some (.int x6), some (.int x7), some (.int s0), some (.int x9)] [.int 6, .int x6, .ref 1] M 0 K) ∧ (M 0 ((8 * x3 + 5).toNatClampNeg) = 1 → mj_W 1 92 1 190 [some (.ref 0), some (.ref 1), some (.ref 4), some (.int x3), some (.int x4), some (.int x5), some (.int x6), some (.int x7), some (.int s0), some (.int x9)] [.int 5, .int x6, .ref 1] M 0 K))) ∧ (¬ M 0 ((8 * x3 + 3).toNatClampNeg) = 0 → vp_in x6 55 ∧ ((M 1 x6.toNatClampNeg = 0 → vp_in (8 * x3 + 5) 64 ∧ ((¬ M 0 ((8 * x3 + 5).toNatClampNeg) = 1 → mj_W 1 92 1 190 [some (.ref 0), some (.ref 1), some (.ref 4), some (.int x3), some (.int x4), some (.int x5), some (.int x6), some (.int x7), some (.int s0), some (.int x9)] [.int 6, .int x6, .ref 1] M 0 K) ∧ (M 0 ((8 * x3 + 5).toNatClampNeg) = 1 → mj_W 1 92 1 190 [some (.ref 0), some (.ref 1), some (.ref 4), some (.int x3), some (.int x4), some (.int x5), some (.int x6), some (.int x7), some (.int s0), some (.int x9)] [.int 5, .int x6, .ref 1] M 0 K))) ∧ (¬ M 1 x6.toNatClampNeg = 0 → (M 1 x6.toNatClampNeg = 2 → vp_in (8 * x3 + 5) 64 ∧ ((¬ M 0 ((8 * x3 + 5).toNatClampNeg) = 1 → mj_W 1 92 1 190 [some (.ref 0), some (.ref 1), some (.ref 4), some (.int x3), some (.int x4), some (.int x5), some (.int x6), some (.int x7), some (.int s0), some (.int x9)] [.int 6, .int x6, .ref 1] M 0 K) ∧ (M 0 ((8 * x3 + 5).toNatClampNeg) = 1 → mj_W 1 92 1 190 [some (.ref 0), some (.ref 1), some (.ref 4), some (.int x3), some (.int x4), some (.int x5), some (.int x6), some (.int x7), some (.int s0), some (.int x9)] [.int 5, .int x6, .ref 1] M 0 K))) ∧ (¬ M 1 x6.toNatClampNeg = 2 → (¬ M 1 x6.toNatClampNeg = 4 → mj_W 1 92 1 200 [some (.ref 0), some (.ref 1), some (.ref 4), some (.int x3), some (.int x4), some (.int x5), some (.int x6), some (.int x7), some (.int s0), some (.int x9)] [.int 0] M 0 K) ∧ (M 1 x6.toNatClampNeg = 4 → vp_in (8 * x3 + 5) 64 ∧ ((¬ M 0 ((8 * x3 + 5).toNatClampNeg) = 1 → mj_W 1 92 1 190 [some (.ref 0), some (.ref 1), some (.ref 4), some (.int x3), some (.int x4), some (.int x5), some (.int x6), some (.int x7), some (.int s0), some (.int x9)] [.int 6, .int x6, .ref 1] M 0 K) ∧ (M 0 ((8 * x3 + 5).toNatClampNeg) = 1 → mj_W 1 92 1 190 [some (.ref 0), some (.ref 1), some (.ref 4), some (.int x3), some (.int x4), some (.int x5), some (.int x6), some (.int x7), some (.int s0), some (.int x9)] [.int 5, .int x6, .ref 1] M 0 K)))))))))) : mj_W 1 92 1 128 [some (.ref 0), some (.ref 1), some (.ref 4), some (.int x3), some (.int x4), some (.int x5), some (.int x6), some (.int x7), some (.int x8), some (.int x9)] [.int s0] M 0 K := by
  refine b92_128 ?_
  refine ⟨fun c1 => ?_, fun c1 => ?_⟩
  · have h1a := h.1 c1
    refine b92_199 ?_
    exact h1a
  · have h1a := h.2 c1
    refine b92_135 ?_
    have g2 := h1a.1
    refine ⟨g2, ?_⟩
    have h2 := h1a.2
    refine ⟨fun c3 => ?_, fun c3 => ?_⟩
    · have h3a := h2.1 c3
      refine b92_169 ?_
      have g4 := h3a.1
      refine ⟨g4, ?_⟩
      have h4 := h3a.2
      refine ⟨fun c5 => ?_, fun c5 => ?_⟩
      · have h5a := h4.1 c5
        refine b92_188 ?_
        exact h5a
      · have h5a := h4.2 c5
        refine b92_184 ?_
        exact h5a
    · have h3a := h2.2 c3
      refine b92_146 ?_
      have g6 := h3a.1
      refine ⟨g6, ?_⟩
      have h6 := h3a.2
      refine ⟨fun c7 => ?_, fun c7 => ?_⟩
      · have h7a := h6.1 c7
        refine b92_169 ?_
        have g8 := h7a.1
        refine ⟨g8, ?_⟩
        have h8 := h7a.2
        refine ⟨fun c9 => ?_, fun c9 => ?_⟩
        · have h9a := h8.1 c9
          refine b92_188 ?_
          exact h9a
        · have h9a := h8.2 c9
          refine b92_184 ?_
          exact h9a
      · have h7a := h6.2 c7
        refine b92_153 ?_
        refine ⟨g6, ?_⟩
        refine ⟨fun c10 => ?_, fun c10 => ?_⟩
        · have h10a := h7a.1 c10
          refine b92_169 ?_
          have g11 := h10a.1
          refine ⟨g11, ?_⟩
          have h11 := h10a.2
          refine ⟨fun c12 => ?_, fun c12 => ?_⟩
          · have h12a := h11.1 c12
            refine b92_188 ?_
            exact h12a
          · have h12a := h11.2 c12
            refine b92_184 ?_
            exact h12a
        · have h10a := h7a.2 c10
          refine b92_161 ?_
          refine ⟨g6, ?_⟩
          refine ⟨fun c13 => ?_, fun c13 => ?_⟩
          · have h13a := h10a.1 c13
            refine b92_199 ?_
            exact h13a
          · have h13a := h10a.2 c13
            refine b92_169 ?_
            have g14 := h13a.1
            refine ⟨g14, ?_⟩
            have h14 := h13a.2
            refine ⟨fun c15 => ?_, fun c15 => ?_⟩
            · have h15a := h14.1 c15
              refine b92_188 ?_
              exact h15a
            · have h15a := h14.2 c15
              refine b92_184 ?_
              exact h15a

theorem t92_190 {M : mj_M} {K : mj_K} {x3 : Int32} {x4 : Int32} {x5 : Int32} {x6 : Int32} {x7 : Int32} {x8 : Int32} {x9 : Int32} {s1 : Int32} {s2 : Int32} (h : vp_in (s1 + s2) 55 ∧ ((¬ M 1 ((s1 + s2).toNatClampNeg) = 0 → mj_W 1 92 1 200 [some (.ref 0), some (.ref 1), some (.ref 4), some (.int x3), some (.int x4), some (.int x5), some (.int x6), some (.int x7), some (.int x8), some (.int x9)] [.int 0] M 0 K) ∧ (M 1 ((s1 + s2).toNatClampNeg) = 0 → mj_W 1 92 1 200 [some (.ref 0), some (.ref 1), some (.ref 4), some (.int x3), some (.int x4), some (.int x5), some (.int x6), some (.int x7), some (.int x8), some (.int x9)] [.int 1] M 0 K))) : mj_W 1 92 1 190 [some (.ref 0), some (.ref 1), some (.ref 4), some (.int x3), some (.int x4), some (.int x5), some (.int x6), some (.int x7), some (.int x8), some (.int x9)] [.int s2, .int s1, .ref 1] M 0 K := by
  refine b92_190 ?_
  have g1 := h.1
  refine ⟨g1, ?_⟩
  have h1 := h.2
  refine ⟨fun c2 => ?_, fun c2 => ?_⟩
  · have h2a := h1.1 c2
    refine b92_199 ?_
    exact h2a
  · have h2a := h1.2 c2
    refine b92_195 ?_
    exact h2a

theorem t92_200 {M : mj_M} {K : mj_K} {x3 : Int32} {x4 : Int32} {x5 : Int32} {x6 : Int32} {x7 : Int32} {x8 : Int32} {x9 : Int32} {s0 : Int32} (h : (¬ s0 = 0 → (x7 = 0 → vp_in (x6 + 1) 55 ∧ mj_W 1 92 1 231 [some (.ref 0), some (.ref 1), some (.ref 4), some (.int x3), some (.int x4), some (.int x5), some (.int x6), some (.int x7), some (.int s0), some (.int x9)] [.int (M 1 ((x6 + 1).toNatClampNeg))] M 0 K) ∧ (¬ x7 = 0 → vp_in (x6 + 2) 55 ∧ mj_W 1 92 1 231 [some (.ref 0), some (.ref 1), some (.ref 4), some (.int x3), some (.int x4), some (.int x5), some (.int x6), some (.int x7), some (.int s0), some (.int x9)] [.int (M 1 ((x6 + 2).toNatClampNeg))] M 0 K)) ∧ (s0 = 0 → mj_W 1 92 1 231 [some (.ref 0), some (.ref 1), some (.ref 4), some (.int x3), some (.int x4), some (.int x5), some (.int x6), some (.int x7), some (.int s0), some (.int x9)] [.int (-1)] M 0 K)) : mj_W 1 92 1 200 [some (.ref 0), some (.ref 1), some (.ref 4), some (.int x3), some (.int x4), some (.int x5), some (.int x6), some (.int x7), some (.int x8), some (.int x9)] [.int s0] M 0 K := by
  refine b92_200 ?_
  refine ⟨fun c1 => ?_, fun c1 => ?_⟩
  · have h1a := h.1 c1
    refine b92_211 ?_
    refine ⟨fun c2 => ?_, fun c2 => ?_⟩
    · have h2a := h1a.1 c2
      refine b92_225 ?_
      have g3 := h2a.1
      refine ⟨g3, ?_⟩
      have h3 := h2a.2
      exact h3
    · have h2a := h1a.2 c2
      refine b92_216 ?_
      have g4 := h2a.1
      refine ⟨g4, ?_⟩
      have h4 := h2a.2
      exact h4
  · have h1a := h.2 c1
    refine b92_207 ?_
    exact h1a

theorem t92_231 {M : mj_M} {K : mj_K} {x3 : Int32} {x4 : Int32} {x5 : Int32} {x6 : Int32} {x7 : Int32} {x8 : Int32} {x9 : Int32} {s0 : Int32} (h : K 0 s0 M) : mj_W 1 92 1 231 [some (.ref 0), some (.ref 1), some (.ref 4), some (.int x3), some (.int x4), some (.int x5), some (.int x6), some (.int x7), some (.int x8), some (.int x9)] [.int s0] M 0 K := by
  refine b92_231 ?_
  exact h

theorem t93_0 {M : mj_M} {K : mj_K} {x3 : Int32} {x4 : Int32} {x5 : Int32} (h : mj_W 1 93 2 3 [some (.ref 0), some (.ref 1), some (.ref 4), some (.int x3), some (.int x4), some (.int x5), some (.int 0), none, none, none, none] [] M 0 K) : mj_W 1 93 2 0 [some (.ref 0), some (.ref 1), some (.ref 4), some (.int x3), some (.int x4), some (.int x5), none, none, none, none, none] [] M 0 K := by
  refine b93_0 ?_
  exact h
theorem e93 {M : mj_M} {K : mj_K} {x3 : Int32} {x4 : Int32} {x5 : Int32} (h : mj_W 1 93 2 3 [some (.ref 0), some (.ref 1), some (.ref 4), some (.int x3), some (.int x4), some (.int x5), some (.int 0), none, none, none, none] [] M 0 K) : mj_Cm 93 2 [.ref 0, .ref 1, .ref 4, .int x3, .int x4, .int x5] M K := mj_en rfl rfl rfl (t93_0 h)

theorem t93_3 {M : mj_M} {K : mj_K} {x3 : Int32} {x4 : Int32} {x5 : Int32} {x6 : Int32} {o7 : Option Value} {o8 : Option Value} {o9 : Option Value} {o10 : Option Value} (h : (6 ≤ x6 → mj_W 1 93 2 39 [some (.ref 0), some (.ref 1), some (.ref 4), some (.int x3), some (.int x4), some (.int x5), some (.int 0), o7, o8, o9, o10] [] M 0 K) ∧ (¬ 6 ≤ x6 → (¬ x6 = x4 → mj_W 1 93 2 29 [some (.ref 0), some (.ref 1), some (.ref 4), some (.int x3), some (.int x4), some (.int x5), some (.int x6), o7, o8, o9, o10] [.int 99, .int (6 + x6), .ref 4] M 0 K) ∧ (x6 = x4 → mj_W 1 93 2 29 [some (.ref 0), some (.ref 1), some (.ref 4), some (.int x3), some (.int x4), some (.int x5), some (.int x6), o7, o8, o9, o10] [.int 0, .int (6 + x6), .ref 4] M 0 K))) : mj_W 1 93 2 3 [some (.ref 0), some (.ref 1), some (.ref 4), some (.int x3), some (.int x4), some (.int x5), some (.int x6), o7, o8, o9, o10] [] M 0 K := by
  refine b93_3 ?_
  refine ⟨fun c1 => ?_, fun c1 => ?_⟩
  · have h1a := h.1 c1
    refine b93_36 ?_
    exact h1a
  · have h1a := h.2 c1
    refine b93_10 ?_
    refine ⟨fun c2 => ?_, fun c2 => ?_⟩
    · have h2a := h1a.1 c2
      refine b93_27 ?_
      exact h2a
    · have h2a := h1a.2 c2
      refine b93_23 ?_
      exact h2a

theorem t93_39 {M : mj_M} {K : mj_K} {x3 : Int32} {x4 : Int32} {x5 : Int32} {x6 : Int32} {o7 : Option Value} {o8 : Option Value} {o9 : Option Value} {o10 : Option Value} (h : (6 ≤ x6 → vp_in (6 + x5) 12 ∧ ((99 ≤ M 4 ((6 + x5).toNatClampNeg) → mj_W 1 93 2 188 [some (.ref 0), some (.ref 1), some (.ref 4), some (.int x3), some (.int x4), some (.int x5), some (.int x6), o7, o8, o9, o10] [.int (-1)] M 0 K) ∧ (¬ 99 ≤ M 4 ((6 + x5).toNatClampNeg) → mj_W 1 93 2 188 [some (.ref 0), some (.ref 1), some (.ref 4), some (.int x3), some (.int x4), some (.int x5), some (.int x6), o7, o8, o9, o10] [.int (M 4 ((6 + x5).toNatClampNeg))] M 0 K))) ∧ (¬ 6 ≤ x6 → mj_W 1 93 2 49 [some (.ref 0), some (.ref 1), some (.ref 4), some (.int x3), some (.int x4), some (.int x5), some (.int x6), some (.int 0), o8, o9, o10] [] M 0 K)) : mj_W 1 93 2 39 [some (.ref 0), some (.ref 1), some (.ref 4), some (.int x3), some (.int x4), some (.int x5), some (.int x6), o7, o8, o9, o10] [] M 0 K := by
  refine b93_39 ?_
  refine ⟨fun c1 => ?_, fun c1 => ?_⟩
  · have h1a := h.1 c1
    refine b93_165 ?_
    have g2 := h1a.1
    refine ⟨g2, ?_⟩
    have h2 := h1a.2
    refine ⟨fun c3 => ?_, fun c3 => ?_⟩
    · have h3a := h2.1 c3
      refine b93_187 ?_
      exact h3a
    · have h3a := h2.2 c3
      refine b93_177 ?_
      refine ⟨g2, ?_⟩
      exact h3a
  · have h1a := h.2 c1
    refine b93_46 ?_
    exact h1a

theorem t93_49 {M : mj_M} {K : mj_K} {x3 : Int32} {x4 : Int32} {x5 : Int32} {x6 : Int32} {x7 : Int32} {o8 : Option Value} {o9 : Option Value} {o10 : Option Value} (h : (M 4 3 ≤ x7 → mj_W 1 93 2 39 [some (.ref 0), some (.ref 1), some (.ref 4), some (.int x3), some (.int x4), some (.int x5), some (.int (x6 + 1)), some (.int x7), o8, o9, o10] [] M 0 K) ∧ (¬ M 4 3 ≤ x7 → mj_W 1 93 2 60 [some (.ref 0), some (.ref 1), some (.ref 4), some (.int x3), some (.int x4), some (.int x5), some (.int x6), some (.int x7), some (.int 1), o9, o10] [] M 0 K)) : mj_W 1 93 2 49 [some (.ref 0), some (.ref 1), some (.ref 4), some (.int x3), some (.int x4), some (.int x5), some (.int x6), some (.int x7), o8, o9, o10] [] M 0 K := by
  refine b93_49 ?_
  refine ⟨fun c1 => ?_, fun c1 => ?_⟩
  · have h1a := h.1 c1
    refine b93_159 ?_
    exact h1a
  · have h1a := h.2 c1
    refine b93_57 ?_
    exact h1a

theorem t93_60 {M : mj_M} {K : mj_K} {x3 : Int32} {x4 : Int32} {x5 : Int32} {x6 : Int32} {x7 : Int32} {x8 : Int32} {o9 : Option Value} {o10 : Option Value} (h : (3 ≤ x8 → mj_W 1 93 2 49 [some (.ref 0), some (.ref 1), some (.ref 4), some (.int x3), some (.int x4), some (.int x5), some (.int x6), some (.int (x7 + 1)), some (.int x8), o9, o10] [] M 0 K) ∧ (¬ 3 ≤ x8 → vp_in (11 * x7 + x8) 55 ∧ mj_Cm 92 1 [.ref 0, .ref 1, .ref 4, .int x3, .int x7, .int (M 1 ((11 * x7 + x8).toNatClampNeg))] M (mj_k 1 93 2 89 [some (.ref 0), some (.ref 1), some (.ref 4), some (.int x3), some (.int x4), some (.int x5), some (.int x6), some (.int x7), some (.int x8), some (.int (M 1 ((11 * x7 + x8).toNatClampNeg))), o10] [] 0 (some .int) K))) : mj_W 1 93 2 60 [some (.ref 0), some (.ref 1), some (.ref 4), some (.int x3), some (.int x4), some (.int x5), some (.int x6), some (.int x7), some (.int x8), o9, o10] [] M 0 K := by
  refine b93_60 ?_
  refine ⟨fun c1 => ?_, fun c1 => ?_⟩
  · have h1a := h.1 c1
    refine b93_153 ?_
    exact h1a
  · have h1a := h.2 c1
    refine b93_66 ?_
    have g2 := h1a.1
    refine ⟨g2, ?_⟩
    have h2 := h1a.2
    exact h2

theorem t93_29 {M : mj_M} {K : mj_K} {x3 : Int32} {x4 : Int32} {x5 : Int32} {x6 : Int32} {o7 : Option Value} {o8 : Option Value} {o9 : Option Value} {o10 : Option Value} {s1 : Int32} {s2 : Int32} (h : vp_in s1 12 ∧ mj_W 1 93 2 3 [some (.ref 0), some (.ref 1), some (.ref 4), some (.int x3), some (.int x4), some (.int x5), some (.int (x6 + 1)), o7, o8, o9, o10] [] (mj_u M 4 s1.toNatClampNeg s2) 0 K) : mj_W 1 93 2 29 [some (.ref 0), some (.ref 1), some (.ref 4), some (.int x3), some (.int x4), some (.int x5), some (.int x6), o7, o8, o9, o10] [.int s2, .int s1, .ref 4] M 0 K := by
  refine b93_29 ?_
  have g1 := h.1
  refine ⟨g1, ?_⟩
  have h1 := h.2
  exact h1

theorem t93_188 {M : mj_M} {K : mj_K} {x3 : Int32} {x4 : Int32} {x5 : Int32} {x6 : Int32} {o7 : Option Value} {o8 : Option Value} {o9 : Option Value} {o10 : Option Value} {s0 : Int32} (h : K 0 s0 M) : mj_W 1 93 2 188 [some (.ref 0), some (.ref 1), some (.ref 4), some (.int x3), some (.int x4), some (.int x5), some (.int x6), o7, o8, o9, o10] [.int s0] M 0 K := by
  refine b93_188 ?_
  exact h

theorem t93_89 {M : mj_M} {K : mj_K} {x3 : Int32} {x4 : Int32} {x5 : Int32} {x6 : Int32} {x7 : Int32} {x8 : Int32} {x9 : Int32} {o10 : Option Value} {s0 : Int32} (h : (s0 < 0 → mj_W 1 93 2 60 [some (.ref 0), some (.ref 1), some (.ref 4), some (.int x3), some (.int x4), some (.int x5), some (.int x6), some (.int x7), some (.int (x8 + 1)), some (.int x9), some (.int s0)] [] M 0 K) ∧ (¬ s0 < 0 → vp_in (6 + x9) 12 ∧ vp_in (11 * x7 + 3) 55 ∧ vp_in (6 + s0) 12 ∧ ((M 4 ((6 + s0).toNatClampNeg) ≤ M 4 ((6 + x9).toNatClampNeg) + M 1 ((11 * x7 + 3).toNatClampNeg) → mj_W 1 93 2 60 [some (.ref 0), some (.ref 1), some (.ref 4), some (.int x3), some (.int x4), some (.int x5), some (.int x6), some (.int x7), some (.int (x8 + 1)), some (.int x9), some (.int s0)] [] M 0 K) ∧ (¬ M 4 ((6 + s0).toNatClampNeg) ≤ M 4 ((6 + x9).toNatClampNeg) + M 1 ((11 * x7 + 3).toNatClampNeg) → mj_W 1 93 2 60 [some (.ref 0), some (.ref 1), some (.ref 4), some (.int x3), some (.int x4), some (.int x5), some (.int x6), some (.int x7), some (.int (x8 + 1)), some (.int x9), some (.int s0)] [] (mj_u M 4 ((6 + s0).toNatClampNeg) (M 4 ((6 + x9).toNatClampNeg) + M 1 ((11 * x7 + 3).toNatClampNeg))) 0 K)))) : mj_W 1 93 2 89 [some (.ref 0), some (.ref 1), some (.ref 4), some (.int x3), some (.int x4), some (.int x5), some (.int x6), some (.int x7), some (.int x8), some (.int x9), o10] [.int s0] M 0 K := by
  refine b93_89 ?_
  refine ⟨fun c1 => ?_, fun c1 => ?_⟩
  · have h1a := h.1 c1
    refine b93_147 ?_
    exact h1a
  · have h1a := h.2 c1
    refine b93_96 ?_
    have g2 := h1a.1
    refine ⟨g2, ?_⟩
    have h2 := h1a.2
    have g3 := h2.1
    refine ⟨g3, ?_⟩
    have h3 := h2.2
    have g4 := h3.1
    refine ⟨g4, ?_⟩
    have h4 := h3.2
    refine ⟨fun c5 => ?_, fun c5 => ?_⟩
    · have h5a := h4.1 c5
      refine b93_147 ?_
      exact h5a
    · have h5a := h4.2 c5
      refine b93_123 ?_
      refine ⟨g2, ?_⟩
      refine ⟨g3, ?_⟩
      refine ⟨g4, ?_⟩
      refine b93_147 ?_
      exact h5a

theorem t94_0 {M : mj_M} {K : mj_K} {x3 : Int32} (h : vp_in (8 * x3) 64 ∧ vp_in (8 * x3 + 2) 64 ∧ mj_Cm 93 2 [.ref 0, .ref 1, .ref 4, .int x3, .int (M 0 ((8 * x3).toNatClampNeg)), .int (M 0 ((8 * x3 + 2).toNatClampNeg))] M (mj_k 1 94 3 29 [some (.ref 0), some (.ref 1), some (.ref 4), some (.int x3), some (.int (M 0 ((8 * x3).toNatClampNeg))), some (.int (M 0 ((8 * x3 + 2).toNatClampNeg))), none, none, none, none] [] 0 (some .int) K)) : mj_W 1 94 3 0 [some (.ref 0), some (.ref 1), some (.ref 4), some (.int x3), none, none, none, none, none, none] [] M 0 K := by
  refine b94_0 ?_
  have g1 := h.1
  refine ⟨g1, ?_⟩
  have h1 := h.2
  have g2 := h1.1
  refine ⟨g2, ?_⟩
  have h2 := h1.2
  exact h2
theorem e94 {M : mj_M} {K : mj_K} {x3 : Int32} (h : vp_in (8 * x3) 64 ∧ vp_in (8 * x3 + 2) 64 ∧ mj_Cm 93 2 [.ref 0, .ref 1, .ref 4, .int x3, .int (M 0 ((8 * x3).toNatClampNeg)), .int (M 0 ((8 * x3 + 2).toNatClampNeg))] M (mj_k 1 94 3 29 [some (.ref 0), some (.ref 1), some (.ref 4), some (.int x3), some (.int (M 0 ((8 * x3).toNatClampNeg))), some (.int (M 0 ((8 * x3 + 2).toNatClampNeg))), none, none, none, none] [] 0 (some .int) K)) : mj_Cm 94 3 [.ref 0, .ref 1, .ref 4, .int x3] M K := mj_en rfl rfl rfl (t94_0 h)

theorem t94_53 {M : mj_M} {K : mj_K} {x3 : Int32} {x4 : Int32} {x5 : Int32} {x6 : Int32} {x7 : Int32} {o8 : Option Value} {o9 : Option Value} (h : (M 4 3 ≤ x7 → K 0 (-1) M) ∧ (¬ M 4 3 ≤ x7 → mj_Cm 92 1 [.ref 0, .ref 1, .ref 4, .int x3, .int x7, .int x4] M (mj_k 1 94 3 72 [some (.ref 0), some (.ref 1), some (.ref 4), some (.int x3), some (.int x4), some (.int x5), some (.int x6), some (.int x7), o8, o9] [] 0 (some .int) K))) : mj_W 1 94 3 53 [some (.ref 0), some (.ref 1), some (.ref 4), some (.int x3), some (.int x4), some (.int x5), some (.int x6), some (.int x7), o8, o9] [] M 0 K := by
  refine b94_53 ?_
  refine ⟨fun c1 => ?_, fun c1 => ?_⟩
  · have h1a := h.1 c1
    refine b94_127 ?_
    exact h1a
  · have h1a := h.2 c1
    refine b94_61 ?_
    exact h1a

theorem t94_29 {M : mj_M} {K : mj_K} {x3 : Int32} {x4 : Int32} {x5 : Int32} {o6 : Option Value} {o7 : Option Value} {o8 : Option Value} {o9 : Option Value} {s0 : Int32} (h : vp_in (8 * x3 + 1) 64 ∧ ((¬ M 0 ((8 * x3 + 1).toNatClampNeg) = 0 → K 0 (-1) M) ∧ (M 0 ((8 * x3 + 1).toNatClampNeg) = 0 → (1 ≤ s0 → mj_W 1 94 3 53 [some (.ref 0), some (.ref 1), some (.ref 4), some (.int x3), some (.int x4), some (.int x5), some (.int s0), some (.int 0), o8, o9] [] M 0 K) ∧ (¬ 1 ≤ s0 → K 0 (-1) M)))) : mj_W 1 94 3 29 [some (.ref 0), some (.ref 1), some (.ref 4), some (.int x3), some (.int x4), some (.int x5), o6, o7, o8, o9] [.int s0] M 0 K := by
  refine b94_29 ?_
  have g1 := h.1
  refine ⟨g1, ?_⟩
  have h1 := h.2
  refine ⟨fun c2 => ?_, fun c2 => ?_⟩
  · have h2a := h1.1 c2
    refine b94_48 ?_
    exact h2a
  · have h2a := h1.2 c2
    refine b94_42 ?_
    refine ⟨fun c3 => ?_, fun c3 => ?_⟩
    · have h3a := h2a.1 c3
      refine b94_50 ?_
      exact h3a
    · have h3a := h2a.2 c3
      refine b94_48 ?_
      exact h3a

theorem t94_72 {M : mj_M} {K : mj_K} {x3 : Int32} {x4 : Int32} {x5 : Int32} {x6 : Int32} {x7 : Int32} {o8 : Option Value} {o9 : Option Value} {s0 : Int32} (h : (0 ≤ s0 → mj_Cm 93 2 [.ref 0, .ref 1, .ref 4, .int x3, .int s0, .int x5] M (mj_k 1 94 3 94 [some (.ref 0), some (.ref 1), some (.ref 4), some (.int x3), some (.int x4), some (.int x5), some (.int x6), some (.int x7), some (.int s0), o9] [] 0 (some .int) K)) ∧ (¬ 0 ≤ s0 → mj_W 1 94 3 53 [some (.ref 0), some (.ref 1), some (.ref 4), some (.int x3), some (.int x4), some (.int x5), some (.int x6), some (.int (x7 + 1)), some (.int s0), some (.int (-1))] [] M 0 K)) : mj_W 1 94 3 72 [some (.ref 0), some (.ref 1), some (.ref 4), some (.int x3), some (.int x4), some (.int x5), some (.int x6), some (.int x7), o8, o9] [.int s0] M 0 K := by
  refine b94_72 ?_
  refine ⟨fun c1 => ?_, fun c1 => ?_⟩
  · have h1a := h.1 c1
    refine b94_83 ?_
    exact h1a
  · have h1a := h.2 c1
    refine b94_79 ?_
    refine b94_94 ?_
    refine ⟨fun _ => ?_, fun c => absurd c (by decide)⟩
    · refine b94_121 ?_
      exact h1a

theorem t94_94 {M : mj_M} {K : mj_K} {x3 : Int32} {x4 : Int32} {x5 : Int32} {x6 : Int32} {x7 : Int32} {x8 : Int32} {o9 : Option Value} {s0 : Int32} (h : (s0 < 0 → mj_W 1 94 3 53 [some (.ref 0), some (.ref 1), some (.ref 4), some (.int x3), some (.int x4), some (.int x5), some (.int x6), some (.int (x7 + 1)), some (.int x8), some (.int s0)] [] M 0 K) ∧ (¬ s0 < 0 → vp_in (11 * x7 + 3) 55 ∧ ((¬ s0 + M 1 ((11 * x7 + 3).toNatClampNeg) = x6 → mj_W 1 94 3 53 [some (.ref 0), some (.ref 1), some (.ref 4), some (.int x3), some (.int x4), some (.int x5), some (.int x6), some (.int (x7 + 1)), some (.int x8), some (.int s0)] [] M 0 K) ∧ (s0 + M 1 ((11 * x7 + 3).toNatClampNeg) = x6 → K 0 x7 M)))) : mj_W 1 94 3 94 [some (.ref 0), some (.ref 1), some (.ref 4), some (.int x3), some (.int x4), some (.int x5), some (.int x6), some (.int x7), some (.int x8), o9] [.int s0] M 0 K := by
  refine b94_94 ?_
  refine ⟨fun c1 => ?_, fun c1 => ?_⟩
  · have h1a := h.1 c1
    refine b94_121 ?_
    exact h1a
  · have h1a := h.2 c1
    refine b94_101 ?_
    have g2 := h1a.1
    refine ⟨g2, ?_⟩
    have h2 := h1a.2
    refine ⟨fun c3 => ?_, fun c3 => ?_⟩
    · have h3a := h2.1 c3
      refine b94_121 ?_
      exact h3a
    · have h3a := h2.2 c3
      refine b94_118 ?_
      exact h3a

theorem t95_0 {M : mj_M} {K : mj_K} {x2 : Int32} {x3 : Int32} (h : mj_W 1 95 1 6 [some (.ref 0), some (.ref 4), some (.int x2), some (.int x3), some (.int 0), some (.int 0)] [] M 0 K) : mj_W 1 95 1 0 [some (.ref 0), some (.ref 4), some (.int x2), some (.int x3), none, none] [] M 0 K := by
  refine b95_0 ?_
  exact h
theorem e95 {M : mj_M} {K : mj_K} {x2 : Int32} {x3 : Int32} (h : mj_W 1 95 1 6 [some (.ref 0), some (.ref 4), some (.int x2), some (.int x3), some (.int 0), some (.int 0)] [] M 0 K) : mj_Cm 95 1 [.ref 0, .ref 4, .int x2, .int x3] M K := mj_en rfl rfl rfl (t95_0 h)

theorem t95_6 {M : mj_M} {K : mj_K} {x2 : Int32} {x3 : Int32} {x4 : Int32} {x5 : Int32} (h : (M 4 4 ≤ x5 → K 0 x4 M) ∧ (¬ M 4 4 ≤ x5 → vp_in (8 * x5) 64 ∧ ((¬ M 0 ((8 * x5).toNatClampNeg) = x2 → mj_W 1 95 1 44 [some (.ref 0), some (.ref 4), some (.int x2), some (.int x3), some (.int x4), some (.int x5)] [.int x4] M 0 K) ∧ (M 0 ((8 * x5).toNatClampNeg) = x2 → vp_in (8 * x5 + 1) 64 ∧ ((¬ M 0 ((8 * x5 + 1).toNatClampNeg) = x3 → mj_W 1 95 1 44 [some (.ref 0), some (.ref 4), some (.int x2), some (.int x3), some (.int x4), some (.int x5)] [.int x4] M 0 K) ∧ (M 0 ((8 * x5 + 1).toNatClampNeg) = x3 → mj_W 1 95 1 45 [some (.ref 0), some (.ref 4), some (.int x2), some (.int x3), some (.int x4), some (.int x5)] [.int 1, .int x4] M 0 K)))))) : mj_W 1 95 1 6 [some (.ref 0), some (.ref 4), some (.int x2), some (.int x3), some (.int x4), some (.int x5)] [] M 0 K := by
  refine b95_6 ?_
  refine ⟨fun c1 => ?_, fun c1 => ?_⟩
  · have h1a := h.1 c1
    refine b95_54 ?_
    exact h1a
  · have h1a := h.2 c1
    refine b95_14 ?_
    have g2 := h1a.1
    refine ⟨g2, ?_⟩
    have h2 := h1a.2
    refine ⟨fun c3 => ?_, fun c3 => ?_⟩
    · have h3a := h2.1 c3
      exact h3a
    · have h3a := h2.2 c3
      refine b95_27 ?_
      have g4 := h3a.1
      refine ⟨g4, ?_⟩
      have h4 := h3a.2
      refine ⟨fun c5 => ?_, fun c5 => ?_⟩
      · have h5a := h4.1 c5
        exact h5a
      · have h5a := h4.2 c5
        refine b95_40 ?_
        exact h5a

theorem t95_44 {M : mj_M} {K : mj_K} {x2 : Int32} {x3 : Int32} {x4 : Int32} {x5 : Int32} {s0 : Int32} (h : mj_W 1 95 1 45 [some (.ref 0), some (.ref 4), some (.int x2), some (.int x3), some (.int x4), some (.int x5)] [.int 0, .int s0] M 0 K) : mj_W 1 95 1 44 [some (.ref 0), some (.ref 4), some (.int x2), some (.int x3), some (.int x4), some (.int x5)] [.int s0] M 0 K := by
  refine b95_44 ?_
  exact h

theorem t95_45 {M : mj_M} {K : mj_K} {x2 : Int32} {x3 : Int32} {x4 : Int32} {x5 : Int32} {s0 : Int32} {s1 : Int32} (h : mj_W 1 95 1 6 [some (.ref 0), some (.ref 4), some (.int x2), some (.int x3), some (.int (s0 + s1)), some (.int (x5 + 1))] [] M 0 K) : mj_W 1 95 1 45 [some (.ref 0), some (.ref 4), some (.int x2), some (.int x3), some (.int x4), some (.int x5)] [.int s1, .int s0] M 0 K := by
  refine b95_45 ?_
  exact h

theorem t96_0 {M : mj_M} {K : mj_K} {x3 : Int32} (h : vp_in (5 * x3) 30 ∧ ((¬ M 2 ((5 * x3).toNatClampNeg) = 0 → vp_in (5 * x3 + 1) 30 ∧ mj_Cm 95 1 [.ref 0, .ref 4, .int x3, .int 0] M (mj_k 1 96 2 27 [some (.ref 0), some (.ref 2), some (.ref 4), some (.int x3)] [.int (M 2 ((5 * x3 + 1).toNatClampNeg))] 0 (some .int) K)) ∧ (M 2 ((5 * x3).toNatClampNeg) = 0 → mj_W 1 96 2 36 [some (.ref 0), some (.ref 2), some (.ref 4), some (.int x3)] [.int 99] M 0 K))) : mj_W 1 96 2 0 [some (.ref 0), some (.ref 2), some (.ref 4), some (.int x3)] [] M 0 K := by
  refine b96_0 ?_
  have g1 := h.1
  refine ⟨g1, ?_⟩
  have h1 := h.2
  refine ⟨fun c2 => ?_, fun c2 => ?_⟩
  · have h2a := h1.1 c2
    refine b96_13 ?_
    have g3 := h2a.1
    refine ⟨g3, ?_⟩
    have h3 := h2a.2
    exact h3
  · have h2a := h1.2 c2
    refine b96_8 ?_
    exact h2a
theorem e96 {M : mj_M} {K : mj_K} {x3 : Int32} (h : vp_in (5 * x3) 30 ∧ ((¬ M 2 ((5 * x3).toNatClampNeg) = 0 → vp_in (5 * x3 + 1) 30 ∧ mj_Cm 95 1 [.ref 0, .ref 4, .int x3, .int 0] M (mj_k 1 96 2 27 [some (.ref 0), some (.ref 2), some (.ref 4), some (.int x3)] [.int (M 2 ((5 * x3 + 1).toNatClampNeg))] 0 (some .int) K)) ∧ (M 2 ((5 * x3).toNatClampNeg) = 0 → mj_W 1 96 2 36 [some (.ref 0), some (.ref 2), some (.ref 4), some (.int x3)] [.int 99] M 0 K))) : mj_Cm 96 2 [.ref 0, .ref 2, .ref 4, .int x3] M K := mj_en rfl rfl rfl (t96_0 h)

theorem t96_36 {M : mj_M} {K : mj_K} {x3 : Int32} {s0 : Int32} (h : K 0 s0 M) : mj_W 1 96 2 36 [some (.ref 0), some (.ref 2), some (.ref 4), some (.int x3)] [.int s0] M 0 K := by
  refine b96_36 ?_
  exact h

theorem t96_27 {M : mj_M} {K : mj_K} {x3 : Int32} {s0 : Int32} {s1 : Int32} (h : mj_Cm 95 1 [.ref 0, .ref 4, .int x3, .int 1] M (mj_k 1 96 2 35 [some (.ref 0), some (.ref 2), some (.ref 4), some (.int x3)] [.int (s0 - s1)] 0 (some .int) K)) : mj_W 1 96 2 27 [some (.ref 0), some (.ref 2), some (.ref 4), some (.int x3)] [.int s1, .int s0] M 0 K := by
  refine b96_27 ?_
  exact h

theorem t96_35 {M : mj_M} {K : mj_K} {x3 : Int32} {s0 : Int32} {s1 : Int32} (h : mj_W 1 96 2 36 [some (.ref 0), some (.ref 2), some (.ref 4), some (.int x3)] [.int (s0 - s1)] M 0 K) : mj_W 1 96 2 35 [some (.ref 0), some (.ref 2), some (.ref 4), some (.int x3)] [.int s1, .int s0] M 0 K := by
  refine b96_35 ?_
  exact h

theorem t97_0 {M : mj_M} {K : mj_K} {x2 : Int32} (h : vp_in (8 * x2) 64 ∧ vp_in (8 * x2 + 1) 64 ∧ ((¬ M 0 ((8 * x2 + 1).toNatClampNeg) = 0 → K 0 0 M) ∧ (M 0 ((8 * x2 + 1).toNatClampNeg) = 0 → vp_in (8 * x2 + 2) 64 ∧ ((¬ M 0 ((8 * x2 + 2).toNatClampNeg) = M 0 ((8 * x2).toNatClampNeg) → K 0 0 M) ∧ (M 0 ((8 * x2 + 2).toNatClampNeg) = M 0 ((8 * x2).toNatClampNeg) → vp_in (5 * M 0 ((8 * x2).toNatClampNeg)) 30 ∧ ((¬ M 2 ((5 * M 0 ((8 * x2).toNatClampNeg)).toNatClampNeg) = 0 → K 0 0 M) ∧ (M 2 ((5 * M 0 ((8 * x2).toNatClampNeg)).toNatClampNeg) = 0 → vp_in (5 * M 0 ((8 * x2).toNatClampNeg) + 4) 30 ∧ K 0 0 (mj_u (mj_u M 0 ((8 * x2 + 1).toNatClampNeg) 3) 2 ((5 * M 0 ((8 * x2).toNatClampNeg) + 4).toNatClampNeg) (M 2 ((5 * M 0 ((8 * x2).toNatClampNeg) + 4).toNatClampNeg) + 1))))))))) : mj_W 1 97 1 0 [some (.ref 0), some (.ref 2), some (.int x2), none] [] M 0 K := by
  refine b97_0 ?_
  have g1 := h.1
  refine ⟨g1, ?_⟩
  have h1 := h.2
  have g2 := h1.1
  refine ⟨g2, ?_⟩
  have h2 := h1.2
  refine ⟨fun c3 => ?_, fun c3 => ?_⟩
  · have h3a := h2.1 c3
    refine b97_58 ?_
    exact h3a
  · have h3a := h2.2 c3
    refine b97_18 ?_
    have g4 := h3a.1
    refine ⟨g4, ?_⟩
    have h4 := h3a.2
    refine ⟨fun c5 => ?_, fun c5 => ?_⟩
    · have h5a := h4.1 c5
      refine b97_58 ?_
      exact h5a
    · have h5a := h4.2 c5
      refine b97_30 ?_
      have g6 := h5a.1
      refine ⟨g6, ?_⟩
      have h6 := h5a.2
      refine ⟨fun c7 => ?_, fun c7 => ?_⟩
      · have h7a := h6.1 c7
        refine b97_58 ?_
        exact h7a
      · have h7a := h6.2 c7
        refine b97_38 ?_
        refine ⟨g2, ?_⟩
        have g8 := h7a.1
        refine ⟨g8, ?_⟩
        have h8 := h7a.2
        refine b97_58 ?_
        exact h8
theorem e97 {M : mj_M} {K : mj_K} {x2 : Int32} (h : vp_in (8 * x2) 64 ∧ vp_in (8 * x2 + 1) 64 ∧ ((¬ M 0 ((8 * x2 + 1).toNatClampNeg) = 0 → K 0 0 M) ∧ (M 0 ((8 * x2 + 1).toNatClampNeg) = 0 → vp_in (8 * x2 + 2) 64 ∧ ((¬ M 0 ((8 * x2 + 2).toNatClampNeg) = M 0 ((8 * x2).toNatClampNeg) → K 0 0 M) ∧ (M 0 ((8 * x2 + 2).toNatClampNeg) = M 0 ((8 * x2).toNatClampNeg) → vp_in (5 * M 0 ((8 * x2).toNatClampNeg)) 30 ∧ ((¬ M 2 ((5 * M 0 ((8 * x2).toNatClampNeg)).toNatClampNeg) = 0 → K 0 0 M) ∧ (M 2 ((5 * M 0 ((8 * x2).toNatClampNeg)).toNatClampNeg) = 0 → vp_in (5 * M 0 ((8 * x2).toNatClampNeg) + 4) 30 ∧ K 0 0 (mj_u (mj_u M 0 ((8 * x2 + 1).toNatClampNeg) 3) 2 ((5 * M 0 ((8 * x2).toNatClampNeg) + 4).toNatClampNeg) (M 2 ((5 * M 0 ((8 * x2).toNatClampNeg) + 4).toNatClampNeg) + 1))))))))) : mj_Cm 97 1 [.ref 0, .ref 2, .int x2] M K := mj_en rfl rfl rfl (t97_0 h)

theorem t98_0 {M : mj_M} {K : mj_K} {x3 : Int32} (h : vp_in (8 * x3 + 1) 64 ∧ vp_in (8 * x3 + 7) 64 ∧ vp_in (8 * x3) 64 ∧ vp_in (5 * (mj_u (mj_u M 0 ((8 * x3 + 1).toNatClampNeg) 0) 0 ((8 * x3 + 7).toNatClampNeg) (M 4 0)) 0 ((8 * x3).toNatClampNeg) + 3) 30 ∧ mj_Cm 97 1 [.ref 0, .ref 2, .int x3] (mj_u (mj_u (mj_u M 0 ((8 * x3 + 1).toNatClampNeg) 0) 0 ((8 * x3 + 7).toNatClampNeg) (M 4 0)) 2 ((5 * (mj_u (mj_u M 0 ((8 * x3 + 1).toNatClampNeg) 0) 0 ((8 * x3 + 7).toNatClampNeg) (M 4 0)) 0 ((8 * x3).toNatClampNeg) + 3).toNatClampNeg) (M 2 ((5 * (mj_u (mj_u M 0 ((8 * x3 + 1).toNatClampNeg) 0) 0 ((8 * x3 + 7).toNatClampNeg) (M 4 0)) 0 ((8 * x3).toNatClampNeg) + 3).toNatClampNeg) + 1)) (mj_k 1 98 2 43 [some (.ref 0), some (.ref 2), some (.ref 4), some (.int x3)] [] 0 none K)) : mj_W 1 98 2 0 [some (.ref 0), some (.ref 2), some (.ref 4), some (.int x3)] [] M 0 K := by
  refine b98_0 ?_
  have g1 := h.1
  refine ⟨g1, ?_⟩
  have h1 := h.2
  have g2 := h1.1
  refine ⟨g2, ?_⟩
  have h2 := h1.2
  have g3 := h2.1
  refine ⟨g3, ?_⟩
  have h3 := h2.2
  have g4 := h3.1
  refine ⟨g4, ?_⟩
  have h4 := h3.2
  exact h4
theorem e98 {M : mj_M} {K : mj_K} {x3 : Int32} (h : vp_in (8 * x3 + 1) 64 ∧ vp_in (8 * x3 + 7) 64 ∧ vp_in (8 * x3) 64 ∧ vp_in (5 * (mj_u (mj_u M 0 ((8 * x3 + 1).toNatClampNeg) 0) 0 ((8 * x3 + 7).toNatClampNeg) (M 4 0)) 0 ((8 * x3).toNatClampNeg) + 3) 30 ∧ mj_Cm 97 1 [.ref 0, .ref 2, .int x3] (mj_u (mj_u (mj_u M 0 ((8 * x3 + 1).toNatClampNeg) 0) 0 ((8 * x3 + 7).toNatClampNeg) (M 4 0)) 2 ((5 * (mj_u (mj_u M 0 ((8 * x3 + 1).toNatClampNeg) 0) 0 ((8 * x3 + 7).toNatClampNeg) (M 4 0)) 0 ((8 * x3).toNatClampNeg) + 3).toNatClampNeg) (M 2 ((5 * (mj_u (mj_u M 0 ((8 * x3 + 1).toNatClampNeg) 0) 0 ((8 * x3 + 7).toNatClampNeg) (M 4 0)) 0 ((8 * x3).toNatClampNeg) + 3).toNatClampNeg) + 1)) (mj_k 1 98 2 43 [some (.ref 0), some (.ref 2), some (.ref 4), some (.int x3)] [] 0 none K)) : mj_Cm 98 2 [.ref 0, .ref 2, .ref 4, .int x3] M K := mj_en rfl rfl rfl (t98_0 h)

theorem t98_43 {M : mj_M} {K : mj_K} {x3 : Int32} (h : K 0 0 M) : mj_W 1 98 2 43 [some (.ref 0), some (.ref 2), some (.ref 4), some (.int x3)] [] M 0 K := by
  refine b98_43 ?_
  exact h

theorem t99_0 {M : mj_M} {K : mj_K} {x4 : Int32} (h : mj_W 1 99 1 16 [some (.ref 0), some (.ref 2), some (.ref 3), some (.ref 4), some (.int x4), some (.int (6 * x4)), some (.int 0), some (.int 1), some (.int 0), none, none, none] [] M 0 K) : mj_W 1 99 1 0 [some (.ref 0), some (.ref 2), some (.ref 3), some (.ref 4), some (.int x4), none, none, none, none, none, none, none] [] M 0 K := by
  refine b99_0 ?_
  exact h
theorem e99 {M : mj_M} {K : mj_K} {x4 : Int32} (h : mj_W 1 99 1 16 [some (.ref 0), some (.ref 2), some (.ref 3), some (.ref 4), some (.int x4), some (.int (6 * x4)), some (.int 0), some (.int 1), some (.int 0), none, none, none] [] M 0 K) : mj_Cm 99 1 [.ref 0, .ref 2, .ref 3, .ref 4, .int x4] M K := mj_en rfl rfl rfl (t99_0 h)

theorem t99_16 {M : mj_M} {K : mj_K} {x4 : Int32} {x5 : Int32} {x6 : Int32} {x7 : Int32} {x8 : Int32} {o9 : Option Value} {o10 : Option Value} {o11 : Option Value} (h : (x7 = 0 → vp_in (x5 + 4) 18 ∧ ((¬ M 3 ((x5 + 4).toNatClampNeg) = 1 → mj_W 1 99 1 288 [some (.ref 0), some (.ref 2), some (.ref 3), some (.ref 4), some (.int x4), some (.int x5), some (.int x6), some (.int x7), some (.int x8), o9, o10, o11] [.int 0] M 0 K) ∧ (M 3 ((x5 + 4).toNatClampNeg) = 1 → vp_in (x5 + 5) 18 ∧ ((3 ≤ M 3 ((x5 + 5).toNatClampNeg) → mj_W 1 99 1 288 [some (.ref 0), some (.ref 2), some (.ref 3), some (.ref 4), some (.int x4), some (.int x5), some (.int x6), some (.int x7), some (.int x8), o9, o10, o11] [.int 0] M 0 K) ∧ (¬ 3 ≤ M 3 ((x5 + 5).toNatClampNeg) → vp_in (x5 + 1) 18 ∧ vp_in (x5 + 3) 18 ∧ ((M 3 ((x5 + 3).toNatClampNeg) ≤ M 3 ((x5 + 1).toNatClampNeg) → mj_W 1 99 1 288 [some (.ref 0), some (.ref 2), some (.ref 3), some (.ref 4), some (.int x4), some (.int x5), some (.int x6), some (.int x7), some (.int x8), o9, o10, o11] [.int 0] M 0 K) ∧ (¬ M 3 ((x5 + 3).toNatClampNeg) ≤ M 3 ((x5 + 1).toNatClampNeg) → (x8 ≤ 0 → mj_W 1 99 1 288 [some (.ref 0), some (.ref 2), some (.ref 3), some (.ref 4), some (.int x4), some (.int x5), some (.int x6), some (.int x7), some (.int x8), o9, o10, o11] [.int 0] M 0 K) ∧ (¬ x8 ≤ 0 → mj_W 1 99 1 288 [some (.ref 0), some (.ref 2), some (.ref 3), some (.ref 4), some (.int x4), some (.int x5), some (.int x6), some (.int x7), some (.int x8), o9, o10, o11] [.int 1] M 0 K)))))))) ∧ (¬ x7 = 0 → mj_W 1 99 1 34 [some (.ref 0), some (.ref 2), some (.ref 3), some (.ref 4), some (.int x4), some (.int x5), some (.int x6), some (.int x7), some (.int 0), some (.int (-1)), some (.int (M 4 4 - 1)), o11] [] M 0 K)) : mj_W 1 99 1 16 [some (.ref 0), some (.ref 2), some (.ref 3), some (.ref 4), some (.int x4), some (.int x5), some (.int x6), some (.int x7), some (.int x8), o9, o10, o11] [] M 0 K := by
  refine b99_16 ?_
  refine ⟨fun c1 => ?_, fun c1 => ?_⟩
  · have h1a := h.1 c1
    refine b99_243 ?_
    have g2 := h1a.1
    refine ⟨g2, ?_⟩
    have h2 := h1a.2
    refine ⟨fun c3 => ?_, fun c3 => ?_⟩
    · have h3a := h2.1 c3
      refine b99_287 ?_
      exact h3a
    · have h3a := h2.2 c3
      refine b99_253 ?_
      have g4 := h3a.1
      refine ⟨g4, ?_⟩
      have h4 := h3a.2
      refine ⟨fun c5 => ?_, fun c5 => ?_⟩
      · have h5a := h4.1 c5
        refine b99_287 ?_
        exact h5a
      · have h5a := h4.2 c5
        refine b99_263 ?_
        have g6 := h5a.1
        refine ⟨g6, ?_⟩
        have h6 := h5a.2
        have g7 := h6.1
        refine ⟨g7, ?_⟩
        have h7 := h6.2
        refine ⟨fun c8 => ?_, fun c8 => ?_⟩
        · have h8a := h7.1 c8
          refine b99_287 ?_
          exact h8a
        · have h8a := h7.2 c8
          refine b99_278 ?_
          refine ⟨fun c9 => ?_, fun c9 => ?_⟩
          · have h9a := h8a.1 c9
            refine b99_287 ?_
            exact h9a
          · have h9a := h8a.2 c9
            refine b99_283 ?_
            exact h9a
  · have h1a := h.2 c1
    refine b99_21 ?_
    exact h1a

theorem t99_34 {M : mj_M} {K : mj_K} {x4 : Int32} {x5 : Int32} {x6 : Int32} {x7 : Int32} {x8 : Int32} {x9 : Int32} {x10 : Int32} {o11 : Option Value} (h : (x10 < 0 → (x9 < 0 → mj_W 1 99 1 196 [some (.ref 0), some (.ref 2), some (.ref 3), some (.ref 4), some (.int x4), some (.int x5), some (.int x6), some (.int x7), some (.int x8), some (.int x9), some (.int x10), o11] [.int 0] M 0 K) ∧ (¬ x9 < 0 → (4 ≤ x6 → mj_W 1 99 1 196 [some (.ref 0), some (.ref 2), some (.ref 3), some (.ref 4), some (.int x4), some (.int x5), some (.int x6), some (.int x7), some (.int x8), some (.int x9), some (.int x10), o11] [.int 0] M 0 K) ∧ (¬ 4 ≤ x6 → vp_in (x5 + 1) 18 ∧ vp_in (x5 + 3) 18 ∧ ((M 3 ((x5 + 3).toNatClampNeg) ≤ M 3 ((x5 + 1).toNatClampNeg) → mj_W 1 99 1 196 [some (.ref 0), some (.ref 2), some (.ref 3), some (.ref 4), some (.int x4), some (.int x5), some (.int x6), some (.int x7), some (.int x8), some (.int x9), some (.int x10), o11] [.int 0] M 0 K) ∧ (¬ M 3 ((x5 + 3).toNatClampNeg) ≤ M 3 ((x5 + 1).toNatClampNeg) → mj_W 1 99 1 196 [some (.ref 0), some (.ref 2), some (.ref 3), some (.ref 4), some (.int x4), some (.int x5), some (.int x6), some (.int x7), some (.int x8), some (.int x9), some (.int x10), o11] [.int 1] M 0 K))))) ∧ (¬ x10 < 0 → vp_in (8 * x10) 64 ∧ vp_in x5 18 ∧ ((¬ M 0 ((8 * x10).toNatClampNeg) = M 3 x5.toNatClampNeg → mj_W 1 99 1 100 [some (.ref 0), some (.ref 2), some (.ref 3), some (.ref 4), some (.int x4), some (.int x5), some (.int x6), some (.int x7), some (.int x8), some (.int x9), some (.int x10), o11] [.int 0] M 0 K) ∧ (M 0 ((8 * x10).toNatClampNeg) = M 3 x5.toNatClampNeg → vp_in (8 * x10 + 1) 64 ∧ ((¬ M 0 ((8 * x10 + 1).toNatClampNeg) = 0 → mj_W 1 99 1 100 [some (.ref 0), some (.ref 2), some (.ref 3), some (.ref 4), some (.int x4), some (.int x5), some (.int x6), some (.int x7), some (.int x8), some (.int x9), some (.int x10), o11] [.int 0] M 0 K) ∧ (M 0 ((8 * x10 + 1).toNatClampNeg) = 0 → vp_in (8 * x10 + 2) 64 ∧ ((¬ M 0 ((8 * x10 + 2).toNatClampNeg) = M 3 x5.toNatClampNeg → mj_W 1 99 1 100 [some (.ref 0), some (.ref 2), some (.ref 3), some (.ref 4), some (.int x4), some (.int x5), some (.int x6), some (.int x7), some (.int x8), some (.int x9), some (.int x10), o11] [.int 0] M 0 K) ∧ (M 0 ((8 * x10 + 2).toNatClampNeg) = M 3 x5.toNatClampNeg → vp_in (8 * x10 + 6) 64 ∧ ((¬ M 0 ((8 * x10 + 6).toNatClampNeg) = 1 → mj_W 1 99 1 100 [some (.ref 0), some (.ref 2), some (.ref 3), some (.ref 4), some (.int x4), some (.int x5), some (.int x6), some (.int x7), some (.int x8), some (.int x9), some (.int x10), o11] [.int 0] M 0 K) ∧ (M 0 ((8 * x10 + 6).toNatClampNeg) = 1 → mj_W 1 99 1 100 [some (.ref 0), some (.ref 2), some (.ref 3), some (.ref 4), some (.int x4), some (.int x5), some (.int x6), some (.int x7), some (.int x8), some (.int x9), some (.int x10), o11] [.int 1] M 0 K)))))))))) : mj_W 1 99 1 34 [some (.ref 0), some (.ref 2), some (.ref 3), some (.ref 4), some (.int x4), some (.int x5), some (.int x6), some (.int x7), some (.int x8), some (.int x9), some (.int x10), o11] [] M 0 K := by
  refine b99_34 ?_
  refine ⟨fun c1 => ?_, fun c1 => ?_⟩
  · have h1a := h.1 c1
    refine b99_165 ?_
    refine ⟨fun c2 => ?_, fun c2 => ?_⟩
    · have h2a := h1a.1 c2
      refine b99_195 ?_
      exact h2a
    · have h2a := h1a.2 c2
      refine b99_170 ?_
      refine ⟨fun c3 => ?_, fun c3 => ?_⟩
      · have h3a := h2a.1 c3
        refine b99_195 ?_
        exact h3a
      · have h3a := h2a.2 c3
        refine b99_176 ?_
        have g4 := h3a.1
        refine ⟨g4, ?_⟩
        have h4 := h3a.2
        have g5 := h4.1
        refine ⟨g5, ?_⟩
        have h5 := h4.2
        refine ⟨fun c6 => ?_, fun c6 => ?_⟩
        · have h6a := h5.1 c6
          refine b99_195 ?_
          exact h6a
        · have h6a := h5.2 c6
          refine b99_191 ?_
          exact h6a
  · have h1a := h.2 c1
    refine b99_39 ?_
    have g7 := h1a.1
    refine ⟨g7, ?_⟩
    have h7 := h1a.2
    have g8 := h7.1
    refine ⟨g8, ?_⟩
    have h8 := h7.2
    refine ⟨fun c9 => ?_, fun c9 => ?_⟩
    · have h9a := h8.1 c9
      refine b99_99 ?_
      exact h9a
    · have h9a := h8.2 c9
      refine b99_53 ?_
      have g10 := h9a.1
      refine ⟨g10, ?_⟩
      have h10 := h9a.2
      refine ⟨fun c11 => ?_, fun c11 => ?_⟩
      · have h11a := h10.1 c11
        refine b99_99 ?_
        exact h11a
      · have h11a := h10.2 c11
        refine b99_65 ?_
        have g12 := h11a.1
        refine ⟨g12, ?_⟩
        have h12 := h11a.2
        refine ⟨g8, ?_⟩
        refine ⟨fun c13 => ?_, fun c13 => ?_⟩
        · have h13a := h12.1 c13
          refine b99_99 ?_
          exact h13a
        · have h13a := h12.2 c13
          refine b99_81 ?_
          have g14 := h13a.1
          refine ⟨g14, ?_⟩
          have h14 := h13a.2
          refine ⟨fun c15 => ?_, fun c15 => ?_⟩
          · have h15a := h14.1 c15
            refine b99_99 ?_
            exact h15a
          · have h15a := h14.2 c15
            refine b99_95 ?_
            exact h15a

theorem t99_100 {M : mj_M} {K : mj_K} {x4 : Int32} {x5 : Int32} {x6 : Int32} {x7 : Int32} {x8 : Int32} {x9 : Int32} {x10 : Int32} {o11 : Option Value} {s0 : Int32} (h : (s0 = 0 → mj_W 1 99 1 114 [some (.ref 0), some (.ref 2), some (.ref 3), some (.ref 4), some (.int x4), some (.int x5), some (.int x6), some (.int x7), some (.int x8), some (.int x9), some (.int x10), some (.int s0)] [.int 0, .int x8] M 0 K) ∧ (¬ s0 = 0 → mj_W 1 99 1 114 [some (.ref 0), some (.ref 2), some (.ref 3), some (.ref 4), some (.int x4), some (.int x5), some (.int x6), some (.int x7), some (.int x8), some (.int x9), some (.int x10), some (.int s0)] [.int 1, .int x8] M 0 K)) : mj_W 1 99 1 100 [some (.ref 0), some (.ref 2), some (.ref 3), some (.ref 4), some (.int x4), some (.int x5), some (.int x6), some (.int x7), some (.int x8), some (.int x9), some (.int x10), o11] [.int s0] M 0 K := by
  refine b99_100 ?_
  refine ⟨fun c1 => ?_, fun c1 => ?_⟩
  · have h1a := h.1 c1
    refine b99_113 ?_
    exact h1a
  · have h1a := h.2 c1
    refine b99_109 ?_
    exact h1a

theorem t99_114 {M : mj_M} {K : mj_K} {x4 : Int32} {x5 : Int32} {x6 : Int32} {x7 : Int32} {x8 : Int32} {x9 : Int32} {x10 : Int32} {x11 : Int32} {s0 : Int32} {s1 : Int32} (h : (x11 = 0 → mj_W 1 99 1 157 [some (.ref 0), some (.ref 2), some (.ref 3), some (.ref 4), some (.int x4), some (.int x5), some (.int x6), some (.int x7), some (.int (s0 + s1)), some (.int x9), some (.int x10), some (.int x11)] [.int x9] M 0 K) ∧ (¬ x11 = 0 → (x9 < 0 → mj_W 1 99 1 157 [some (.ref 0), some (.ref 2), some (.ref 3), some (.ref 4), some (.int x4), some (.int x5), some (.int x6), some (.int x7), some (.int (s0 + s1)), some (.int x9), some (.int x10), some (.int x11)] [.int x10] M 0 K) ∧ (¬ x9 < 0 → vp_in (8 * x10 + 7) 64 ∧ vp_in (8 * x9 + 7) 64 ∧ ((M 0 ((8 * x9 + 7).toNatClampNeg) < M 0 ((8 * x10 + 7).toNatClampNeg) → mj_W 1 99 1 157 [some (.ref 0), some (.ref 2), some (.ref 3), some (.ref 4), some (.int x4), some (.int x5), some (.int x6), some (.int x7), some (.int (s0 + s1)), some (.int x9), some (.int x10), some (.int x11)] [.int x9] M 0 K) ∧ (¬ M 0 ((8 * x9 + 7).toNatClampNeg) < M 0 ((8 * x10 + 7).toNatClampNeg) → mj_W 1 99 1 157 [some (.ref 0), some (.ref 2), some (.ref 3), some (.ref 4), some (.int x4), some (.int x5), some (.int x6), some (.int x7), some (.int (s0 + s1)), some (.int x9), some (.int x10), some (.int x11)] [.int x10] M 0 K))))) : mj_W 1 99 1 114 [some (.ref 0), some (.ref 2), some (.ref 3), some (.ref 4), some (.int x4), some (.int x5), some (.int x6), some (.int x7), some (.int x8), some (.int x9), some (.int x10), some (.int x11)] [.int s1, .int s0] M 0 K := by
  refine b99_114 ?_
  refine ⟨fun c1 => ?_, fun c1 => ?_⟩
  · have h1a := h.1 c1
    refine b99_155 ?_
    exact h1a
  · have h1a := h.2 c1
    refine b99_122 ?_
    refine ⟨fun c2 => ?_, fun c2 => ?_⟩
    · have h2a := h1a.1 c2
      refine b99_150 ?_
      exact h2a
    · have h2a := h1a.2 c2
      refine b99_127 ?_
      have g3 := h2a.1
      refine ⟨g3, ?_⟩
      have h3 := h2a.2
      have g4 := h3.1
      refine ⟨g4, ?_⟩
      have h4 := h3.2
      refine ⟨fun c5 => ?_, fun c5 => ?_⟩
      · have h5a := h4.1 c5
        refine b99_155 ?_
        exact h5a
      · have h5a := h4.2 c5
        refine b99_150 ?_
        exact h5a

theorem t99_157 {M : mj_M} {K : mj_K} {x4 : Int32} {x5 : Int32} {x6 : Int32} {x7 : Int32} {x8 : Int32} {x9 : Int32} {x10 : Int32} {x11 : Int32} {s0 : Int32} (h : mj_W 1 99 1 34 [some (.ref 0), some (.ref 2), some (.ref 3), some (.ref 4), some (.int x4), some (.int x5), some (.int x6), some (.int x7), some (.int x8), some (.int s0), some (.int (x10 + (-1))), some (.int x11)] [] M 0 K) : mj_W 1 99 1 157 [some (.ref 0), some (.ref 2), some (.ref 3), some (.ref 4), some (.int x4), some (.int x5), some (.int x6), some (.int x7), some (.int x8), some (.int x9), some (.int x10), some (.int x11)] [.int s0] M 0 K := by
  refine b99_157 ?_
  exact h

theorem t99_196 {M : mj_M} {K : mj_K} {x4 : Int32} {x5 : Int32} {x6 : Int32} {x7 : Int32} {x8 : Int32} {x9 : Int32} {x10 : Int32} {o11 : Option Value} {s0 : Int32} (h : (s0 = 0 → mj_W 1 99 1 16 [some (.ref 0), some (.ref 2), some (.ref 3), some (.ref 4), some (.int x4), some (.int x5), some (.int x6), some (.int s0), some (.int x8), some (.int x9), some (.int x10), o11] [] M 0 K) ∧ (¬ s0 = 0 → vp_in (8 * x9 + 1) 64 ∧ vp_in x5 18 ∧ vp_in (5 * M 3 x5.toNatClampNeg + 4) 30 ∧ vp_in (x5 + 1) 18 ∧ mj_W 1 99 1 16 [some (.ref 0), some (.ref 2), some (.ref 3), some (.ref 4), some (.int x4), some (.int x5), some (.int (x6 + 1)), some (.int s0), some (.int x8), some (.int x9), some (.int x10), o11] [] (mj_u (mj_u (mj_u M 0 ((8 * x9 + 1).toNatClampNeg) 2) 2 ((5 * M 3 x5.toNatClampNeg + 4).toNatClampNeg) (M 2 ((5 * M 3 x5.toNatClampNeg + 4).toNatClampNeg) + 1)) 3 ((x5 + 1).toNatClampNeg) (M 3 ((x5 + 1).toNatClampNeg) + 1)) 0 K)) : mj_W 1 99 1 196 [some (.ref 0), some (.ref 2), some (.ref 3), some (.ref 4), some (.int x4), some (.int x5), some (.int x6), some (.int x7), some (.int x8), some (.int x9), some (.int x10), o11] [.int s0] M 0 K := by
  refine b99_196 ?_
  refine ⟨fun c1 => ?_, fun c1 => ?_⟩
  · have h1a := h.1 c1
    refine b99_240 ?_
    exact h1a
  · have h1a := h.2 c1
    refine b99_203 ?_
    have g2 := h1a.1
    refine ⟨g2, ?_⟩
    have h2 := h1a.2
    have g3 := h2.1
    refine ⟨g3, ?_⟩
    have h3 := h2.2
    have g4 := h3.1
    refine ⟨g4, ?_⟩
    have h4 := h3.2
    have g5 := h4.1
    refine ⟨g5, ?_⟩
    have h5 := h4.2
    refine b99_240 ?_
    exact h5

theorem t99_288 {M : mj_M} {K : mj_K} {x4 : Int32} {x5 : Int32} {x6 : Int32} {x7 : Int32} {x8 : Int32} {o9 : Option Value} {o10 : Option Value} {o11 : Option Value} {s0 : Int32} (h : vp_in (x5 + 5) 18 ∧ ((s0 = 0 → mj_W 1 99 1 307 [some (.ref 0), some (.ref 2), some (.ref 3), some (.ref 4), some (.int x4), some (.int x5), some (.int x6), some (.int x7), some (.int x8), some (.int s0), o10, o11] [.int 0, .int (M 3 ((x5 + 5).toNatClampNeg)), .int (x5 + 5), .ref 3] M 0 K) ∧ (¬ s0 = 0 → mj_W 1 99 1 307 [some (.ref 0), some (.ref 2), some (.ref 3), some (.ref 4), some (.int x4), some (.int x5), some (.int x6), some (.int x7), some (.int x8), some (.int s0), o10, o11] [.int 1, .int (M 3 ((x5 + 5).toNatClampNeg)), .int (x5 + 5), .ref 3] M 0 K))) : mj_W 1 99 1 288 [some (.ref 0), some (.ref 2), some (.ref 3), some (.ref 4), some (.int x4), some (.int x5), some (.int x6), some (.int x7), some (.int x8), o9, o10, o11] [.int s0] M 0 K := by
  refine b99_288 ?_
  have g1 := h.1
  refine ⟨g1, ?_⟩
  have h1 := h.2
  refine ⟨fun c2 => ?_, fun c2 => ?_⟩
  · have h2a := h1.1 c2
    refine b99_306 ?_
    exact h2a
  · have h2a := h1.2 c2
    refine b99_302 ?_
    exact h2a

theorem t99_307 {M : mj_M} {K : mj_K} {x4 : Int32} {x5 : Int32} {x6 : Int32} {x7 : Int32} {x8 : Int32} {x9 : Int32} {o10 : Option Value} {o11 : Option Value} {s1 : Int32} {s2 : Int32} {s3 : Int32} (h : vp_in s1 18 ∧ vp_in (x5 + 4) 18 ∧ ((x9 = 0 → mj_W 1 99 1 326 [some (.ref 0), some (.ref 2), some (.ref 3), some (.ref 4), some (.int x4), some (.int x5), some (.int x6), some (.int x7), some (.int x8), some (.int x9), o10, o11] [.int 1, .int ((mj_u M 3 s1.toNatClampNeg (s2 + s3)) 3 ((x5 + 4).toNatClampNeg)), .int (x5 + 4), .ref 3] (mj_u M 3 s1.toNatClampNeg (s2 + s3)) 0 K) ∧ (¬ x9 = 0 → mj_W 1 99 1 326 [some (.ref 0), some (.ref 2), some (.ref 3), some (.ref 4), some (.int x4), some (.int x5), some (.int x6), some (.int x7), some (.int x8), some (.int x9), o10, o11] [.int 0, .int ((mj_u M 3 s1.toNatClampNeg (s2 + s3)) 3 ((x5 + 4).toNatClampNeg)), .int (x5 + 4), .ref 3] (mj_u M 3 s1.toNatClampNeg (s2 + s3)) 0 K))) : mj_W 1 99 1 307 [some (.ref 0), some (.ref 2), some (.ref 3), some (.ref 4), some (.int x4), some (.int x5), some (.int x6), some (.int x7), some (.int x8), some (.int x9), o10, o11] [.int s3, .int s2, .int s1, .ref 3] M 0 K := by
  refine b99_307 ?_
  have g1 := h.1
  refine ⟨g1, ?_⟩
  have h1 := h.2
  have g2 := h1.1
  refine ⟨g2, ?_⟩
  have h2 := h1.2
  refine ⟨fun c3 => ?_, fun c3 => ?_⟩
  · have h3a := h2.1 c3
    refine b99_325 ?_
    exact h3a
  · have h3a := h2.2 c3
    refine b99_321 ?_
    exact h3a

theorem t99_326 {M : mj_M} {K : mj_K} {x4 : Int32} {x5 : Int32} {x6 : Int32} {x7 : Int32} {x8 : Int32} {x9 : Int32} {o10 : Option Value} {o11 : Option Value} {s1 : Int32} {s2 : Int32} {s3 : Int32} (h : vp_in s1 18 ∧ K 0 0 (mj_u M 3 s1.toNatClampNeg (s2 - s3))) : mj_W 1 99 1 326 [some (.ref 0), some (.ref 2), some (.ref 3), some (.ref 4), some (.int x4), some (.int x5), some (.int x6), some (.int x7), some (.int x8), some (.int x9), o10, o11] [.int s3, .int s2, .int s1, .ref 3] M 0 K := by
  refine b99_326 ?_
  have g1 := h.1
  refine ⟨g1, ?_⟩
  have h1 := h.2
  exact h1

theorem t100_0 {M : mj_M} {K : mj_K} {x2 : Int32} {x3 : Int32} {x4 : Int32} (h : vp_in (11 * x4) 55 ∧ ((¬ M 1 ((11 * x4).toNatClampNeg) = 2 → mj_W 1 100 1 32 [some (.ref 0), some (.ref 1), some (.int x2), some (.int x3), some (.int x4), none] [.int 0] M 0 K) ∧ (M 1 ((11 * x4).toNatClampNeg) = 2 → vp_in (8 * x3 + 3) 64 ∧ vp_in (8 * x2 + 3) 64 ∧ mj_W 1 100 1 32 [some (.ref 0), some (.ref 1), some (.int x2), some (.int x3), some (.int x4), none] [.int (M 0 ((8 * x3 + 3).toNatClampNeg) - M 0 ((8 * x2 + 3).toNatClampNeg))] M 0 K))) : mj_W 1 100 1 0 [some (.ref 0), some (.ref 1), some (.int x2), some (.int x3), some (.int x4), none] [] M 0 K := by
  refine b100_0 ?_
  have g1 := h.1
  refine ⟨g1, ?_⟩
  have h1 := h.2
  refine ⟨fun c2 => ?_, fun c2 => ?_⟩
  · have h2a := h1.1 c2
    refine b100_31 ?_
    exact h2a
  · have h2a := h1.2 c2
    refine b100_11 ?_
    have g3 := h2a.1
    refine ⟨g3, ?_⟩
    have h3 := h2a.2
    have g4 := h3.1
    refine ⟨g4, ?_⟩
    have h4 := h3.2
    exact h4
theorem e100 {M : mj_M} {K : mj_K} {x2 : Int32} {x3 : Int32} {x4 : Int32} (h : vp_in (11 * x4) 55 ∧ ((¬ M 1 ((11 * x4).toNatClampNeg) = 2 → mj_W 1 100 1 32 [some (.ref 0), some (.ref 1), some (.int x2), some (.int x3), some (.int x4), none] [.int 0] M 0 K) ∧ (M 1 ((11 * x4).toNatClampNeg) = 2 → vp_in (8 * x3 + 3) 64 ∧ vp_in (8 * x2 + 3) 64 ∧ mj_W 1 100 1 32 [some (.ref 0), some (.ref 1), some (.int x2), some (.int x3), some (.int x4), none] [.int (M 0 ((8 * x3 + 3).toNatClampNeg) - M 0 ((8 * x2 + 3).toNatClampNeg))] M 0 K))) : mj_Cm 100 1 [.ref 0, .ref 1, .int x2, .int x3, .int x4] M K := mj_en rfl rfl rfl (t100_0 h)

theorem t100_32 {M : mj_M} {K : mj_K} {x2 : Int32} {x3 : Int32} {x4 : Int32} {o5 : Option Value} {s0 : Int32} (h : (s0 = 0 → vp_in (8 * x2 + 7) 64 ∧ vp_in (8 * x3 + 7) 64 ∧ ((M 0 ((8 * x2 + 7).toNatClampNeg) = M 0 ((8 * x3 + 7).toNatClampNeg) → (x3 ≤ x2 → mj_W 1 100 1 112 [some (.ref 0), some (.ref 1), some (.int x2), some (.int x3), some (.int x4), some (.int s0)] [.int 0] M 0 K) ∧ (¬ x3 ≤ x2 → mj_W 1 100 1 112 [some (.ref 0), some (.ref 1), some (.int x2), some (.int x3), some (.int x4), some (.int s0)] [.int 1] M 0 K)) ∧ (¬ M 0 ((8 * x2 + 7).toNatClampNeg) = M 0 ((8 * x3 + 7).toNatClampNeg) → (M 0 ((8 * x3 + 7).toNatClampNeg) ≤ M 0 ((8 * x2 + 7).toNatClampNeg) → mj_W 1 100 1 112 [some (.ref 0), some (.ref 1), some (.int x2), some (.int x3), some (.int x4), some (.int s0)] [.int 0] M 0 K) ∧ (¬ M 0 ((8 * x3 + 7).toNatClampNeg) ≤ M 0 ((8 * x2 + 7).toNatClampNeg) → mj_W 1 100 1 112 [some (.ref 0), some (.ref 1), some (.int x2), some (.int x3), some (.int x4), some (.int s0)] [.int 1] M 0 K)))) ∧ (¬ s0 = 0 → (0 ≤ s0 → mj_W 1 100 1 112 [some (.ref 0), some (.ref 1), some (.int x2), some (.int x3), some (.int x4), some (.int s0)] [.int 0] M 0 K) ∧ (¬ 0 ≤ s0 → mj_W 1 100 1 112 [some (.ref 0), some (.ref 1), some (.int x2), some (.int x3), some (.int x4), some (.int s0)] [.int 1] M 0 K))) : mj_W 1 100 1 32 [some (.ref 0), some (.ref 1), some (.int x2), some (.int x3), some (.int x4), o5] [.int s0] M 0 K := by
  refine b100_32 ?_
  refine ⟨fun c1 => ?_, fun c1 => ?_⟩
  · have h1a := h.1 c1
    refine b100_52 ?_
    have g2 := h1a.1
    refine ⟨g2, ?_⟩
    have h2 := h1a.2
    have g3 := h2.1
    refine ⟨g3, ?_⟩
    have h3 := h2.2
    refine ⟨fun c4 => ?_, fun c4 => ?_⟩
    · have h4a := h3.1 c4
      refine b100_102 ?_
      refine ⟨fun c5 => ?_, fun c5 => ?_⟩
      · have h5a := h4a.1 c5
        refine b100_111 ?_
        exact h5a
      · have h5a := h4a.2 c5
        refine b100_107 ?_
        exact h5a
    · have h4a := h3.2 c4
      refine b100_73 ?_
      refine ⟨g2, ?_⟩
      refine ⟨g3, ?_⟩
      refine ⟨fun c6 => ?_, fun c6 => ?_⟩
      · have h6a := h4a.1 c6
        refine b100_98 ?_
        exact h6a
      · have h6a := h4a.2 c6
        refine b100_94 ?_
        exact h6a
  · have h1a := h.2 c1
    refine b100_39 ?_
    refine ⟨fun c7 => ?_, fun c7 => ?_⟩
    · have h7a := h1a.1 c7
      refine b100_48 ?_
      exact h7a
    · have h7a := h1a.2 c7
      refine b100_44 ?_
      exact h7a

theorem t100_112 {M : mj_M} {K : mj_K} {x2 : Int32} {x3 : Int32} {x4 : Int32} {x5 : Int32} {s0 : Int32} (h : K 0 (mj_nb s0) M) : mj_W 1 100 1 112 [some (.ref 0), some (.ref 1), some (.int x2), some (.int x3), some (.int x4), some (.int x5)] [.int s0] M 0 K := by
  refine b100_112 ?_
  exact h

theorem t101_0 {M : mj_M} {K : mj_K} {x5 : Int32} (h : vp_in (11 * x5) 55 ∧ ((¬ M 1 ((11 * x5).toNatClampNeg) = 3 → vp_in (11 * x5 + 4) 55 ∧ mj_W 3 101 3 50 [some (.ref 0), some (.ref 1), some (.ref 2), some (.ref 4), some (.ref 5), some (.int x5), none, none, none, none, none, none, none, none, none, none, none, none] [.int (M 1 ((11 * x5 + 4).toNatClampNeg))] M 0 K) ∧ (M 1 ((11 * x5).toNatClampNeg) = 3 → vp_in (11 * x5 + 8) 55 ∧ ((¬ M 1 ((11 * x5 + 8).toNatClampNeg) = 1 → vp_in (11 * x5 + 4) 55 ∧ mj_W 3 101 3 50 [some (.ref 0), some (.ref 1), some (.ref 2), some (.ref 4), some (.ref 5), some (.int x5), none, none, none, none, none, none, none, none, none, none, none, none] [.int (M 1 ((11 * x5 + 4).toNatClampNeg))] M 0 K) ∧ (M 1 ((11 * x5 + 8).toNatClampNeg) = 1 → vp_in (11 * x5 + 4) 55 ∧ mj_W 3 101 3 50 [some (.ref 0), some (.ref 1), some (.ref 2), some (.ref 4), some (.ref 5), some (.int x5), none, none, none, none, none, none, none, none, none, none, none, none] [.int ((M 1 ((11 * x5 + 4).toNatClampNeg) + 1) / 2)] M 0 K))))) : mj_W 3 101 3 0 [some (.ref 0), some (.ref 1), some (.ref 2), some (.ref 4), some (.ref 5), some (.int x5), none, none, none, none, none, none, none, none, none, none, none, none] [] M 0 K := by
  refine b101_0 ?_
  have g1 := h.1
  refine ⟨g1, ?_⟩
  have h1 := h.2
  refine ⟨fun c2 => ?_, fun c2 => ?_⟩
  · have h2a := h1.1 c2
    refine b101_41 ?_
    have g3 := h2a.1
    refine ⟨g3, ?_⟩
    have h3 := h2a.2
    exact h3
  · have h2a := h1.2 c2
    refine b101_11 ?_
    have g4 := h2a.1
    refine ⟨g4, ?_⟩
    have h4 := h2a.2
    refine ⟨fun c5 => ?_, fun c5 => ?_⟩
    · have h5a := h4.1 c5
      refine b101_41 ?_
      have g6 := h5a.1
      refine ⟨g6, ?_⟩
      have h6 := h5a.2
      exact h6
    · have h5a := h4.2 c5
      refine b101_25 ?_
      have g7 := h5a.1
      refine ⟨g7, ?_⟩
      have h7 := h5a.2
      exact h7
theorem e101 {M : mj_M} {K : mj_K} {x5 : Int32} (h : vp_in (11 * x5) 55 ∧ ((¬ M 1 ((11 * x5).toNatClampNeg) = 3 → vp_in (11 * x5 + 4) 55 ∧ mj_W 3 101 3 50 [some (.ref 0), some (.ref 1), some (.ref 2), some (.ref 4), some (.ref 5), some (.int x5), none, none, none, none, none, none, none, none, none, none, none, none] [.int (M 1 ((11 * x5 + 4).toNatClampNeg))] M 0 K) ∧ (M 1 ((11 * x5).toNatClampNeg) = 3 → vp_in (11 * x5 + 8) 55 ∧ ((¬ M 1 ((11 * x5 + 8).toNatClampNeg) = 1 → vp_in (11 * x5 + 4) 55 ∧ mj_W 3 101 3 50 [some (.ref 0), some (.ref 1), some (.ref 2), some (.ref 4), some (.ref 5), some (.int x5), none, none, none, none, none, none, none, none, none, none, none, none] [.int (M 1 ((11 * x5 + 4).toNatClampNeg))] M 0 K) ∧ (M 1 ((11 * x5 + 8).toNatClampNeg) = 1 → vp_in (11 * x5 + 4) 55 ∧ mj_W 3 101 3 50 [some (.ref 0), some (.ref 1), some (.ref 2), some (.ref 4), some (.ref 5), some (.int x5), none, none, none, none, none, none, none, none, none, none, none, none] [.int ((M 1 ((11 * x5 + 4).toNatClampNeg) + 1) / 2)] M 0 K))))) : mj_Cm 101 3 [.ref 0, .ref 1, .ref 2, .ref 4, .ref 5, .int x5] M K := mj_en rfl rfl rfl (t101_0 h)

theorem t101_70 {M : mj_M} {K : mj_K} {x5 : Int32} {x6 : Int32} {x7 : Int32} {x8 : Int32} {x9 : Int32} {o10 : Option Value} {o11 : Option Value} {o12 : Option Value} {o13 : Option Value} {o14 : Option Value} {o15 : Option Value} {o16 : Option Value} {o17 : Option Value} (h : (x9 = 0 → K 0 0 M) ∧ (¬ x9 = 0 → mj_W 3 101 3 81 [some (.ref 0), some (.ref 1), some (.ref 2), some (.ref 4), some (.ref 5), some (.int x5), some (.int x6), some (.int x7), some (.int x8), some (.int x9), some (.int (-1)), some (.int 0), o12, o13, o14, o15, o16, o17] [] M 0 K)) : mj_W 3 101 3 70 [some (.ref 0), some (.ref 1), some (.ref 2), some (.ref 4), some (.ref 5), some (.int x5), some (.int x6), some (.int x7), some (.int x8), some (.int x9), o10, o11, o12, o13, o14, o15, o16, o17] [] M 0 K := by
  refine b101_70 ?_
  refine ⟨fun c1 => ?_, fun c1 => ?_⟩
  · have h1a := h.1 c1
    refine b101_554 ?_
    exact h1a
  · have h1a := h.2 c1
    refine b101_75 ?_
    exact h1a

theorem t101_81 {M : mj_M} {K : mj_K} {x5 : Int32} {x6 : Int32} {x7 : Int32} {x8 : Int32} {x9 : Int32} {x10 : Int32} {x11 : Int32} {o12 : Option Value} {o13 : Option Value} {o14 : Option Value} {o15 : Option Value} {o16 : Option Value} {o17 : Option Value} (h : (M 4 4 ≤ x11 → (x10 < 0 → mj_W 3 101 3 177 [some (.ref 0), some (.ref 1), some (.ref 2), some (.ref 4), some (.ref 5), some (.int x5), some (.int x6), some (.int x7), some (.int x8), some (.int x9), some (.int x10), some (.int x11), o12, o13, o14, o15, o16, o17] [.int 0] M 0 K) ∧ (¬ x10 < 0 → mj_W 3 101 3 177 [some (.ref 0), some (.ref 1), some (.ref 2), some (.ref 4), some (.ref 5), some (.int x5), some (.int x6), some (.int x7), some (.int x8), some (.int x9), some (.int x10), some (.int x11), o12, o13, o14, o15, o16, o17] [.int 1] M 0 K)) ∧ (¬ M 4 4 ≤ x11 → vp_in x11 8 ∧ ((¬ M 5 x11.toNatClampNeg = x5 → mj_W 3 101 3 126 [some (.ref 0), some (.ref 1), some (.ref 2), some (.ref 4), some (.ref 5), some (.int x5), some (.int x6), some (.int x7), some (.int x8), some (.int x9), some (.int x10), some (.int x11), o12, o13, o14, o15, o16, o17] [.int 0] M 0 K) ∧ (M 5 x11.toNatClampNeg = x5 → vp_in (8 * x11 + 1) 64 ∧ ((¬ M 0 ((8 * x11 + 1).toNatClampNeg) = 0 → mj_W 3 101 3 126 [some (.ref 0), some (.ref 1), some (.ref 2), some (.ref 4), some (.ref 5), some (.int x5), some (.int x6), some (.int x7), some (.int x8), some (.int x9), some (.int x10), some (.int x11), o12, o13, o14, o15, o16, o17] [.int 0] M 0 K) ∧ (M 0 ((8 * x11 + 1).toNatClampNeg) = 0 → (¬ (x8 >>> (x11 &&& 31)) &&& 1 = 0 → mj_W 3 101 3 126 [some (.ref 0), some (.ref 1), some (.ref 2), some (.ref 4), some (.ref 5), some (.int x5), some (.int x6), some (.int x7), some (.int x8), some (.int x9), some (.int x10), some (.int x11), o12, o13, o14, o15, o16, o17] [.int 0] M 0 K) ∧ ((x8 >>> (x11 &&& 31)) &&& 1 = 0 → mj_W 3 101 3 126 [some (.ref 0), some (.ref 1), some (.ref 2), some (.ref 4), some (.ref 5), some (.int x5), some (.int x6), some (.int x7), some (.int x8), some (.int x9), some (.int x10), some (.int x11), o12, o13, o14, o15, o16, o17] [.int 1] M 0 K))))))) : mj_W 3 101 3 81 [some (.ref 0), some (.ref 1), some (.ref 2), some (.ref 4), some (.ref 5), some (.int x5), some (.int x6), some (.int x7), some (.int x8), some (.int x9), some (.int x10), some (.int x11), o12, o13, o14, o15, o16, o17] [] M 0 K := by
  refine b101_81 ?_
  refine ⟨fun c1 => ?_, fun c1 => ?_⟩
  · have h1a := h.1 c1
    refine b101_167 ?_
    refine ⟨fun c2 => ?_, fun c2 => ?_⟩
    · have h2a := h1a.1 c2
      refine b101_176 ?_
      exact h2a
    · have h2a := h1a.2 c2
      refine b101_172 ?_
      exact h2a
  · have h1a := h.2 c1
    refine b101_89 ?_
    have g3 := h1a.1
    refine ⟨g3, ?_⟩
    have h3 := h1a.2
    refine ⟨fun c4 => ?_, fun c4 => ?_⟩
    · have h4a := h3.1 c4
      refine b101_125 ?_
      exact h4a
    · have h4a := h3.2 c4
      refine b101_99 ?_
      have g5 := h4a.1
      refine ⟨g5, ?_⟩
      have h5 := h4a.2
      refine ⟨fun c6 => ?_, fun c6 => ?_⟩
      · have h6a := h5.1 c6
        refine b101_125 ?_
        exact h6a
      · have h6a := h5.2 c6
        refine b101_111 ?_
        refine ⟨fun c7 => ?_, fun c7 => ?_⟩
        · have h7a := h6a.1 c7
          refine b101_125 ?_
          exact h7a
        · have h7a := h6a.2 c7
          refine b101_121 ?_
          exact h7a

theorem t101_207 {M : mj_M} {K : mj_K} {x5 : Int32} {x6 : Int32} {x7 : Int32} {x8 : Int32} {x9 : Int32} {x10 : Int32} {x11 : Int32} {x12 : Int32} {x13 : Int32} {x14 : Int32} {o15 : Option Value} {o16 : Option Value} {o17 : Option Value} (h : (M 4 4 ≤ x14 → mj_W 3 101 3 319 [some (.ref 0), some (.ref 1), some (.ref 2), some (.ref 4), some (.ref 5), some (.int x5), some (.int x6), some (.int x7), some (.int x8), some (.int x9), some (.int x10), some (.int x11), some (.int x12), some (.int x13), some (.int 0), some (.int 0), o16, o17] [] M 0 K) ∧ (¬ M 4 4 ≤ x14 → (x11 < 0 → mj_W 3 101 3 319 [some (.ref 0), some (.ref 1), some (.ref 2), some (.ref 4), some (.ref 5), some (.int x5), some (.int x6), some (.int x7), some (.int x8), some (.int x9), some (.int x10), some (.int x11), some (.int x12), some (.int x13), some (.int 0), some (.int 0), o16, o17] [] M 0 K) ∧ (¬ x11 < 0 → vp_in (8 * x14 + 4) 64 ∧ ((¬ M 0 ((8 * x14 + 4).toNatClampNeg) = x11 → mj_W 3 101 3 207 [some (.ref 0), some (.ref 1), some (.ref 2), some (.ref 4), some (.ref 5), some (.int x5), some (.int x6), some (.int x7), some (.int x8), some (.int x9), some (.int x10), some (.int x11), some (.int x12), some (.int x13), some (.int (x14 + 1)), o15, o16, o17] [] M 0 K) ∧ (M 0 ((8 * x14 + 4).toNatClampNeg) = x11 → vp_in (8 * x14 + 1) 64 ∧ ((2 ≤ M 0 ((8 * x14 + 1).toNatClampNeg) → mj_W 3 101 3 207 [some (.ref 0), some (.ref 1), some (.ref 2), some (.ref 4), some (.ref 5), some (.int x5), some (.int x6), some (.int x7), some (.int x8), some (.int x9), some (.int x10), some (.int x11), some (.int x12), some (.int x13), some (.int (x14 + 1)), o15, o16, o17] [] M 0 K) ∧ (¬ 2 ≤ M 0 ((8 * x14 + 1).toNatClampNeg) → (x13 = 0 → mj_W 3 101 3 305 [some (.ref 0), some (.ref 1), some (.ref 2), some (.ref 4), some (.ref 5), some (.int x5), some (.int x6), some (.int x7), some (.int x8), some (.int x9), some (.int x10), some (.int x11), some (.int (x12 ||| (1 <<< (x14 &&& 31)))), some (.int x13), some (.int x14), o15, o16, o17] [.int 0] M 0 K) ∧ (¬ x13 = 0 → (¬ M 0 ((8 * x14 + 1).toNatClampNeg) = 0 → mj_W 3 101 3 305 [some (.ref 0), some (.ref 1), some (.ref 2), some (.ref 4), some (.ref 5), some (.int x5), some (.int x6), some (.int x7), some (.int x8), some (.int x9), some (.int x10), some (.int x11), some (.int (x12 ||| (1 <<< (x14 &&& 31)))), some (.int x13), some (.int x14), o15, o16, o17] [.int 0] M 0 K) ∧ (M 0 ((8 * x14 + 1).toNatClampNeg) = 0 → vp_in (8 * x14) 64 ∧ vp_in (8 * x10) 64 ∧ ((¬ M 0 ((8 * x14).toNatClampNeg) = M 0 ((8 * x10).toNatClampNeg) → mj_W 3 101 3 305 [some (.ref 0), some (.ref 1), some (.ref 2), some (.ref 4), some (.ref 5), some (.int x5), some (.int x6), some (.int x7), some (.int x8), some (.int x9), some (.int x10), some (.int x11), some (.int (x12 ||| (1 <<< (x14 &&& 31)))), some (.int x13), some (.int x14), o15, o16, o17] [.int 0] M 0 K) ∧ (M 0 ((8 * x14).toNatClampNeg) = M 0 ((8 * x10).toNatClampNeg) → vp_in x14 8 ∧ ((¬ M 5 x14.toNatClampNeg = x5 → mj_W 3 101 3 305 [some (.ref 0), some (.ref 1), some (.ref 2), some (.ref 4), some (.ref 5), some (.int x5), some (.int x6), some (.int x7), some (.int x8), some (.int x9), some (.int x10), some (.int x11), some (.int (x12 ||| (1 <<< (x14 &&& 31)))), some (.int x13), some (.int x14), o15, o16, o17] [.int 0] M 0 K) ∧ (M 5 x14.toNatClampNeg = x5 → mj_W 3 101 3 305 [some (.ref 0), some (.ref 1), some (.ref 2), some (.ref 4), some (.ref 5), some (.int x5), some (.int x6), some (.int x7), some (.int x8), some (.int x9), some (.int x10), some (.int x11), some (.int (x12 ||| (1 <<< (x14 &&& 31)))), some (.int x13), some (.int x14), o15, o16, o17] [.int 1] M 0 K))))))))))))) : mj_W 3 101 3 207 [some (.ref 0), some (.ref 1), some (.ref 2), some (.ref 4), some (.ref 5), some (.int x5), some (.int x6), some (.int x7), some (.int x8), some (.int x9), some (.int x10), some (.int x11), some (.int x12), some (.int x13), some (.int x14), o15, o16, o17] [] M 0 K := by
  refine b101_207 ?_
  refine ⟨fun c1 => ?_, fun c1 => ?_⟩
  · have h1a := h.1 c1
    refine b101_313 ?_
    exact h1a
  · have h1a := h.2 c1
    refine b101_215 ?_
    refine ⟨fun c2 => ?_, fun c2 => ?_⟩
    · have h2a := h1a.1 c2
      refine b101_313 ?_
      exact h2a
    · have h2a := h1a.2 c2
      refine b101_220 ?_
      have g3 := h2a.1
      refine ⟨g3, ?_⟩
      have h3 := h2a.2
      refine ⟨fun c4 => ?_, fun c4 => ?_⟩
      · have h4a := h3.1 c4
        refine b101_307 ?_
        exact h4a
      · have h4a := h3.2 c4
        refine b101_234 ?_
        have g5 := h4a.1
        refine ⟨g5, ?_⟩
        have h5 := h4a.2
        refine ⟨fun c6 => ?_, fun c6 => ?_⟩
        · have h6a := h5.1 c6
          refine b101_307 ?_
          exact h6a
        · have h6a := h5.2 c6
          refine b101_247 ?_
          refine ⟨fun c7 => ?_, fun c7 => ?_⟩
          · have h7a := h6a.1 c7
            refine b101_304 ?_
            exact h7a
          · have h7a := h6a.2 c7
            refine b101_261 ?_
            refine ⟨g5, ?_⟩
            refine ⟨fun c8 => ?_, fun c8 => ?_⟩
            · have h8a := h7a.1 c8
              refine b101_304 ?_
              exact h8a
            · have h8a := h7a.2 c8
              refine b101_273 ?_
              have g9 := h8a.1
              refine ⟨g9, ?_⟩
              have h9 := h8a.2
              have g10 := h9.1
              refine ⟨g10, ?_⟩
              have h10 := h9.2
              refine ⟨fun c11 => ?_, fun c11 => ?_⟩
              · have h11a := h10.1 c11
                refine b101_304 ?_
                exact h11a
              · have h11a := h10.2 c11
                refine b101_290 ?_
                have g12 := h11a.1
                refine ⟨g12, ?_⟩
                have h12 := h11a.2
                refine ⟨fun c13 => ?_, fun c13 => ?_⟩
                · have h13a := h12.1 c13
                  refine b101_304 ?_
                  exact h13a
                · have h13a := h12.2 c13
                  refine b101_300 ?_
                  exact h13a

theorem t101_319 {M : mj_M} {K : mj_K} {x5 : Int32} {x6 : Int32} {x7 : Int32} {x8 : Int32} {x9 : Int32} {x10 : Int32} {x11 : Int32} {x12 : Int32} {x13 : Int32} {x14 : Int32} {x15 : Int32} {o16 : Option Value} {o17 : Option Value} (h : (M 4 4 ≤ x15 → vp_in (8 * x10) 64 ∧ vp_in (11 * x5 + 1) 55 ∧ ((¬ M 1 ((11 * x5 + 1).toNatClampNeg) = M 0 ((8 * x10).toNatClampNeg) → mj_W 3 101 3 389 [some (.ref 0), some (.ref 1), some (.ref 2), some (.ref 4), some (.ref 5), some (.int x5), some (.int x6), some (.int x7), some (.int x8), some (.int x9), some (.int x10), some (.int x11), some (.int x12), some (.int x13), some (.int x14), some (.int (M 0 ((8 * x10).toNatClampNeg))), o16, o17] [.int (M 1 ((11 * x5 + 1).toNatClampNeg))] M 0 K) ∧ (M 1 ((11 * x5 + 1).toNatClampNeg) = M 0 ((8 * x10).toNatClampNeg) → vp_in (11 * x5 + 2) 55 ∧ mj_W 3 101 3 389 [some (.ref 0), some (.ref 1), some (.ref 2), some (.ref 4), some (.ref 5), some (.int x5), some (.int x6), some (.int x7), some (.int x8), some (.int x9), some (.int x10), some (.int x11), some (.int x12), some (.int x13), some (.int x14), some (.int (M 0 ((8 * x10).toNatClampNeg))), o16, o17] [.int (M 1 ((11 * x5 + 2).toNatClampNeg))] M 0 K))) ∧ (¬ M 4 4 ≤ x15 → mj_W 3 101 3 319 [some (.ref 0), some (.ref 1), some (.ref 2), some (.ref 4), some (.ref 5), some (.int x5), some (.int x6), some (.int x7), some (.int x8), some (.int x9), some (.int x10), some (.int x11), some (.int x12), some (.int x13), some (.int (x14 + ((x12 >>> (x15 &&& 31)) &&& 1))), some (.int (x15 + 1)), o16, o17] [] M 0 K)) : mj_W 3 101 3 319 [some (.ref 0), some (.ref 1), some (.ref 2), some (.ref 4), some (.ref 5), some (.int x5), some (.int x6), some (.int x7), some (.int x8), some (.int x9), some (.int x10), some (.int x11), some (.int x12), some (.int x13), some (.int x14), some (.int x15), o16, o17] [] M 0 K := by
  refine b101_319 ?_
  refine ⟨fun c1 => ?_, fun c1 => ?_⟩
  · have h1a := h.1 c1
    refine b101_345 ?_
    have g2 := h1a.1
    refine ⟨g2, ?_⟩
    have h2 := h1a.2
    have g3 := h2.1
    refine ⟨g3, ?_⟩
    have h3 := h2.2
    refine ⟨fun c4 => ?_, fun c4 => ?_⟩
    · have h4a := h3.1 c4
      refine b101_380 ?_
      refine ⟨g3, ?_⟩
      exact h4a
    · have h4a := h3.2 c4
      refine b101_368 ?_
      have g5 := h4a.1
      refine ⟨g5, ?_⟩
      have h5 := h4a.2
      exact h5
  · have h1a := h.2 c1
    refine b101_327 ?_
    exact h1a

theorem t101_436 {M : mj_M} {K : mj_K} {x5 : Int32} {x6 : Int32} {x7 : Int32} {x8 : Int32} {x9 : Int32} {x10 : Int32} {x11 : Int32} {x12 : Int32} {x13 : Int32} {x14 : Int32} {x15 : Int32} {x16 : Int32} {x17 : Int32} (h : (M 4 4 ≤ x17 → mj_W 3 101 3 70 [some (.ref 0), some (.ref 1), some (.ref 2), some (.ref 4), some (.ref 5), some (.int x5), some (.int x6), some (.int x7), some (.int x8), some (.int x9), some (.int x10), some (.int x11), some (.int x12), some (.int x13), some (.int x14), some (.int x15), some (.int x16), some (.int x17)] [] M 0 K) ∧ (¬ M 4 4 ≤ x17 → (¬ (x12 >>> (x17 &&& 31)) &&& 1 = 1 → mj_W 3 101 3 436 [some (.ref 0), some (.ref 1), some (.ref 2), some (.ref 4), some (.ref 5), some (.int x5), some (.int x6), some (.int x7), some (.int x8), some (.int x9), some (.int x10), some (.int x11), some (.int x12), some (.int x13), some (.int x14), some (.int x15), some (.int x16), some (.int (x17 + 1))] [] M 0 K) ∧ ((x12 >>> (x17 &&& 31)) &&& 1 = 1 → vp_in (8 * x17) 64 ∧ vp_in (8 * x17 + 1) 64 ∧ vp_in (11 * x5 + 3) 55 ∧ vp_in (8 * x17 + 7) 64 ∧ vp_in (5 * x15 + 4) 30 ∧ vp_in (11 * x5 + 1) 55 ∧ ((¬ M 1 ((11 * x5 + 1).toNatClampNeg) = x15 → mj_W 3 101 3 536 [some (.ref 0), some (.ref 1), some (.ref 2), some (.ref 4), some (.ref 5), some (.int x5), some (.int x6), some (.int x7), some (.int x8), some (.int x9), some (.int x10), some (.int x11), some (.int x12), some (.int x13), some (.int x14), some (.int x15), some (.int x16), some (.int x17)] [.int 10, .int (11 * x5), .ref 1] (mj_u (mj_u (mj_u (mj_u M 0 ((8 * x17).toNatClampNeg) x16) 0 ((8 * x17 + 1).toNatClampNeg) 1) 0 ((8 * x17 + 7).toNatClampNeg) (M 4 0 + M 1 ((11 * x5 + 3).toNatClampNeg))) 2 ((5 * x15 + 4).toNatClampNeg) (M 2 ((5 * x15 + 4).toNatClampNeg) + 1)) 0 K) ∧ (M 1 ((11 * x5 + 1).toNatClampNeg) = x15 → mj_W 3 101 3 536 [some (.ref 0), some (.ref 1), some (.ref 2), some (.ref 4), some (.ref 5), some (.int x5), some (.int x6), some (.int x7), some (.int x8), some (.int x9), some (.int x10), some (.int x11), some (.int x12), some (.int x13), some (.int x14), some (.int x15), some (.int x16), some (.int x17)] [.int 9, .int (11 * x5), .ref 1] (mj_u (mj_u (mj_u (mj_u M 0 ((8 * x17).toNatClampNeg) x16) 0 ((8 * x17 + 1).toNatClampNeg) 1) 0 ((8 * x17 + 7).toNatClampNeg) (M 4 0 + M 1 ((11 * x5 + 3).toNatClampNeg))) 2 ((5 * x15 + 4).toNatClampNeg) (M 2 ((5 * x15 + 4).toNatClampNeg) + 1)) 0 K))))) : mj_W 3 101 3 436 [some (.ref 0), some (.ref 1), some (.ref 2), some (.ref 4), some (.ref 5), some (.int x5), some (.int x6), some (.int x7), some (.int x8), some (.int x9), some (.int x10), some (.int x11), some (.int x12), some (.int x13), some (.int x14), some (.int x15), some (.int x16), some (.int x17)] [] M 0 K := by
  refine b101_436 ?_
  refine ⟨fun c1 => ?_, fun c1 => ?_⟩
  · have h1a := h.1 c1
    refine b101_551 ?_
    exact h1a
  · have h1a := h.2 c1
    refine b101_444 ?_
    refine ⟨fun c2 => ?_, fun c2 => ?_⟩
    · have h2a := h1a.1 c2
      refine b101_545 ?_
      exact h2a
    · have h2a := h1a.2 c2
      refine b101_455 ?_
      have g3 := h2a.1
      refine ⟨g3, ?_⟩
      have h3 := h2a.2
      have g4 := h3.1
      refine ⟨g4, ?_⟩
      have h4 := h3.2
      have g5 := h4.1
      refine ⟨g5, ?_⟩
      have h5 := h4.2
      have g6 := h5.1
      refine ⟨g6, ?_⟩
      have h6 := h5.2
      have g7 := h6.1
      refine ⟨g7, ?_⟩
      have h7 := h6.2
      have g8 := h7.1
      refine ⟨g8, ?_⟩
      have h8 := h7.2
      refine ⟨fun c9 => ?_, fun c9 => ?_⟩
      · have h9a := h8.1 c9
        refine b101_534 ?_
        exact h9a
      · have h9a := h8.2 c9
        refine b101_529 ?_
        exact h9a

theorem t101_50 {M : mj_M} {K : mj_K} {x5 : Int32} {o6 : Option Value} {o7 : Option Value} {o8 : Option Value} {o9 : Option Value} {o10 : Option Value} {o11 : Option Value} {o12 : Option Value} {o13 : Option Value} {o14 : Option Value} {o15 : Option Value} {o16 : Option Value} {o17 : Option Value} {s0 : Int32} (h : (s0 ≤ 0 → mj_W 3 101 3 68 [some (.ref 0), some (.ref 1), some (.ref 2), some (.ref 4), some (.ref 5), some (.int x5), some (.int s0), some (.int 0), some (.int 0), o9, o10, o11, o12, o13, o14, o15, o16, o17] [.int 0] M 0 K) ∧ (¬ s0 ≤ 0 → mj_W 3 101 3 68 [some (.ref 0), some (.ref 1), some (.ref 2), some (.ref 4), some (.ref 5), some (.int x5), some (.int s0), some (.int 0), some (.int 0), o9, o10, o11, o12, o13, o14, o15, o16, o17] [.int 1] M 0 K)) : mj_W 3 101 3 50 [some (.ref 0), some (.ref 1), some (.ref 2), some (.ref 4), some (.ref 5), some (.int x5), o6, o7, o8, o9, o10, o11, o12, o13, o14, o15, o16, o17] [.int s0] M 0 K := by
  refine b101_50 ?_
  refine ⟨fun c1 => ?_, fun c1 => ?_⟩
  · have h1a := h.1 c1
    refine b101_67 ?_
    exact h1a
  · have h1a := h.2 c1
    refine b101_63 ?_
    exact h1a

theorem t101_68 {M : mj_M} {K : mj_K} {x5 : Int32} {x6 : Int32} {x7 : Int32} {x8 : Int32} {o9 : Option Value} {o10 : Option Value} {o11 : Option Value} {o12 : Option Value} {o13 : Option Value} {o14 : Option Value} {o15 : Option Value} {o16 : Option Value} {o17 : Option Value} {s0 : Int32} (h : mj_W 3 101 3 70 [some (.ref 0), some (.ref 1), some (.ref 2), some (.ref 4), some (.ref 5), some (.int x5), some (.int x6), some (.int x7), some (.int x8), some (.int s0), o10, o11, o12, o13, o14, o15, o16, o17] [] M 0 K) : mj_W 3 101 3 68 [some (.ref 0), some (.ref 1), some (.ref 2), some (.ref 4), some (.ref 5), some (.int x5), some (.int x6), some (.int x7), some (.int x8), o9, o10, o11, o12, o13, o14, o15, o16, o17] [.int s0] M 0 K := by
  refine b101_68 ?_
  exact h

theorem t101_126 {M : mj_M} {K : mj_K} {x5 : Int32} {x6 : Int32} {x7 : Int32} {x8 : Int32} {x9 : Int32} {x10 : Int32} {x11 : Int32} {o12 : Option Value} {o13 : Option Value} {o14 : Option Value} {o15 : Option Value} {o16 : Option Value} {o17 : Option Value} {s0 : Int32} (h : (s0 = 0 → mj_W 3 101 3 159 [some (.ref 0), some (.ref 1), some (.ref 2), some (.ref 4), some (.ref 5), some (.int x5), some (.int x6), some (.int x7), some (.int x8), some (.int x9), some (.int x10), some (.int x11), some (.int s0), o13, o14, o15, o16, o17] [.int x10] M 0 K) ∧ (¬ s0 = 0 → (x10 < 0 → mj_W 3 101 3 159 [some (.ref 0), some (.ref 1), some (.ref 2), some (.ref 4), some (.ref 5), some (.int x5), some (.int x6), some (.int x7), some (.int x8), some (.int x9), some (.int x10), some (.int x11), some (.int s0), o13, o14, o15, o16, o17] [.int x11] M 0 K) ∧ (¬ x10 < 0 → mj_Cm 100 1 [.ref 0, .ref 1, .int x11, .int x10, .int x5] (mj_v M 0) (mj_k2 3 101 3 149 [some (.ref 0), some (.ref 1), some (.ref 2), some (.ref 4), some (.ref 5), some (.int x5), some (.int x6), some (.int x7), some (.int x8), some (.int x9), some (.int x10), some (.int x11), some (.int s0), o13, o14, o15, o16, o17] [] M 0 5 0 (some .boolean) K)))) : mj_W 3 101 3 126 [some (.ref 0), some (.ref 1), some (.ref 2), some (.ref 4), some (.ref 5), some (.int x5), some (.int x6), some (.int x7), some (.int x8), some (.int x9), some (.int x10), some (.int x11), o12, o13, o14, o15, o16, o17] [.int s0] M 0 K := by
  refine b101_126 ?_
  refine ⟨fun c1 => ?_, fun c1 => ?_⟩
  · have h1a := h.1 c1
    refine b101_157 ?_
    exact h1a
  · have h1a := h.2 c1
    refine b101_133 ?_
    refine ⟨fun c2 => ?_, fun c2 => ?_⟩
    · have h2a := h1a.1 c2
      refine b101_152 ?_
      exact h2a
    · have h2a := h1a.2 c2
      refine b101_138 ?_
      exact h2a

theorem t101_159 {M : mj_M} {K : mj_K} {x5 : Int32} {x6 : Int32} {x7 : Int32} {x8 : Int32} {x9 : Int32} {x10 : Int32} {x11 : Int32} {x12 : Int32} {o13 : Option Value} {o14 : Option Value} {o15 : Option Value} {o16 : Option Value} {o17 : Option Value} {s0 : Int32} (h : mj_W 3 101 3 81 [some (.ref 0), some (.ref 1), some (.ref 2), some (.ref 4), some (.ref 5), some (.int x5), some (.int x6), some (.int x7), some (.int x8), some (.int x9), some (.int s0), some (.int (x11 + 1)), some (.int x12), o13, o14, o15, o16, o17] [] M 0 K) : mj_W 3 101 3 159 [some (.ref 0), some (.ref 1), some (.ref 2), some (.ref 4), some (.ref 5), some (.int x5), some (.int x6), some (.int x7), some (.int x8), some (.int x9), some (.int x10), some (.int x11), some (.int x12), o13, o14, o15, o16, o17] [.int s0] M 0 K := by
  refine b101_159 ?_
  exact h

theorem t101_177 {M : mj_M} {K : mj_K} {x5 : Int32} {x6 : Int32} {x7 : Int32} {x8 : Int32} {x9 : Int32} {x10 : Int32} {x11 : Int32} {o12 : Option Value} {o13 : Option Value} {o14 : Option Value} {o15 : Option Value} {o16 : Option Value} {o17 : Option Value} {s0 : Int32} (h : (s0 = 0 → mj_W 3 101 3 70 [some (.ref 0), some (.ref 1), some (.ref 2), some (.ref 4), some (.ref 5), some (.int x5), some (.int x6), some (.int x7), some (.int x8), some (.int s0), some (.int x10), some (.int x11), o12, o13, o14, o15, o16, o17] [] M 0 K) ∧ (¬ s0 = 0 → vp_in (8 * x10 + 4) 64 ∧ mj_W 3 101 3 207 [some (.ref 0), some (.ref 1), some (.ref 2), some (.ref 4), some (.ref 5), some (.int x5), some (.int x6), some (.int x7), some (.int x8), some (.int s0), some (.int x10), some (.int (M 0 ((8 * x10 + 4).toNatClampNeg))), some (.int (1 <<< (x10 &&& 31))), some (.int 1), some (.int 0), o15, o16, o17] [] M 0 K)) : mj_W 3 101 3 177 [some (.ref 0), some (.ref 1), some (.ref 2), some (.ref 4), some (.ref 5), some (.int x5), some (.int x6), some (.int x7), some (.int x8), some (.int x9), some (.int x10), some (.int x11), o12, o13, o14, o15, o16, o17] [.int s0] M 0 K := by
  refine b101_177 ?_
  refine ⟨fun c1 => ?_, fun c1 => ?_⟩
  · have h1a := h.1 c1
    refine b101_551 ?_
    exact h1a
  · have h1a := h.2 c1
    refine b101_184 ?_
    have g2 := h1a.1
    refine ⟨g2, ?_⟩
    have h2 := h1a.2
    exact h2

theorem t101_305 {M : mj_M} {K : mj_K} {x5 : Int32} {x6 : Int32} {x7 : Int32} {x8 : Int32} {x9 : Int32} {x10 : Int32} {x11 : Int32} {x12 : Int32} {x13 : Int32} {x14 : Int32} {o15 : Option Value} {o16 : Option Value} {o17 : Option Value} {s0 : Int32} (h : mj_W 3 101 3 207 [some (.ref 0), some (.ref 1), some (.ref 2), some (.ref 4), some (.ref 5), some (.int x5), some (.int x6), some (.int x7), some (.int x8), some (.int x9), some (.int x10), some (.int x11), some (.int x12), some (.int s0), some (.int (x14 + 1)), o15, o16, o17] [] M 0 K) : mj_W 3 101 3 305 [some (.ref 0), some (.ref 1), some (.ref 2), some (.ref 4), some (.ref 5), some (.int x5), some (.int x6), some (.int x7), some (.int x8), some (.int x9), some (.int x10), some (.int x11), some (.int x12), some (.int x13), some (.int x14), o15, o16, o17] [.int s0] M 0 K := by
  refine b101_305 ?_
  refine b101_307 ?_
  exact h

theorem t101_389 {M : mj_M} {K : mj_K} {x5 : Int32} {x6 : Int32} {x7 : Int32} {x8 : Int32} {x9 : Int32} {x10 : Int32} {x11 : Int32} {x12 : Int32} {x13 : Int32} {x14 : Int32} {x15 : Int32} {o16 : Option Value} {o17 : Option Value} {s0 : Int32} (h : (x13 = 0 → mj_W 3 101 3 70 [some (.ref 0), some (.ref 1), some (.ref 2), some (.ref 4), some (.ref 5), some (.int x5), some (.int x6), some (.int x7), some (.int (x8 ||| (1 <<< (x10 &&& 31)))), some (.int x9), some (.int x10), some (.int x11), some (.int x12), some (.int x13), some (.int x14), some (.int x15), some (.int s0), o17] [] M 0 K) ∧ (¬ x13 = 0 → mj_Cm 96 2 [.ref 0, .ref 2, .ref 4, .int s0] (mj_v M 0) (mj_k2 3 101 3 413 [some (.ref 0), some (.ref 1), some (.ref 2), some (.ref 4), some (.ref 5), some (.int x5), some (.int x6), some (.int x7), some (.int (x8 ||| (1 <<< (x10 &&& 31)))), some (.int x9), some (.int x10), some (.int x11), some (.int x12), some (.int x13), some (.int x14), some (.int x15), some (.int s0), o17] [] M 0 5 0 (some .int) K))) : mj_W 3 101 3 389 [some (.ref 0), some (.ref 1), some (.ref 2), some (.ref 4), some (.ref 5), some (.int x5), some (.int x6), some (.int x7), some (.int x8), some (.int x9), some (.int x10), some (.int x11), some (.int x12), some (.int x13), some (.int x14), some (.int x15), o16, o17] [.int s0] M 0 K := by
  refine b101_389 ?_
  refine ⟨fun c1 => ?_, fun c1 => ?_⟩
  · have h1a := h.1 c1
    refine b101_551 ?_
    exact h1a
  · have h1a := h.2 c1
    refine b101_405 ?_
    exact h1a

theorem t101_536 {M : mj_M} {K : mj_K} {x5 : Int32} {x6 : Int32} {x7 : Int32} {x8 : Int32} {x9 : Int32} {x10 : Int32} {x11 : Int32} {x12 : Int32} {x13 : Int32} {x14 : Int32} {x15 : Int32} {x16 : Int32} {x17 : Int32} {s1 : Int32} {s2 : Int32} (h : vp_in (s1 + s2) 55 ∧ mj_W 3 101 3 436 [some (.ref 0), some (.ref 1), some (.ref 2), some (.ref 4), some (.ref 5), some (.int x5), some (.int x6), some (.int (x7 + 1)), some (.int x8), some (.int x9), some (.int x10), some (.int x11), some (.int x12), some (.int x13), some (.int x14), some (.int x15), some (.int x16), some (.int (x17 + 1))] [] (mj_u M 1 ((s1 + s2).toNatClampNeg) (M 1 ((s1 + s2).toNatClampNeg) + 1)) 0 K) : mj_W 3 101 3 536 [some (.ref 0), some (.ref 1), some (.ref 2), some (.ref 4), some (.ref 5), some (.int x5), some (.int x6), some (.int x7), some (.int x8), some (.int x9), some (.int x10), some (.int x11), some (.int x12), some (.int x13), some (.int x14), some (.int x15), some (.int x16), some (.int x17)] [.int s2, .int s1, .ref 1] M 0 K := by
  refine b101_536 ?_
  have g1 := h.1
  refine ⟨g1, ?_⟩
  have h1 := h.2
  refine b101_545 ?_
  exact h1

theorem t101_149 {M : mj_M} {K : mj_K} {x5 : Int32} {x6 : Int32} {x7 : Int32} {x8 : Int32} {x9 : Int32} {x10 : Int32} {x11 : Int32} {x12 : Int32} {o13 : Option Value} {o14 : Option Value} {o15 : Option Value} {o16 : Option Value} {o17 : Option Value} {s0 : Int32} (h : (s0 = 0 → mj_W 3 101 3 159 [some (.ref 0), some (.ref 1), some (.ref 2), some (.ref 4), some (.ref 5), some (.int x5), some (.int x6), some (.int x7), some (.int x8), some (.int x9), some (.int x10), some (.int x11), some (.int x12), o13, o14, o15, o16, o17] [.int x10] M 0 K) ∧ (¬ s0 = 0 → mj_W 3 101 3 159 [some (.ref 0), some (.ref 1), some (.ref 2), some (.ref 4), some (.ref 5), some (.int x5), some (.int x6), some (.int x7), some (.int x8), some (.int x9), some (.int x10), some (.int x11), some (.int x12), o13, o14, o15, o16, o17] [.int x11] M 0 K)) : mj_W 3 101 3 149 [some (.ref 0), some (.ref 1), some (.ref 2), some (.ref 4), some (.ref 5), some (.int x5), some (.int x6), some (.int x7), some (.int x8), some (.int x9), some (.int x10), some (.int x11), some (.int x12), o13, o14, o15, o16, o17] [.int s0] M 0 K := by
  refine b101_149 ?_
  refine ⟨fun c1 => ?_, fun c1 => ?_⟩
  · have h1a := h.1 c1
    refine b101_157 ?_
    exact h1a
  · have h1a := h.2 c1
    refine b101_152 ?_
    exact h1a

theorem t101_413 {M : mj_M} {K : mj_K} {x5 : Int32} {x6 : Int32} {x7 : Int32} {x8 : Int32} {x9 : Int32} {x10 : Int32} {x11 : Int32} {x12 : Int32} {x13 : Int32} {x14 : Int32} {x15 : Int32} {x16 : Int32} {o17 : Option Value} {s0 : Int32} (h : (s0 < x14 → mj_W 3 101 3 70 [some (.ref 0), some (.ref 1), some (.ref 2), some (.ref 4), some (.ref 5), some (.int x5), some (.int x6), some (.int x7), some (.int x8), some (.int x9), some (.int x10), some (.int x11), some (.int x12), some (.int x13), some (.int x14), some (.int x15), some (.int x16), o17] [] M 0 K) ∧ (¬ s0 < x14 → (x7 = 0 → mj_W 3 101 3 436 [some (.ref 0), some (.ref 1), some (.ref 2), some (.ref 4), some (.ref 5), some (.int x5), some (.int x6), some (.int x7), some (.int x8), some (.int x9), some (.int x10), some (.int x11), some (.int x12), some (.int x13), some (.int x14), some (.int x15), some (.int x16), some (.int 0)] [] M 0 K) ∧ (¬ x7 = 0 → (x6 < x7 + x14 → mj_W 3 101 3 70 [some (.ref 0), some (.ref 1), some (.ref 2), some (.ref 4), some (.ref 5), some (.int x5), some (.int x6), some (.int x7), some (.int x8), some (.int x9), some (.int x10), some (.int x11), some (.int x12), some (.int x13), some (.int x14), some (.int x15), some (.int x16), o17] [] M 0 K) ∧ (¬ x6 < x7 + x14 → mj_W 3 101 3 436 [some (.ref 0), some (.ref 1), some (.ref 2), some (.ref 4), some (.ref 5), some (.int x5), some (.int x6), some (.int x7), some (.int x8), some (.int x9), some (.int x10), some (.int x11), some (.int x12), some (.int x13), some (.int x14), some (.int x15), some (.int x16), some (.int 0)] [] M 0 K)))) : mj_W 3 101 3 413 [some (.ref 0), some (.ref 1), some (.ref 2), some (.ref 4), some (.ref 5), some (.int x5), some (.int x6), some (.int x7), some (.int x8), some (.int x9), some (.int x10), some (.int x11), some (.int x12), some (.int x13), some (.int x14), some (.int x15), some (.int x16), o17] [.int s0] M 0 K := by
  refine b101_413 ?_
  refine ⟨fun c1 => ?_, fun c1 => ?_⟩
  · have h1a := h.1 c1
    refine b101_551 ?_
    exact h1a
  · have h1a := h.2 c1
    refine b101_418 ?_
    refine ⟨fun c2 => ?_, fun c2 => ?_⟩
    · have h2a := h1a.1 c2
      refine b101_433 ?_
      exact h2a
    · have h2a := h1a.2 c2
      refine b101_423 ?_
      refine ⟨fun c3 => ?_, fun c3 => ?_⟩
      · have h3a := h2a.1 c3
        refine b101_551 ?_
        exact h3a
      · have h3a := h2a.2 c3
        refine b101_433 ?_
        exact h3a

theorem t102_0 {M : mj_M} {K : mj_K}  (h : mj_W 1 102 4 11 [some (.ref 0), some (.ref 1), some (.ref 2), some (.ref 3), some (.ref 4), some (.int 0), none, none, none] [] (mj_u M 4 0 (M 4 0 + 1)) 0 K) : mj_W 1 102 4 0 [some (.ref 0), some (.ref 1), some (.ref 2), some (.ref 3), some (.ref 4), none, none, none, none] [] M 0 K := by
  refine b102_0 ?_
  exact h
theorem e102 {M : mj_M} {K : mj_K}  (h : mj_W 1 102 4 11 [some (.ref 0), some (.ref 1), some (.ref 2), some (.ref 3), some (.ref 4), some (.int 0), none, none, none] [] (mj_u M 4 0 (M 4 0 + 1)) 0 K) : mj_Cm 102 4 [.ref 0, .ref 1, .ref 2, .ref 3, .ref 4] M K := mj_en rfl rfl rfl (t102_0 h)

theorem t102_11 {M : mj_M} {K : mj_K} {x5 : Int32} {o6 : Option Value} {o7 : Option Value} {o8 : Option Value} (h : (M 4 4 ≤ x5 → mj_W 1 102 4 68 [some (.ref 0), some (.ref 1), some (.ref 2), some (.ref 3), some (.ref 4), some (.int 0), o6, o7, o8] [] M 0 K) ∧ (¬ M 4 4 ≤ x5 → vp_in (8 * x5 + 1) 64 ∧ ((¬ M 0 ((8 * x5 + 1).toNatClampNeg) = 1 → mj_W 1 102 4 11 [some (.ref 0), some (.ref 1), some (.ref 2), some (.ref 3), some (.ref 4), some (.int (x5 + 1)), o6, o7, o8] [] M 0 K) ∧ (M 0 ((8 * x5 + 1).toNatClampNeg) = 1 → vp_in (8 * x5 + 7) 64 ∧ ((¬ M 0 ((8 * x5 + 7).toNatClampNeg) = M 4 0 → mj_W 1 102 4 11 [some (.ref 0), some (.ref 1), some (.ref 2), some (.ref 3), some (.ref 4), some (.int (x5 + 1)), o6, o7, o8] [] M 0 K) ∧ (M 0 ((8 * x5 + 7).toNatClampNeg) = M 4 0 → mj_Cm 98 2 [.ref 0, .ref 2, .ref 4, .int x5] M (mj_k 1 102 4 59 [some (.ref 0), some (.ref 1), some (.ref 2), some (.ref 3), some (.ref 4), some (.int x5), o6, o7, o8] [] 0 none K))))))) : mj_W 1 102 4 11 [some (.ref 0), some (.ref 1), some (.ref 2), some (.ref 3), some (.ref 4), some (.int x5), o6, o7, o8] [] M 0 K := by
  refine b102_11 ?_
  refine ⟨fun c1 => ?_, fun c1 => ?_⟩
  · have h1a := h.1 c1
    refine b102_65 ?_
    exact h1a
  · have h1a := h.2 c1
    refine b102_20 ?_
    have g2 := h1a.1
    refine ⟨g2, ?_⟩
    have h2 := h1a.2
    refine ⟨fun c3 => ?_, fun c3 => ?_⟩
    · have h3a := h2.1 c3
      refine b102_59 ?_
      exact h3a
    · have h3a := h2.2 c3
      refine b102_33 ?_
      have g4 := h3a.1
      refine ⟨g4, ?_⟩
      have h4 := h3a.2
      refine ⟨fun c5 => ?_, fun c5 => ?_⟩
      · have h5a := h4.1 c5
        refine b102_59 ?_
        exact h5a
      · have h5a := h4.2 c5
        refine b102_50 ?_
        exact h5a

theorem t102_68 {M : mj_M} {K : mj_K} {x5 : Int32} {o6 : Option Value} {o7 : Option Value} {o8 : Option Value} (h : (M 4 5 ≤ x5 → mj_W 3 102 4 114 [some (.ref 0), some (.ref 1), some (.ref 2), some (.ref 3), some (.ref 4), some (.ref 5), some (.int 0), mj_fo 5 o7, mj_fo 5 o8] [] (mj_z0 M 5) 1 K) ∧ (¬ M 4 5 ≤ x5 → vp_in (6 * x5 + 4) 18 ∧ ((M 3 ((6 * x5 + 4).toNatClampNeg) ≤ 0 → mj_W 1 102 4 68 [some (.ref 0), some (.ref 1), some (.ref 2), some (.ref 3), some (.ref 4), some (.int (x5 + 1)), o6, o7, o8] [] M 0 K) ∧ (¬ M 3 ((6 * x5 + 4).toNatClampNeg) ≤ 0 → mj_Cm 99 1 [.ref 0, .ref 2, .ref 3, .ref 4, .int x5] M (mj_k 1 102 4 99 [some (.ref 0), some (.ref 1), some (.ref 2), some (.ref 3), some (.ref 4), some (.int x5), o6, o7, o8] [] 0 none K))))) : mj_W 1 102 4 68 [some (.ref 0), some (.ref 1), some (.ref 2), some (.ref 3), some (.ref 4), some (.int x5), o6, o7, o8] [] M 0 K := by
  refine b102_68 ?_
  refine ⟨fun c1 => ?_, fun c1 => ?_⟩
  · have h1a := h.1 c1
    refine b102_105 ?_
    refine b102_109 ?_
    exact h1a
  · have h1a := h.2 c1
    refine b102_77 ?_
    have g2 := h1a.1
    refine ⟨g2, ?_⟩
    have h2 := h1a.2
    refine ⟨fun c3 => ?_, fun c3 => ?_⟩
    · have h3a := h2.1 c3
      refine b102_99 ?_
      exact h3a
    · have h3a := h2.2 c3
      refine b102_89 ?_
      exact h3a

theorem t102_114 {M : mj_M} {K : mj_K} {x6 : Int32} {o7 : Option Value} {o8 : Option Value} (h : (M 4 4 ≤ x6 → mj_W 3 102 4 146 [some (.ref 0), some (.ref 1), some (.ref 2), some (.ref 3), some (.ref 4), some (.ref 5), some (.int 0), o7, o8] [] M 1 K) ∧ (¬ M 4 4 ≤ x6 → mj_Cm 94 3 [.ref 0, .ref 1, .ref 4, .int x6] (mj_v M 0) (mj_k2 3 102 4 136 [some (.ref 0), some (.ref 1), some (.ref 2), some (.ref 3), some (.ref 4), some (.ref 5), some (.int x6), o7, o8] [.int x6, .ref 5] M 0 5 1 (some .int) K))) : mj_W 3 102 4 114 [some (.ref 0), some (.ref 1), some (.ref 2), some (.ref 3), some (.ref 4), some (.ref 5), some (.int x6), o7, o8] [] M 1 K := by
  refine b102_114 ?_
  refine ⟨fun c1 => ?_, fun c1 => ?_⟩
  · have h1a := h.1 c1
    refine b102_143 ?_
    exact h1a
  · have h1a := h.2 c1
    refine b102_123 ?_
    exact h1a

theorem t102_146 {M : mj_M} {K : mj_K} {x6 : Int32} {o7 : Option Value} {o8 : Option Value} (h : (M 4 4 ≤ x6 → mj_W 3 102 4 204 [some (.ref 0), some (.ref 1), some (.ref 2), some (.ref 3), some (.ref 4), some (.ref 5), some (.int 0), o7, o8] [] M 1 K) ∧ (¬ M 4 4 ≤ x6 → vp_in x6 8 ∧ ((M 5 x6.toNatClampNeg < 0 → mj_W 3 102 4 146 [some (.ref 0), some (.ref 1), some (.ref 2), some (.ref 3), some (.ref 4), some (.ref 5), some (.int (x6 + 1)), o7, o8] [] M 1 K) ∧ (¬ M 5 x6.toNatClampNeg < 0 → vp_in (11 * M 5 x6.toNatClampNeg + 5) 55 ∧ ((¬ M 1 ((11 * M 5 x6.toNatClampNeg + 5).toNatClampNeg) = 1 → mj_W 3 102 4 146 [some (.ref 0), some (.ref 1), some (.ref 2), some (.ref 3), some (.ref 4), some (.ref 5), some (.int (x6 + 1)), o7, o8] [] M 1 K) ∧ (M 1 ((11 * M 5 x6.toNatClampNeg + 5).toNatClampNeg) = 1 → vp_in (8 * x6 + 5) 64 ∧ mj_W 3 102 4 146 [some (.ref 0), some (.ref 1), some (.ref 2), some (.ref 3), some (.ref 4), some (.ref 5), some (.int (x6 + 1)), o7, o8] [] (mj_u (mj_u M 0 ((8 * x6 + 5).toNatClampNeg) 1) 5 x6.toNatClampNeg (-1)) 1 K)))))) : mj_W 3 102 4 146 [some (.ref 0), some (.ref 1), some (.ref 2), some (.ref 3), some (.ref 4), some (.ref 5), some (.int x6), o7, o8] [] M 1 K := by
  refine b102_146 ?_
  refine ⟨fun c1 => ?_, fun c1 => ?_⟩
  · have h1a := h.1 c1
    refine b102_201 ?_
    exact h1a
  · have h1a := h.2 c1
    refine b102_155 ?_
    have g2 := h1a.1
    refine ⟨g2, ?_⟩
    have h2 := h1a.2
    refine ⟨fun c3 => ?_, fun c3 => ?_⟩
    · have h3a := h2.1 c3
      refine b102_195 ?_
      exact h3a
    · have h3a := h2.2 c3
      refine b102_163 ?_
      refine ⟨g2, ?_⟩
      have g4 := h3a.1
      refine ⟨g4, ?_⟩
      have h4 := h3a.2
      refine ⟨fun c5 => ?_, fun c5 => ?_⟩
      · have h5a := h4.1 c5
        refine b102_195 ?_
        exact h5a
      · have h5a := h4.2 c5
        refine b102_179 ?_
        have g6 := h5a.1
        refine ⟨g6, ?_⟩
        have h6 := h5a.2
        refine ⟨g2, ?_⟩
        refine b102_195 ?_
        exact h6

theorem t102_204 {M : mj_M} {K : mj_K} {x6 : Int32} {o7 : Option Value} {o8 : Option Value} (h : (M 4 3 ≤ x6 → mj_W 3 102 4 246 [some (.ref 0), some (.ref 1), some (.ref 2), some (.ref 3), some (.ref 4), some (.ref 5), some (.int 0), o7, o8] [] M 1 K) ∧ (¬ M 4 3 ≤ x6 → vp_in (11 * x6 + 5) 55 ∧ ((¬ M 1 ((11 * x6 + 5).toNatClampNeg) = 0 → mj_W 3 102 4 204 [some (.ref 0), some (.ref 1), some (.ref 2), some (.ref 3), some (.ref 4), some (.ref 5), some (.int (x6 + 1)), o7, o8] [] M 1 K) ∧ (M 1 ((11 * x6 + 5).toNatClampNeg) = 0 → mj_Cm 101 3 [.ref 0, .ref 1, .ref 2, .ref 4, .ref 5, .int x6] M (mj_k 3 102 4 237 [some (.ref 0), some (.ref 1), some (.ref 2), some (.ref 3), some (.ref 4), some (.ref 5), some (.int x6), o7, o8] [] 1 none K))))) : mj_W 3 102 4 204 [some (.ref 0), some (.ref 1), some (.ref 2), some (.ref 3), some (.ref 4), some (.ref 5), some (.int x6), o7, o8] [] M 1 K := by
  refine b102_204 ?_
  refine ⟨fun c1 => ?_, fun c1 => ?_⟩
  · have h1a := h.1 c1
    refine b102_243 ?_
    exact h1a
  · have h1a := h.2 c1
    refine b102_213 ?_
    have g2 := h1a.1
    refine ⟨g2, ?_⟩
    have h2 := h1a.2
    refine ⟨fun c3 => ?_, fun c3 => ?_⟩
    · have h3a := h2.1 c3
      refine b102_237 ?_
      exact h3a
    · have h3a := h2.2 c3
      refine b102_225 ?_
      exact h3a

theorem t102_246 {M : mj_M} {K : mj_K} {x6 : Int32} {o7 : Option Value} {o8 : Option Value} (h : (M 4 2 ≤ x6 → K 0 0 M) ∧ (¬ M 4 2 ≤ x6 → mj_Cm 95 1 [.ref 0, .ref 4, .int x6, .int 0] (mj_v M 0) (mj_k2 3 102 4 266 [some (.ref 0), some (.ref 1), some (.ref 2), some (.ref 3), some (.ref 4), some (.ref 5), some (.int x6), o7, o8] [.int 10] M 0 5 1 (some .int) K))) : mj_W 3 102 4 246 [some (.ref 0), some (.ref 1), some (.ref 2), some (.ref 3), some (.ref 4), some (.ref 5), some (.int x6), o7, o8] [] M 1 K := by
  refine b102_246 ?_
  refine ⟨fun c1 => ?_, fun c1 => ?_⟩
  · have h1a := h.1 c1
    refine b102_338 ?_
    exact h1a
  · have h1a := h.2 c1
    refine b102_255 ?_
    exact h1a

theorem t102_305 {M : mj_M} {K : mj_K} {x6 : Int32} {x7 : Int32} {x8 : Int32} {s1 : Int32} (h : mj_W 3 102 4 331 [some (.ref 0), some (.ref 1), some (.ref 2), some (.ref 3), some (.ref 4), some (.ref 5), some (.int x6), some (.int x7), some (.int x8)] [.int 0, .int s1, .ref 2] M 1 K) : mj_W 3 102 4 305 [some (.ref 0), some (.ref 1), some (.ref 2), some (.ref 3), some (.ref 4), some (.ref 5), some (.int x6), some (.int x7), some (.int x8)] [.int s1, .ref 2] M 1 K := by
  refine b102_305 ?_
  exact h

theorem t102_331 {M : mj_M} {K : mj_K} {x6 : Int32} {x7 : Int32} {x8 : Int32} {s1 : Int32} {s2 : Int32} (h : vp_in s1 30 ∧ mj_W 3 102 4 246 [some (.ref 0), some (.ref 1), some (.ref 2), some (.ref 3), some (.ref 4), some (.ref 5), some (.int (x6 + 1)), some (.int x7), some (.int x8)] [] (mj_u M 2 s1.toNatClampNeg s2) 1 K) : mj_W 3 102 4 331 [some (.ref 0), some (.ref 1), some (.ref 2), some (.ref 3), some (.ref 4), some (.ref 5), some (.int x6), some (.int x7), some (.int x8)] [.int s2, .int s1, .ref 2] M 1 K := by
  refine b102_331 ?_
  have g1 := h.1
  refine ⟨g1, ?_⟩
  have h1 := h.2
  exact h1

theorem t102_59 {M : mj_M} {K : mj_K} {x5 : Int32} {o6 : Option Value} {o7 : Option Value} {o8 : Option Value} (h : mj_W 1 102 4 11 [some (.ref 0), some (.ref 1), some (.ref 2), some (.ref 3), some (.ref 4), some (.int (x5 + 1)), o6, o7, o8] [] M 0 K) : mj_W 1 102 4 59 [some (.ref 0), some (.ref 1), some (.ref 2), some (.ref 3), some (.ref 4), some (.int x5), o6, o7, o8] [] M 0 K := by
  refine b102_59 ?_
  exact h

theorem t102_99 {M : mj_M} {K : mj_K} {x5 : Int32} {o6 : Option Value} {o7 : Option Value} {o8 : Option Value} (h : mj_W 1 102 4 68 [some (.ref 0), some (.ref 1), some (.ref 2), some (.ref 3), some (.ref 4), some (.int (x5 + 1)), o6, o7, o8] [] M 0 K) : mj_W 1 102 4 99 [some (.ref 0), some (.ref 1), some (.ref 2), some (.ref 3), some (.ref 4), some (.int x5), o6, o7, o8] [] M 0 K := by
  refine b102_99 ?_
  exact h

theorem t102_136 {M : mj_M} {K : mj_K} {x6 : Int32} {o7 : Option Value} {o8 : Option Value} {s1 : Int32} {s2 : Int32} (h : vp_in s1 8 ∧ mj_W 3 102 4 114 [some (.ref 0), some (.ref 1), some (.ref 2), some (.ref 3), some (.ref 4), some (.ref 5), some (.int (x6 + 1)), o7, o8] [] (mj_u M 5 s1.toNatClampNeg s2) 1 K) : mj_W 3 102 4 136 [some (.ref 0), some (.ref 1), some (.ref 2), some (.ref 3), some (.ref 4), some (.ref 5), some (.int x6), o7, o8] [.int s2, .int s1, .ref 5] M 1 K := by
  refine b102_136 ?_
  have g1 := h.1
  refine ⟨g1, ?_⟩
  have h1 := h.2
  exact h1

theorem t102_237 {M : mj_M} {K : mj_K} {x6 : Int32} {o7 : Option Value} {o8 : Option Value} (h : mj_W 3 102 4 204 [some (.ref 0), some (.ref 1), some (.ref 2), some (.ref 3), some (.ref 4), some (.ref 5), some (.int (x6 + 1)), o7, o8] [] M 1 K) : mj_W 3 102 4 237 [some (.ref 0), some (.ref 1), some (.ref 2), some (.ref 3), some (.ref 4), some (.ref 5), some (.int x6), o7, o8] [] M 1 K := by
  refine b102_237 ?_
  exact h

theorem t102_266 {M : mj_M} {K : mj_K} {x6 : Int32} {o7 : Option Value} {o8 : Option Value} {s0 : Int32} {s1 : Int32} (h : vp_in (5 * x6 + 1) 30 ∧ vp_in (5 * x6) 30 ∧ ((M 2 ((5 * x6).toNatClampNeg) = 0 → mj_W 3 102 4 305 [some (.ref 0), some (.ref 1), some (.ref 2), some (.ref 3), some (.ref 4), some (.ref 5), some (.int x6), some (.int (s0 * s1)), some (.int (M 2 ((5 * x6 + 1).toNatClampNeg)))] [.int (5 * x6 + 2), .ref 2] M 1 K) ∧ (¬ M 2 ((5 * x6).toNatClampNeg) = 0 → (7 * M 2 ((5 * x6 + 1).toNatClampNeg) < s0 * s1 → (s0 * s1 < 9 * M 2 ((5 * x6 + 1).toNatClampNeg) → vp_in (5 * x6 + 2) 30 ∧ mj_W 3 102 4 331 [some (.ref 0), some (.ref 1), some (.ref 2), some (.ref 3), some (.ref 4), some (.ref 5), some (.int x6), some (.int (s0 * s1)), some (.int (M 2 ((5 * x6 + 1).toNatClampNeg)))] [.int (M 2 ((5 * x6 + 2).toNatClampNeg)), .int (5 * x6 + 2), .ref 2] M 1 K) ∧ (¬ s0 * s1 < 9 * M 2 ((5 * x6 + 1).toNatClampNeg) → mj_W 3 102 4 331 [some (.ref 0), some (.ref 1), some (.ref 2), some (.ref 3), some (.ref 4), some (.ref 5), some (.int x6), some (.int (s0 * s1)), some (.int (M 2 ((5 * x6 + 1).toNatClampNeg)))] [.int 1, .int (5 * x6 + 2), .ref 2] M 1 K)) ∧ (¬ 7 * M 2 ((5 * x6 + 1).toNatClampNeg) < s0 * s1 → mj_W 3 102 4 305 [some (.ref 0), some (.ref 1), some (.ref 2), some (.ref 3), some (.ref 4), some (.ref 5), some (.int x6), some (.int (s0 * s1)), some (.int (M 2 ((5 * x6 + 1).toNatClampNeg)))] [.int (5 * x6 + 2), .ref 2] M 1 K)))) : mj_W 3 102 4 266 [some (.ref 0), some (.ref 1), some (.ref 2), some (.ref 3), some (.ref 4), some (.ref 5), some (.int x6), o7, o8] [.int s1, .int s0] M 1 K := by
  refine b102_266 ?_
  have g1 := h.1
  refine ⟨g1, ?_⟩
  have h1 := h.2
  have g2 := h1.1
  refine ⟨g2, ?_⟩
  have h2 := h1.2
  refine ⟨fun c3 => ?_, fun c3 => ?_⟩
  · have h3a := h2.1 c3
    exact h3a
  · have h3a := h2.2 c3
    refine b102_295 ?_
    refine ⟨fun c4 => ?_, fun c4 => ?_⟩
    · have h4a := h3a.1 c4
      refine b102_309 ?_
      refine ⟨fun c5 => ?_, fun c5 => ?_⟩
      · have h5a := h4a.1 c5
        refine b102_323 ?_
        have g6 := h5a.1
        refine ⟨g6, ?_⟩
        have h6 := h5a.2
        exact h6
      · have h5a := h4a.2 c5
        refine b102_319 ?_
        exact h5a
    · have h4a := h3a.2 c4
      exact h4a

theorem t103_0 {M : mj_M} {K : mj_K}  (h : mj_W 1 103 3 10 [some (.ref 0), some (.ref 1), some (.ref 2), some (.ref 4), some (.int 0), some (.int 0), none, none, none, none] [] (mj_u M 4 1 1) 0 K) : mj_W 1 103 3 0 [some (.ref 0), some (.ref 1), some (.ref 2), some (.ref 4), none, none, none, none, none, none] [] M 0 K := by
  refine b103_0 ?_
  exact h
theorem e103 {M : mj_M} {K : mj_K}  (h : mj_W 1 103 3 10 [some (.ref 0), some (.ref 1), some (.ref 2), some (.ref 4), some (.int 0), some (.int 0), none, none, none, none] [] (mj_u M 4 1 1) 0 K) : mj_Cm 103 3 [.ref 0, .ref 1, .ref 2, .ref 4] M K := mj_en rfl rfl rfl (t103_0 h)

theorem t103_10 {M : mj_M} {K : mj_K} {x4 : Int32} {x5 : Int32} {o6 : Option Value} {o7 : Option Value} {o8 : Option Value} {o9 : Option Value} (h : (M 4 4 ≤ x5 → K 0 x4 M) ∧ (¬ M 4 4 ≤ x5 → vp_in (8 * x5 + 1) 64 ∧ ((2 ≤ M 0 ((8 * x5 + 1).toNatClampNeg) → vp_in (8 * x5 + 6) 64 ∧ mj_W 1 103 3 10 [some (.ref 0), some (.ref 1), some (.ref 2), some (.ref 4), some (.int x4), some (.int (x5 + 1)), o6, o7, o8, o9] [] (mj_u M 0 ((8 * x5 + 6).toNatClampNeg) 0) 0 K) ∧ (¬ 2 ≤ M 0 ((8 * x5 + 1).toNatClampNeg) → mj_W 1 103 3 44 [some (.ref 0), some (.ref 1), some (.ref 2), some (.ref 4), some (.int x4), some (.int x5), some (.int (-1)), some (.int (-1)), some (.int (M 4 2 - 1)), o9] [] M 0 K)))) : mj_W 1 103 3 10 [some (.ref 0), some (.ref 1), some (.ref 2), some (.ref 4), some (.int x4), some (.int x5), o6, o7, o8, o9] [] M 0 K := by
  refine b103_10 ?_
  refine ⟨fun c1 => ?_, fun c1 => ?_⟩
  · have h1a := h.1 c1
    refine b103_220 ?_
    exact h1a
  · have h1a := h.2 c1
    refine b103_18 ?_
    have g2 := h1a.1
    refine ⟨g2, ?_⟩
    have h2 := h1a.2
    refine ⟨fun c3 => ?_, fun c3 => ?_⟩
    · have h3a := h2.1 c3
      refine b103_203 ?_
      have g4 := h3a.1
      refine ⟨g4, ?_⟩
      have h4 := h3a.2
      exact h4
    · have h3a := h2.2 c3
      refine b103_31 ?_
      exact h3a

theorem t103_44 {M : mj_M} {K : mj_K} {x4 : Int32} {x5 : Int32} {x6 : Int32} {x7 : Int32} {x8 : Int32} {o9 : Option Value} (h : (x8 < 0 → (x7 < 0 → mj_W 1 103 3 164 [some (.ref 0), some (.ref 1), some (.ref 2), some (.ref 4), some (.int x4), some (.int x5), some (.int x6), some (.int x7), some (.int x8), o9] [.int x4] M 0 K) ∧ (¬ x7 < 0 → vp_in (8 * x5 + 2) 64 ∧ ((M 0 ((8 * x5 + 2).toNatClampNeg) = x7 → mj_W 1 103 3 164 [some (.ref 0), some (.ref 1), some (.ref 2), some (.ref 4), some (.int x4), some (.int x5), some (.int x6), some (.int x7), some (.int x8), o9] [.int x4] M 0 K) ∧ (¬ M 0 ((8 * x5 + 2).toNatClampNeg) = x7 → mj_W 1 103 3 165 [some (.ref 0), some (.ref 1), some (.ref 2), some (.ref 4), some (.int x4), some (.int x5), some (.int x6), some (.int x7), some (.int x8), o9] [.int 1, .int x4] M 0 K)))) ∧ (¬ x8 < 0 → vp_in (5 * x8) 30 ∧ ((¬ M 2 ((5 * x8).toNatClampNeg) = 0 → mj_W 1 103 3 79 [some (.ref 0), some (.ref 1), some (.ref 2), some (.ref 4), some (.int x4), some (.int x5), some (.int x6), some (.int x7), some (.int x8), o9] [.int (-1)] M 0 K) ∧ (M 2 ((5 * x8).toNatClampNeg) = 0 → vp_in (8 * x5) 64 ∧ mj_Cm 93 2 [.ref 0, .ref 1, .ref 4, .int x5, .int (M 0 ((8 * x5).toNatClampNeg)), .int x8] M (mj_k 1 103 3 75 [some (.ref 0), some (.ref 1), some (.ref 2), some (.ref 4), some (.int x4), some (.int x5), some (.int x6), some (.int x7), some (.int x8), o9] [] 0 (some .int) K))))) : mj_W 1 103 3 44 [some (.ref 0), some (.ref 1), some (.ref 2), some (.ref 4), some (.int x4), some (.int x5), some (.int x6), some (.int x7), some (.int x8), o9] [] M 0 K := by
  refine b103_44 ?_
  refine ⟨fun c1 => ?_, fun c1 => ?_⟩
  · have h1a := h.1 c1
    refine b103_139 ?_
    refine ⟨fun c2 => ?_, fun c2 => ?_⟩
    · have h2a := h1a.1 c2
      exact h2a
    · have h2a := h1a.2 c2
      refine b103_146 ?_
      have g3 := h2a.1
      refine ⟨g3, ?_⟩
      have h3 := h2a.2
      refine ⟨fun c4 => ?_, fun c4 => ?_⟩
      · have h4a := h3.1 c4
        exact h4a
      · have h4a := h3.2 c4
        refine b103_160 ?_
        exact h4a
  · have h1a := h.2 c1
    refine b103_49 ?_
    have g5 := h1a.1
    refine ⟨g5, ?_⟩
    have h5 := h1a.2
    refine ⟨fun c6 => ?_, fun c6 => ?_⟩
    · have h6a := h5.1 c6
      refine b103_78 ?_
      exact h6a
    · have h6a := h5.2 c6
      refine b103_58 ?_
      have g7 := h6a.1
      refine ⟨g7, ?_⟩
      have h7 := h6a.2
      exact h7

theorem t103_79 {M : mj_M} {K : mj_K} {x4 : Int32} {x5 : Int32} {x6 : Int32} {x7 : Int32} {x8 : Int32} {o9 : Option Value} {s0 : Int32} (h : (s0 < 0 → mj_W 1 103 3 105 [some (.ref 0), some (.ref 1), some (.ref 2), some (.ref 4), some (.int x4), some (.int x5), some (.int x6), some (.int x7), some (.int x8), some (.int s0)] [.int x7] M 0 K) ∧ (¬ s0 < 0 → (x6 < 0 → mj_W 1 103 3 105 [some (.ref 0), some (.ref 1), some (.ref 2), some (.ref 4), some (.int x4), some (.int x5), some (.int x6), some (.int x7), some (.int x8), some (.int s0)] [.int x8] M 0 K) ∧ (¬ x6 < 0 → (x6 < s0 → mj_W 1 103 3 105 [some (.ref 0), some (.ref 1), some (.ref 2), some (.ref 4), some (.int x4), some (.int x5), some (.int x6), some (.int x7), some (.int x8), some (.int s0)] [.int x7] M 0 K) ∧ (¬ x6 < s0 → mj_W 1 103 3 105 [some (.ref 0), some (.ref 1), some (.ref 2), some (.ref 4), some (.int x4), some (.int x5), some (.int x6), some (.int x7), some (.int x8), some (.int s0)] [.int x8] M 0 K)))) : mj_W 1 103 3 79 [some (.ref 0), some (.ref 1), some (.ref 2), some (.ref 4), some (.int x4), some (.int x5), some (.int x6), some (.int x7), some (.int x8), o9] [.int s0] M 0 K := by
  refine b103_79 ?_
  refine ⟨fun c1 => ?_, fun c1 => ?_⟩
  · have h1a := h.1 c1
    refine b103_103 ?_
    exact h1a
  · have h1a := h.2 c1
    refine b103_86 ?_
    refine ⟨fun c2 => ?_, fun c2 => ?_⟩
    · have h2a := h1a.1 c2
      refine b103_98 ?_
      exact h2a
    · have h2a := h1a.2 c2
      refine b103_91 ?_
      refine ⟨fun c3 => ?_, fun c3 => ?_⟩
      · have h3a := h2a.1 c3
        refine b103_103 ?_
        exact h3a
      · have h3a := h2a.2 c3
        refine b103_98 ?_
        exact h3a

theorem t103_105 {M : mj_M} {K : mj_K} {x4 : Int32} {x5 : Int32} {x6 : Int32} {x7 : Int32} {x8 : Int32} {x9 : Int32} {s0 : Int32} (h : (x9 < 0 → mj_W 1 103 3 131 [some (.ref 0), some (.ref 1), some (.ref 2), some (.ref 4), some (.int x4), some (.int x5), some (.int x6), some (.int s0), some (.int x8), some (.int x9)] [.int x6] M 0 K) ∧ (¬ x9 < 0 → (x6 < 0 → mj_W 1 103 3 131 [some (.ref 0), some (.ref 1), some (.ref 2), some (.ref 4), some (.int x4), some (.int x5), some (.int x6), some (.int s0), some (.int x8), some (.int x9)] [.int x9] M 0 K) ∧ (¬ x6 < 0 → (x6 < x9 → mj_W 1 103 3 131 [some (.ref 0), some (.ref 1), some (.ref 2), some (.ref 4), some (.int x4), some (.int x5), some (.int x6), some (.int s0), some (.int x8), some (.int x9)] [.int x6] M 0 K) ∧ (¬ x6 < x9 → mj_W 1 103 3 131 [some (.ref 0), some (.ref 1), some (.ref 2), some (.ref 4), some (.int x4), some (.int x5), some (.int x6), some (.int s0), some (.int x8), some (.int x9)] [.int x9] M 0 K)))) : mj_W 1 103 3 105 [some (.ref 0), some (.ref 1), some (.ref 2), some (.ref 4), some (.int x4), some (.int x5), some (.int x6), some (.int x7), some (.int x8), some (.int x9)] [.int s0] M 0 K := by
  refine b103_105 ?_
  refine ⟨fun c1 => ?_, fun c1 => ?_⟩
  · have h1a := h.1 c1
    refine b103_129 ?_
    exact h1a
  · have h1a := h.2 c1
    refine b103_112 ?_
    refine ⟨fun c2 => ?_, fun c2 => ?_⟩
    · have h2a := h1a.1 c2
      refine b103_124 ?_
      exact h2a
    · have h2a := h1a.2 c2
      refine b103_117 ?_
      refine ⟨fun c3 => ?_, fun c3 => ?_⟩
      · have h3a := h2a.1 c3
        refine b103_129 ?_
        exact h3a
      · have h3a := h2a.2 c3
        refine b103_124 ?_
        exact h3a

theorem t103_131 {M : mj_M} {K : mj_K} {x4 : Int32} {x5 : Int32} {x6 : Int32} {x7 : Int32} {x8 : Int32} {x9 : Int32} {s0 : Int32} (h : mj_W 1 103 3 44 [some (.ref 0), some (.ref 1), some (.ref 2), some (.ref 4), some (.int x4), some (.int x5), some (.int s0), some (.int x7), some (.int (x8 + (-1))), some (.int x9)] [] M 0 K) : mj_W 1 103 3 131 [some (.ref 0), some (.ref 1), some (.ref 2), some (.ref 4), some (.int x4), some (.int x5), some (.int x6), some (.int x7), some (.int x8), some (.int x9)] [.int s0] M 0 K := by
  refine b103_131 ?_
  exact h

theorem t103_164 {M : mj_M} {K : mj_K} {x4 : Int32} {x5 : Int32} {x6 : Int32} {x7 : Int32} {x8 : Int32} {o9 : Option Value} {s0 : Int32} (h : mj_W 1 103 3 165 [some (.ref 0), some (.ref 1), some (.ref 2), some (.ref 4), some (.int x4), some (.int x5), some (.int x6), some (.int x7), some (.int x8), o9] [.int 0, .int s0] M 0 K) : mj_W 1 103 3 164 [some (.ref 0), some (.ref 1), some (.ref 2), some (.ref 4), some (.int x4), some (.int x5), some (.int x6), some (.int x7), some (.int x8), o9] [.int s0] M 0 K := by
  refine b103_164 ?_
  exact h

theorem t103_165 {M : mj_M} {K : mj_K} {x4 : Int32} {x5 : Int32} {x6 : Int32} {x7 : Int32} {x8 : Int32} {o9 : Option Value} {s0 : Int32} {s1 : Int32} (h : (x7 < 0 → vp_in (8 * x5 + 2) 64 ∧ mj_W 1 103 3 195 [some (.ref 0), some (.ref 1), some (.ref 2), some (.ref 4), some (.int (s0 + s1)), some (.int x5), some (.int x6), some (.int x7), some (.int x8), o9] [.int (M 0 ((8 * x5 + 2).toNatClampNeg)), .int (8 * x5 + 2), .ref 0] M 0 K) ∧ (¬ x7 < 0 → mj_W 1 103 3 195 [some (.ref 0), some (.ref 1), some (.ref 2), some (.ref 4), some (.int (s0 + s1)), some (.int x5), some (.int x6), some (.int x7), some (.int x8), o9] [.int x7, .int (8 * x5 + 2), .ref 0] M 0 K)) : mj_W 1 103 3 165 [some (.ref 0), some (.ref 1), some (.ref 2), some (.ref 4), some (.int x4), some (.int x5), some (.int x6), some (.int x7), some (.int x8), o9] [.int s1, .int s0] M 0 K := by
  refine b103_165 ?_
  refine ⟨fun c1 => ?_, fun c1 => ?_⟩
  · have h1a := h.1 c1
    refine b103_186 ?_
    have g2 := h1a.1
    refine ⟨g2, ?_⟩
    have h2 := h1a.2
    exact h2
  · have h1a := h.2 c1
    refine b103_181 ?_
    exact h1a

theorem t103_195 {M : mj_M} {K : mj_K} {x4 : Int32} {x5 : Int32} {x6 : Int32} {x7 : Int32} {x8 : Int32} {o9 : Option Value} {s1 : Int32} {s2 : Int32} (h : vp_in s1 64 ∧ mj_Cm 97 1 [.ref 0, .ref 2, .int x5] (mj_u M 0 s1.toNatClampNeg s2) (mj_k 1 103 3 203 [some (.ref 0), some (.ref 1), some (.ref 2), some (.ref 4), some (.int x4), some (.int x5), some (.int x6), some (.int x7), some (.int x8), o9] [] 0 none K)) : mj_W 1 103 3 195 [some (.ref 0), some (.ref 1), some (.ref 2), some (.ref 4), some (.int x4), some (.int x5), some (.int x6), some (.int x7), some (.int x8), o9] [.int s2, .int s1, .ref 0] M 0 K := by
  refine b103_195 ?_
  have g1 := h.1
  refine ⟨g1, ?_⟩
  have h1 := h.2
  exact h1

theorem t103_75 {M : mj_M} {K : mj_K} {x4 : Int32} {x5 : Int32} {x6 : Int32} {x7 : Int32} {x8 : Int32} {o9 : Option Value} {s0 : Int32} (h : mj_W 1 103 3 79 [some (.ref 0), some (.ref 1), some (.ref 2), some (.ref 4), some (.int x4), some (.int x5), some (.int x6), some (.int x7), some (.int x8), o9] [.int s0] M 0 K) : mj_W 1 103 3 75 [some (.ref 0), some (.ref 1), some (.ref 2), some (.ref 4), some (.int x4), some (.int x5), some (.int x6), some (.int x7), some (.int x8), o9] [.int s0] M 0 K := by
  refine b103_75 ?_
  exact h

theorem t103_203 {M : mj_M} {K : mj_K} {x4 : Int32} {x5 : Int32} {o6 : Option Value} {o7 : Option Value} {o8 : Option Value} {o9 : Option Value} (h : vp_in (8 * x5 + 6) 64 ∧ mj_W 1 103 3 10 [some (.ref 0), some (.ref 1), some (.ref 2), some (.ref 4), some (.int x4), some (.int (x5 + 1)), o6, o7, o8, o9] [] (mj_u M 0 ((8 * x5 + 6).toNatClampNeg) 0) 0 K) : mj_W 1 103 3 203 [some (.ref 0), some (.ref 1), some (.ref 2), some (.ref 4), some (.int x4), some (.int x5), o6, o7, o8, o9] [] M 0 K := by
  refine b103_203 ?_
  have g1 := h.1
  refine ⟨g1, ?_⟩
  have h1 := h.2
  exact h1

theorem t104_0a {M : mj_M} {K : mj_K} {x2 : Int32} (h : mj_W 8 104 1 2 [some (.ref 0), some (.ref 5), some (.int x2), some (.int 0)] [] M 0 K) : mj_W 8 104 1 0 [some (.ref 0), some (.ref 5), some (.int x2), none] [] M 0 K := by
  refine b104_0a ?_
  exact h
theorem e104a {M : mj_M} {K : mj_K} {x2 : Int32} (h : mj_W 8 104 1 2 [some (.ref 0), some (.ref 5), some (.int x2), some (.int 0)] [] M 0 K) : mj_Cm 104 1 [.ref 0, .ref 5, .int x2] M K := mj_en rfl rfl rfl (t104_0a h)

theorem t104_2a {M : mj_M} {K : mj_K} {x2 : Int32} {x3 : Int32} (h : (x2 ≤ x3 → K 0 0 M) ∧ (¬ x2 ≤ x3 → vp_in x3 64 ∧ mj_W 8 104 1 2 [some (.ref 0), some (.ref 5), some (.int x2), some (.int (x3 + 1))] [] (mj_u M 5 x3.toNatClampNeg (M 0 x3.toNatClampNeg)) 0 K)) : mj_W 8 104 1 2 [some (.ref 0), some (.ref 5), some (.int x2), some (.int x3)] [] M 0 K := by
  refine b104_2a ?_
  refine ⟨fun c1 => ?_, fun c1 => ?_⟩
  · have h1a := h.1 c1
    refine b104_19a ?_
    exact h1a
  · have h1a := h.2 c1
    refine b104_7a ?_
    have g2 := h1a.1
    refine ⟨g2, ?_⟩
    have h2 := h1a.2
    exact h2

theorem t104_0b {M : mj_M} {K : mj_K} {x2 : Int32} (h : mj_W 8 104 1 2 [some (.ref 1), some (.ref 6), some (.int x2), some (.int 0)] [] M 0 K) : mj_W 8 104 1 0 [some (.ref 1), some (.ref 6), some (.int x2), none] [] M 0 K := by
  refine b104_0b ?_
  exact h
theorem e104b {M : mj_M} {K : mj_K} {x2 : Int32} (h : mj_W 8 104 1 2 [some (.ref 1), some (.ref 6), some (.int x2), some (.int 0)] [] M 0 K) : mj_Cm 104 1 [.ref 1, .ref 6, .int x2] M K := mj_en rfl rfl rfl (t104_0b h)

theorem t104_2b {M : mj_M} {K : mj_K} {x2 : Int32} {x3 : Int32} (h : (x2 ≤ x3 → K 0 0 M) ∧ (¬ x2 ≤ x3 → vp_in x3 55 ∧ mj_W 8 104 1 2 [some (.ref 1), some (.ref 6), some (.int x2), some (.int (x3 + 1))] [] (mj_u M 6 x3.toNatClampNeg (M 1 x3.toNatClampNeg)) 0 K)) : mj_W 8 104 1 2 [some (.ref 1), some (.ref 6), some (.int x2), some (.int x3)] [] M 0 K := by
  refine b104_2b ?_
  refine ⟨fun c1 => ?_, fun c1 => ?_⟩
  · have h1a := h.1 c1
    refine b104_19b ?_
    exact h1a
  · have h1a := h.2 c1
    refine b104_7b ?_
    have g2 := h1a.1
    refine ⟨g2, ?_⟩
    have h2 := h1a.2
    exact h2

theorem t104_0c {M : mj_M} {K : mj_K} {x2 : Int32} (h : mj_W 8 104 1 2 [some (.ref 2), some (.ref 7), some (.int x2), some (.int 0)] [] M 0 K) : mj_W 8 104 1 0 [some (.ref 2), some (.ref 7), some (.int x2), none] [] M 0 K := by
  refine b104_0c ?_
  exact h
theorem e104c {M : mj_M} {K : mj_K} {x2 : Int32} (h : mj_W 8 104 1 2 [some (.ref 2), some (.ref 7), some (.int x2), some (.int 0)] [] M 0 K) : mj_Cm 104 1 [.ref 2, .ref 7, .int x2] M K := mj_en rfl rfl rfl (t104_0c h)

theorem t104_2c {M : mj_M} {K : mj_K} {x2 : Int32} {x3 : Int32} (h : (x2 ≤ x3 → K 0 0 M) ∧ (¬ x2 ≤ x3 → vp_in x3 30 ∧ mj_W 8 104 1 2 [some (.ref 2), some (.ref 7), some (.int x2), some (.int (x3 + 1))] [] (mj_u M 7 x3.toNatClampNeg (M 2 x3.toNatClampNeg)) 0 K)) : mj_W 8 104 1 2 [some (.ref 2), some (.ref 7), some (.int x2), some (.int x3)] [] M 0 K := by
  refine b104_2c ?_
  refine ⟨fun c1 => ?_, fun c1 => ?_⟩
  · have h1a := h.1 c1
    refine b104_19c ?_
    exact h1a
  · have h1a := h.2 c1
    refine b104_7c ?_
    have g2 := h1a.1
    refine ⟨g2, ?_⟩
    have h2 := h1a.2
    exact h2

theorem t104_0d {M : mj_M} {K : mj_K} {x2 : Int32} (h : mj_W 8 104 1 2 [some (.ref 3), some (.ref 8), some (.int x2), some (.int 0)] [] M 0 K) : mj_W 8 104 1 0 [some (.ref 3), some (.ref 8), some (.int x2), none] [] M 0 K := by
  refine b104_0d ?_
  exact h
theorem e104d {M : mj_M} {K : mj_K} {x2 : Int32} (h : mj_W 8 104 1 2 [some (.ref 3), some (.ref 8), some (.int x2), some (.int 0)] [] M 0 K) : mj_Cm 104 1 [.ref 3, .ref 8, .int x2] M K := mj_en rfl rfl rfl (t104_0d h)

theorem t104_2d {M : mj_M} {K : mj_K} {x2 : Int32} {x3 : Int32} (h : (x2 ≤ x3 → K 0 0 M) ∧ (¬ x2 ≤ x3 → vp_in x3 18 ∧ mj_W 8 104 1 2 [some (.ref 3), some (.ref 8), some (.int x2), some (.int (x3 + 1))] [] (mj_u M 8 x3.toNatClampNeg (M 3 x3.toNatClampNeg)) 0 K)) : mj_W 8 104 1 2 [some (.ref 3), some (.ref 8), some (.int x2), some (.int x3)] [] M 0 K := by
  refine b104_2d ?_
  refine ⟨fun c1 => ?_, fun c1 => ?_⟩
  · have h1a := h.1 c1
    refine b104_19d ?_
    exact h1a
  · have h1a := h.2 c1
    refine b104_7d ?_
    have g2 := h1a.1
    refine ⟨g2, ?_⟩
    have h2 := h1a.2
    exact h2

theorem t104_0e {M : mj_M} {K : mj_K} {x2 : Int32} (h : mj_W 8 104 1 2 [some (.ref 4), some (.ref 9), some (.int x2), some (.int 0)] [] M 0 K) : mj_W 8 104 1 0 [some (.ref 4), some (.ref 9), some (.int x2), none] [] M 0 K := by
  refine b104_0e ?_
  exact h
theorem e104e {M : mj_M} {K : mj_K} {x2 : Int32} (h : mj_W 8 104 1 2 [some (.ref 4), some (.ref 9), some (.int x2), some (.int 0)] [] M 0 K) : mj_Cm 104 1 [.ref 4, .ref 9, .int x2] M K := mj_en rfl rfl rfl (t104_0e h)

theorem t104_2e {M : mj_M} {K : mj_K} {x2 : Int32} {x3 : Int32} (h : (x2 ≤ x3 → K 0 0 M) ∧ (¬ x2 ≤ x3 → vp_in x3 12 ∧ mj_W 8 104 1 2 [some (.ref 4), some (.ref 9), some (.int x2), some (.int (x3 + 1))] [] (mj_u M 9 x3.toNatClampNeg (M 4 x3.toNatClampNeg)) 0 K)) : mj_W 8 104 1 2 [some (.ref 4), some (.ref 9), some (.int x2), some (.int x3)] [] M 0 K := by
  refine b104_2e ?_
  refine ⟨fun c1 => ?_, fun c1 => ?_⟩
  · have h1a := h.1 c1
    refine b104_19e ?_
    exact h1a
  · have h1a := h.2 c1
    refine b104_7e ?_
    have g2 := h1a.1
    refine ⟨g2, ?_⟩
    have h2 := h1a.2
    exact h2

theorem t105_0 {M : mj_M} {K : mj_K} {x5 : Int32} {x6 : Int32} {cn : Nat} (h : cn + 1 ≤ 105 ∧ ((cn + 1) + 1 ≤ 105 ∧ ((cn + 2) + 1 ≤ 105 ∧ ((cn + 3) + 1 ≤ 105 ∧ ((cn + 4) + 1 ≤ 105 ∧ ((cn + 5) + 0 ≤ 105 ∧ mj_Cm 104 1 [.ref 0, .ref 5, .int 64] (mj_z0 (mj_z0 (mj_z0 (mj_z0 (mj_z0 M 5) 6) 7) 8) 9) (mj_k 8 105 5 38 [some (.ref 0), some (.ref 1), some (.ref 2), some (.ref 3), some (.ref 4), some (.int x5), some (.int x6), some (.ref 5), some (.ref 6), some (.ref 7), some (.ref 8), some (.ref 9), none, none] [] (cn + 5) none K))))))) : mj_W 1 105 5 0 [some (.ref 0), some (.ref 1), some (.ref 2), some (.ref 3), some (.ref 4), some (.int x5), some (.int x6), none, none, none, none, none, none, none] [] M cn K := by
  refine b105_0 ?_
  have g1 := h.1
  refine ⟨g1, ?_⟩
  have h1 := h.2
  refine b105_4 ?_
  have g2 := h1.1
  refine ⟨g2, ?_⟩
  have h2 := h1.2
  refine b105_10 ?_
  have g3 := h2.1
  refine ⟨g3, ?_⟩
  have h3 := h2.2
  refine b105_16 ?_
  have g4 := h3.1
  refine ⟨g4, ?_⟩
  have h4 := h3.2
  refine b105_22 ?_
  have g5 := h4.1
  refine ⟨g5, ?_⟩
  have h5 := h4.2
  refine b105_28 ?_
  have g6 := h5.1
  refine ⟨g6, ?_⟩
  have h6 := h5.2
  exact h6
theorem e105 {M : mj_M} {K : mj_K} {x5 : Int32} {x6 : Int32} (h : 0 + 1 ≤ 105 ∧ ((0 + 1) + 1 ≤ 105 ∧ ((0 + 2) + 1 ≤ 105 ∧ ((0 + 3) + 1 ≤ 105 ∧ ((0 + 4) + 1 ≤ 105 ∧ ((0 + 5) + 0 ≤ 105 ∧ mj_Cm 104 1 [.ref 0, .ref 5, .int 64] (mj_z0 (mj_z0 (mj_z0 (mj_z0 (mj_z0 M 5) 6) 7) 8) 9) (mj_k 8 105 5 38 [some (.ref 0), some (.ref 1), some (.ref 2), some (.ref 3), some (.ref 4), some (.int x5), some (.int x6), some (.ref 5), some (.ref 6), some (.ref 7), some (.ref 8), some (.ref 9), none, none] [] (0 + 5) none K))))))) : mj_Cm 105 5 [.ref 0, .ref 1, .ref 2, .ref 3, .ref 4, .int x5, .int x6] M K := mj_en rfl rfl rfl (t105_0 (cn := 0) h)

theorem t105_113 {M : mj_M} {K : mj_K} {x5 : Int32} {x6 : Int32} {x12 : Int32} {x13 : Int32} {cn : Nat} (h : (x13 = 0 → (x5 < 0 → cn + 0 ≤ 105 ∧ mj_Cm 106 1 [.ref 0, .ref 4] (mj_v M 5) (mj_k2 8 105 5 191 [some (.ref 0), some (.ref 1), some (.ref 2), some (.ref 3), some (.ref 4), some (.int x5), some (.int x6), some (.ref 5), some (.ref 6), some (.ref 7), some (.ref 8), some (.ref 9), some (.int x12), some (.int x13)] [] M 5 5 cn (some .boolean) K)) ∧ (¬ x5 < 0 → cn + 0 ≤ 105 ∧ mj_Cm 95 1 [.ref 0, .ref 4, .int x5, .int 0] (mj_v M 5) (mj_k2 8 105 5 181 [some (.ref 0), some (.ref 1), some (.ref 2), some (.ref 3), some (.ref 4), some (.int x5), some (.int x6), some (.ref 5), some (.ref 6), some (.ref 7), some (.ref 8), some (.ref 9), some (.int x12), some (.int x13)] [] M 5 5 cn (some .int) K))) ∧ (¬ x13 = 0 → cn + 1 ≤ 105 ∧ mj_Cm 102 4 [.ref 0, .ref 1, .ref 2, .ref 3, .ref 4] (mj_v M 5) (mj_k2 8 105 5 131 [some (.ref 0), some (.ref 1), some (.ref 2), some (.ref 3), some (.ref 4), some (.int x5), some (.int x6), some (.ref 5), some (.ref 6), some (.ref 7), some (.ref 8), some (.ref 9), some (.int x12), some (.int x13)] [] M 5 5 (cn + 1) none K))) : mj_W 8 105 5 113 [some (.ref 0), some (.ref 1), some (.ref 2), some (.ref 3), some (.ref 4), some (.int x5), some (.int x6), some (.ref 5), some (.ref 6), some (.ref 7), some (.ref 8), some (.ref 9), some (.int x12), some (.int x13)] [] M cn K := by
  refine b105_113 ?_
  refine ⟨fun c1 => ?_, fun c1 => ?_⟩
  · have h1a := h.1 c1
    refine b105_166 ?_
    refine ⟨fun c2 => ?_, fun c2 => ?_⟩
    · have h2a := h1a.1 c2
      refine b105_184 ?_
      have g3 := h2a.1
      refine ⟨g3, ?_⟩
      have h3 := h2a.2
      exact h3
    · have h2a := h1a.2 c2
      refine b105_171 ?_
      have g4 := h2a.1
      refine ⟨g4, ?_⟩
      have h4 := h2a.2
      exact h4
  · have h1a := h.2 c1
    refine b105_118 ?_
    have g5 := h1a.1
    refine ⟨g5, ?_⟩
    have h5 := h1a.2
    exact h5

theorem t105_111 {M : mj_M} {K : mj_K} {x5 : Int32} {x6 : Int32} {x12 : Int32} {o13 : Option Value} {s0 : Int32} {cn : Nat} (h : mj_W 8 105 5 113 [some (.ref 0), some (.ref 1), some (.ref 2), some (.ref 3), some (.ref 4), some (.int x5), some (.int x6), some (.ref 5), some (.ref 6), some (.ref 7), some (.ref 8), some (.ref 9), some (.int x12), some (.int s0)] [] M cn K) : mj_W 8 105 5 111 [some (.ref 0), some (.ref 1), some (.ref 2), some (.ref 3), some (.ref 4), some (.int x5), some (.int x6), some (.ref 5), some (.ref 6), some (.ref 7), some (.ref 8), some (.ref 9), some (.int x12), o13] [.int s0] M cn K := by
  refine b105_111 ?_
  exact h

theorem t105_161 {M : mj_M} {K : mj_K} {x5 : Int32} {x6 : Int32} {x12 : Int32} {x13 : Int32} {s0 : Int32} {cn : Nat} (h : mj_W 8 105 5 113 [some (.ref 0), some (.ref 1), some (.ref 2), some (.ref 3), some (.ref 4), some (.int x5), some (.int x6), some (.ref 5), some (.ref 6), some (.ref 7), some (.ref 8), some (.ref 9), some (.int x12), some (.int s0)] [] M cn K) : mj_W 8 105 5 161 [some (.ref 0), some (.ref 1), some (.ref 2), some (.ref 3), some (.ref 4), some (.int x5), some (.int x6), some (.ref 5), some (.ref 6), some (.ref 7), some (.ref 8), some (.ref 9), some (.int x12), some (.int x13)] [.int s0] M cn K := by
  refine b105_161 ?_
  exact h

theorem t105_200 {M : mj_M} {K : mj_K} {x5 : Int32} {x6 : Int32} {x12 : Int32} {x13 : Int32} {s0 : Int32} {cn : Nat} (h : cn ≤ 105 ∧ K 0 s0 M) : mj_W 8 105 5 200 [some (.ref 0), some (.ref 1), some (.ref 2), some (.ref 3), some (.ref 4), some (.int x5), some (.int x6), some (.ref 5), some (.ref 6), some (.ref 7), some (.ref 8), some (.ref 9), some (.int x12), some (.int x13)] [.int s0] M cn K := by
  refine b105_200 ?_
  have g1 := h.1
  refine ⟨g1, ?_⟩
  have h1 := h.2
  exact h1

theorem t105_38 {M : mj_M} {K : mj_K} {x5 : Int32} {x6 : Int32} {o12 : Option Value} {o13 : Option Value} {cn : Nat} (h : cn + 0 ≤ 105 ∧ mj_Cm 104 1 [.ref 1, .ref 6, .int 55] M (mj_k 8 105 5 46 [some (.ref 0), some (.ref 1), some (.ref 2), some (.ref 3), some (.ref 4), some (.int x5), some (.int x6), some (.ref 5), some (.ref 6), some (.ref 7), some (.ref 8), some (.ref 9), o12, o13] [] cn none K)) : mj_W 8 105 5 38 [some (.ref 0), some (.ref 1), some (.ref 2), some (.ref 3), some (.ref 4), some (.int x5), some (.int x6), some (.ref 5), some (.ref 6), some (.ref 7), some (.ref 8), some (.ref 9), o12, o13] [] M cn K := by
  refine b105_38 ?_
  have g1 := h.1
  refine ⟨g1, ?_⟩
  have h1 := h.2
  exact h1

theorem t105_191 {M : mj_M} {K : mj_K} {x5 : Int32} {x6 : Int32} {x12 : Int32} {x13 : Int32} {s0 : Int32} {cn : Nat} (h : (s0 = 0 → mj_W 8 105 5 200 [some (.ref 0), some (.ref 1), some (.ref 2), some (.ref 3), some (.ref 4), some (.int x5), some (.int x6), some (.ref 5), some (.ref 6), some (.ref 7), some (.ref 8), some (.ref 9), some (.int x12), some (.int x13)] [.int (-1)] M cn K) ∧ (¬ s0 = 0 → mj_W 8 105 5 200 [some (.ref 0), some (.ref 1), some (.ref 2), some (.ref 3), some (.ref 4), some (.int x5), some (.int x6), some (.ref 5), some (.ref 6), some (.ref 7), some (.ref 8), some (.ref 9), some (.int x12), some (.int x13)] [.int x12] M cn K)) : mj_W 8 105 5 191 [some (.ref 0), some (.ref 1), some (.ref 2), some (.ref 3), some (.ref 4), some (.int x5), some (.int x6), some (.ref 5), some (.ref 6), some (.ref 7), some (.ref 8), some (.ref 9), some (.int x12), some (.int x13)] [.int s0] M cn K := by
  refine b105_191 ?_
  refine ⟨fun c1 => ?_, fun c1 => ?_⟩
  · have h1a := h.1 c1
    refine b105_199 ?_
    exact h1a
  · have h1a := h.2 c1
    refine b105_194 ?_
    exact h1a

theorem t105_181 {M : mj_M} {K : mj_K} {x5 : Int32} {x6 : Int32} {x12 : Int32} {x13 : Int32} {s0 : Int32} {cn : Nat} (h : mj_W 8 105 5 200 [some (.ref 0), some (.ref 1), some (.ref 2), some (.ref 3), some (.ref 4), some (.int x5), some (.int x6), some (.ref 5), some (.ref 6), some (.ref 7), some (.ref 8), some (.ref 9), some (.int x12), some (.int x13)] [.int s0] M cn K) : mj_W 8 105 5 181 [some (.ref 0), some (.ref 1), some (.ref 2), some (.ref 3), some (.ref 4), some (.int x5), some (.int x6), some (.ref 5), some (.ref 6), some (.ref 7), some (.ref 8), some (.ref 9), some (.int x12), some (.int x13)] [.int s0] M cn K := by
  refine b105_181 ?_
  exact h

theorem t105_131 {M : mj_M} {K : mj_K} {x5 : Int32} {x6 : Int32} {x12 : Int32} {x13 : Int32} {cn : Nat} (h : (x6 ≤ x12 + 1 → mj_W 8 105 5 161 [some (.ref 0), some (.ref 1), some (.ref 2), some (.ref 3), some (.ref 4), some (.int x5), some (.int x6), some (.ref 5), some (.ref 6), some (.ref 7), some (.ref 8), some (.ref 9), some (.int (x12 + 1)), some (.int x13)] [.int 0] M cn K) ∧ (¬ x6 ≤ x12 + 1 → (0 ≤ x5 → mj_W 8 105 5 161 [some (.ref 0), some (.ref 1), some (.ref 2), some (.ref 3), some (.ref 4), some (.int x5), some (.int x6), some (.ref 5), some (.ref 6), some (.ref 7), some (.ref 8), some (.ref 9), some (.int (x12 + 1)), some (.int x13)] [.int 1] M cn K) ∧ (¬ 0 ≤ x5 → cn + 0 ≤ 105 ∧ mj_Cm 106 1 [.ref 0, .ref 4] (mj_v M 5) (mj_k2 8 105 5 153 [some (.ref 0), some (.ref 1), some (.ref 2), some (.ref 3), some (.ref 4), some (.int x5), some (.int x6), some (.ref 5), some (.ref 6), some (.ref 7), some (.ref 8), some (.ref 9), some (.int (x12 + 1)), some (.int x13)] [] M 5 5 cn (some .boolean) K)))) : mj_W 8 105 5 131 [some (.ref 0), some (.ref 1), some (.ref 2), some (.ref 3), some (.ref 4), some (.int x5), some (.int x6), some (.ref 5), some (.ref 6), some (.ref 7), some (.ref 8), some (.ref 9), some (.int x12), some (.int x13)] [] M cn K := by
  refine b105_131 ?_
  refine ⟨fun c1 => ?_, fun c1 => ?_⟩
  · have h1a := h.1 c1
    refine b105_160 ?_
    exact h1a
  · have h1a := h.2 c1
    refine b105_141 ?_
    refine ⟨fun c2 => ?_, fun c2 => ?_⟩
    · have h2a := h1a.1 c2
      refine b105_156 ?_
      exact h2a
    · have h2a := h1a.2 c2
      refine b105_146 ?_
      have g3 := h2a.1
      refine ⟨g3, ?_⟩
      have h3 := h2a.2
      exact h3

theorem t105_46 {M : mj_M} {K : mj_K} {x5 : Int32} {x6 : Int32} {o12 : Option Value} {o13 : Option Value} {cn : Nat} (h : cn + 0 ≤ 105 ∧ mj_Cm 104 1 [.ref 2, .ref 7, .int 30] M (mj_k 8 105 5 54 [some (.ref 0), some (.ref 1), some (.ref 2), some (.ref 3), some (.ref 4), some (.int x5), some (.int x6), some (.ref 5), some (.ref 6), some (.ref 7), some (.ref 8), some (.ref 9), o12, o13] [] cn none K)) : mj_W 8 105 5 46 [some (.ref 0), some (.ref 1), some (.ref 2), some (.ref 3), some (.ref 4), some (.int x5), some (.int x6), some (.ref 5), some (.ref 6), some (.ref 7), some (.ref 8), some (.ref 9), o12, o13] [] M cn K := by
  refine b105_46 ?_
  have g1 := h.1
  refine ⟨g1, ?_⟩
  have h1 := h.2
  exact h1

theorem t105_153 {M : mj_M} {K : mj_K} {x5 : Int32} {x6 : Int32} {x12 : Int32} {x13 : Int32} {s0 : Int32} {cn : Nat} (h : (¬ s0 = 0 → mj_W 8 105 5 161 [some (.ref 0), some (.ref 1), some (.ref 2), some (.ref 3), some (.ref 4), some (.int x5), some (.int x6), some (.ref 5), some (.ref 6), some (.ref 7), some (.ref 8), some (.ref 9), some (.int x12), some (.int x13)] [.int 0] M cn K) ∧ (s0 = 0 → mj_W 8 105 5 161 [some (.ref 0), some (.ref 1), some (.ref 2), some (.ref 3), some (.ref 4), some (.int x5), some (.int x6), some (.ref 5), some (.ref 6), some (.ref 7), some (.ref 8), some (.ref 9), some (.int x12), some (.int x13)] [.int 1] M cn K)) : mj_W 8 105 5 153 [some (.ref 0), some (.ref 1), some (.ref 2), some (.ref 3), some (.ref 4), some (.int x5), some (.int x6), some (.ref 5), some (.ref 6), some (.ref 7), some (.ref 8), some (.ref 9), some (.int x12), some (.int x13)] [.int s0] M cn K := by
  refine b105_153 ?_
  refine ⟨fun c1 => ?_, fun c1 => ?_⟩
  · have h1a := h.1 c1
    refine b105_160 ?_
    exact h1a
  · have h1a := h.2 c1
    refine b105_156 ?_
    exact h1a

theorem t105_54 {M : mj_M} {K : mj_K} {x5 : Int32} {x6 : Int32} {o12 : Option Value} {o13 : Option Value} {cn : Nat} (h : cn + 0 ≤ 105 ∧ mj_Cm 104 1 [.ref 3, .ref 8, .int 18] M (mj_k 8 105 5 62 [some (.ref 0), some (.ref 1), some (.ref 2), some (.ref 3), some (.ref 4), some (.int x5), some (.int x6), some (.ref 5), some (.ref 6), some (.ref 7), some (.ref 8), some (.ref 9), o12, o13] [] cn none K)) : mj_W 8 105 5 54 [some (.ref 0), some (.ref 1), some (.ref 2), some (.ref 3), some (.ref 4), some (.int x5), some (.int x6), some (.ref 5), some (.ref 6), some (.ref 7), some (.ref 8), some (.ref 9), o12, o13] [] M cn K := by
  refine b105_54 ?_
  have g1 := h.1
  refine ⟨g1, ?_⟩
  have h1 := h.2
  exact h1

theorem t105_62 {M : mj_M} {K : mj_K} {x5 : Int32} {x6 : Int32} {o12 : Option Value} {o13 : Option Value} {cn : Nat} (h : cn + 0 ≤ 105 ∧ mj_Cm 104 1 [.ref 4, .ref 9, .int 6] M (mj_k 8 105 5 71 [some (.ref 0), some (.ref 1), some (.ref 2), some (.ref 3), some (.ref 4), some (.int x5), some (.int x6), some (.ref 5), some (.ref 6), some (.ref 7), some (.ref 8), some (.ref 9), o12, o13] [] cn none K)) : mj_W 8 105 5 62 [some (.ref 0), some (.ref 1), some (.ref 2), some (.ref 3), some (.ref 4), some (.int x5), some (.int x6), some (.ref 5), some (.ref 6), some (.ref 7), some (.ref 8), some (.ref 9), o12, o13] [] M cn K := by
  refine b105_62 ?_
  have g1 := h.1
  refine ⟨g1, ?_⟩
  have h1 := h.2
  exact h1

theorem t105_71 {M : mj_M} {K : mj_K} {x5 : Int32} {x6 : Int32} {o12 : Option Value} {o13 : Option Value} {cn : Nat} (h : (0 ≤ x5 → (0 ≤ x5 → mj_W 8 105 5 111 [some (.ref 0), some (.ref 1), some (.ref 2), some (.ref 3), some (.ref 4), some (.int x5), some (.int x6), some (.ref 5), some (.ref 6), some (.ref 7), some (.ref 8), some (.ref 9), some (.int 0), o13] [.int 1] M cn K) ∧ (¬ 0 ≤ x5 → cn + 0 ≤ 105 ∧ mj_Cm 106 1 [.ref 0, .ref 4] (mj_v M 5) (mj_k2 8 105 5 103 [some (.ref 0), some (.ref 1), some (.ref 2), some (.ref 3), some (.ref 4), some (.int x5), some (.int x6), some (.ref 5), some (.ref 6), some (.ref 7), some (.ref 8), some (.ref 9), some (.int 0), o13] [] M 5 5 cn (some .boolean) K))) ∧ (¬ 0 ≤ x5 → cn + 0 ≤ 105 ∧ mj_Cm 103 3 [.ref 0, .ref 1, .ref 2, .ref 4] (mj_v M 5) (mj_k2 8 105 5 90 [some (.ref 0), some (.ref 1), some (.ref 2), some (.ref 3), some (.ref 4), some (.int x5), some (.int x6), some (.ref 5), some (.ref 6), some (.ref 7), some (.ref 8), some (.ref 9), some (.int 0), o13] [] M 5 5 cn (some .int) K))) : mj_W 8 105 5 71 [some (.ref 0), some (.ref 1), some (.ref 2), some (.ref 3), some (.ref 4), some (.int x5), some (.int x6), some (.ref 5), some (.ref 6), some (.ref 7), some (.ref 8), some (.ref 9), o12, o13] [] M cn K := by
  refine b105_71 ?_
  refine ⟨fun c1 => ?_, fun c1 => ?_⟩
  · have h1a := h.1 c1
    refine b105_91 ?_
    refine ⟨fun c2 => ?_, fun c2 => ?_⟩
    · have h2a := h1a.1 c2
      refine b105_106 ?_
      exact h2a
    · have h2a := h1a.2 c2
      refine b105_96 ?_
      have g3 := h2a.1
      refine ⟨g3, ?_⟩
      have h3 := h2a.2
      exact h3
  · have h1a := h.2 c1
    refine b105_79 ?_
    have g4 := h1a.1
    refine ⟨g4, ?_⟩
    have h4 := h1a.2
    exact h4

theorem t105_103 {M : mj_M} {K : mj_K} {x5 : Int32} {x6 : Int32} {x12 : Int32} {o13 : Option Value} {s0 : Int32} {cn : Nat} (h : (¬ s0 = 0 → mj_W 8 105 5 111 [some (.ref 0), some (.ref 1), some (.ref 2), some (.ref 3), some (.ref 4), some (.int x5), some (.int x6), some (.ref 5), some (.ref 6), some (.ref 7), some (.ref 8), some (.ref 9), some (.int x12), o13] [.int 0] M cn K) ∧ (s0 = 0 → mj_W 8 105 5 111 [some (.ref 0), some (.ref 1), some (.ref 2), some (.ref 3), some (.ref 4), some (.int x5), some (.int x6), some (.ref 5), some (.ref 6), some (.ref 7), some (.ref 8), some (.ref 9), some (.int x12), o13] [.int 1] M cn K)) : mj_W 8 105 5 103 [some (.ref 0), some (.ref 1), some (.ref 2), some (.ref 3), some (.ref 4), some (.int x5), some (.int x6), some (.ref 5), some (.ref 6), some (.ref 7), some (.ref 8), some (.ref 9), some (.int x12), o13] [.int s0] M cn K := by
  refine b105_103 ?_
  refine ⟨fun c1 => ?_, fun c1 => ?_⟩
  · have h1a := h.1 c1
    refine b105_110 ?_
    exact h1a
  · have h1a := h.2 c1
    refine b105_106 ?_
    exact h1a

theorem t105_90 {M : mj_M} {K : mj_K} {x5 : Int32} {x6 : Int32} {x12 : Int32} {o13 : Option Value} {s0 : Int32} {cn : Nat} (h : (0 ≤ x5 → mj_W 8 105 5 111 [some (.ref 0), some (.ref 1), some (.ref 2), some (.ref 3), some (.ref 4), some (.int x5), some (.int x6), some (.ref 5), some (.ref 6), some (.ref 7), some (.ref 8), some (.ref 9), some (.int x12), o13] [.int 1] M cn K) ∧ (¬ 0 ≤ x5 → cn + 0 ≤ 105 ∧ mj_Cm 106 1 [.ref 0, .ref 4] (mj_v M 5) (mj_k2 8 105 5 103 [some (.ref 0), some (.ref 1), some (.ref 2), some (.ref 3), some (.ref 4), some (.int x5), some (.int x6), some (.ref 5), some (.ref 6), some (.ref 7), some (.ref 8), some (.ref 9), some (.int x12), o13] [] M 5 5 cn (some .boolean) K))) : mj_W 8 105 5 90 [some (.ref 0), some (.ref 1), some (.ref 2), some (.ref 3), some (.ref 4), some (.int x5), some (.int x6), some (.ref 5), some (.ref 6), some (.ref 7), some (.ref 8), some (.ref 9), some (.int x12), o13] [.int s0] M cn K := by
  refine b105_90 ?_
  refine b105_91 ?_
  refine ⟨fun c1 => ?_, fun c1 => ?_⟩
  · have h1a := h.1 c1
    refine b105_106 ?_
    exact h1a
  · have h1a := h.2 c1
    refine b105_96 ?_
    have g2 := h1a.1
    refine ⟨g2, ?_⟩
    have h2 := h1a.2
    exact h2

theorem t106_0 {M : mj_M} {K : mj_K}  (h : mj_W 1 106 1 4 [some (.ref 0), some (.ref 4), some (.int 1), some (.int 0)] [] M 0 K) : mj_W 1 106 1 0 [some (.ref 0), some (.ref 4), none, none] [] M 0 K := by
  refine b106_0 ?_
  exact h
theorem e106 {M : mj_M} {K : mj_K}  (h : mj_W 1 106 1 4 [some (.ref 0), some (.ref 4), some (.int 1), some (.int 0)] [] M 0 K) : mj_Cm 106 1 [.ref 0, .ref 4] M K := mj_en rfl rfl rfl (t106_0 h)

theorem t106_4 {M : mj_M} {K : mj_K} {x2 : Int32} {x3 : Int32} (h : (M 4 4 ≤ x3 → K 0 (mj_nb x2) M) ∧ (¬ M 4 4 ≤ x3 → (x2 = 0 → mj_W 1 106 1 32 [some (.ref 0), some (.ref 4), some (.int x2), some (.int x3)] [.int 0] M 0 K) ∧ (¬ x2 = 0 → vp_in (8 * x3 + 1) 64 ∧ ((M 0 ((8 * x3 + 1).toNatClampNeg) ≤ 1 → mj_W 1 106 1 32 [some (.ref 0), some (.ref 4), some (.int x2), some (.int x3)] [.int 0] M 0 K) ∧ (¬ M 0 ((8 * x3 + 1).toNatClampNeg) ≤ 1 → mj_W 1 106 1 32 [some (.ref 0), some (.ref 4), some (.int x2), some (.int x3)] [.int 1] M 0 K))))) : mj_W 1 106 1 4 [some (.ref 0), some (.ref 4), some (.int x2), some (.int x3)] [] M 0 K := by
  refine b106_4 ?_
  refine ⟨fun c1 => ?_, fun c1 => ?_⟩
  · have h1a := h.1 c1
    refine b106_39 ?_
    exact h1a
  · have h1a := h.2 c1
    refine b106_11 ?_
    refine ⟨fun c2 => ?_, fun c2 => ?_⟩
    · have h2a := h1a.1 c2
      refine b106_31 ?_
      exact h2a
    · have h2a := h1a.2 c2
      refine b106_15 ?_
      have g3 := h2a.1
      refine ⟨g3, ?_⟩
      have h3 := h2a.2
      refine ⟨fun c4 => ?_, fun c4 => ?_⟩
      · have h4a := h3.1 c4
        refine b106_31 ?_
        exact h4a
      · have h4a := h3.2 c4
        refine b106_27 ?_
        exact h4a

theorem t106_32 {M : mj_M} {K : mj_K} {x2 : Int32} {x3 : Int32} {s0 : Int32} (h : mj_W 1 106 1 4 [some (.ref 0), some (.ref 4), some (.int s0), some (.int (x3 + 1))] [] M 0 K) : mj_W 1 106 1 32 [some (.ref 0), some (.ref 4), some (.int x2), some (.int x3)] [.int s0] M 0 K := by
  refine b106_32 ?_
  exact h

