-- trees of blocks: what remains of a method from a start
theorem t107_0 {M : mj_M} {K : mj_K} {x6 : Int32} {cn : Nat} (h : ¬ (M 85 2 : Int32) = 0 ∧ cn + 0 ≤ 400 ∧ mj_Cm 74 1 [.ref 0] (mj_v M 0) (mj_k2 9 107 17 13 [some (.ref 0), some (.ref 81), some (.ref 82), some (.ref 83), some (.ref 84), some (.ref 85), some (.int x6), some (.int (x6 - x6 / M 85 2 * M 85 2)), none, none, none, none, none, none] [] M 0 81 cn (some .int) K)) : mj_W 9 107 17 0 [some (.ref 0), some (.ref 81), some (.ref 82), some (.ref 83), some (.ref 84), some (.ref 85), some (.int x6), none, none, none, none, none, none, none] [] M cn K := by
  refine b107_0 ?_
  have g1 := h.1
  refine ⟨g1, ?_⟩
  have h1 := h.2
  have g2 := h1.1
  refine ⟨g2, ?_⟩
  have h2 := h1.2
  exact h2
theorem e107 {M : mj_M} {K : mj_K} {x6 : Int32} (h : ¬ (M 85 2 : Int32) = 0 ∧ 0 + 0 ≤ 400 ∧ mj_Cm 74 1 [.ref 0] (mj_v M 0) (mj_k2 9 107 17 13 [some (.ref 0), some (.ref 81), some (.ref 82), some (.ref 83), some (.ref 84), some (.ref 85), some (.int x6), some (.int (x6 - x6 / M 85 2 * M 85 2)), none, none, none, none, none, none] [] M 0 81 0 (some .int) K)) : mj_Cm 107 17 [.ref 0, .ref 81, .ref 82, .ref 83, .ref 84, .ref 85, .int x6] M K := mj_en rfl rfl rfl (t107_0 (cn := 0) h)

theorem t107_68 {M : mj_M} {K : mj_K} {x6 : Int32} {x7 : Int32} {x8 : Int32} {x9 : Int32} {o10 : Option Value} {o11 : Option Value} {o12 : Option Value} {o13 : Option Value} {cn : Nat} (h : (5 ≤ x9 → ¬ (M 85 3 : Int32) = 0 ∧ mj_W 9 107 17 130 [some (.ref 0), some (.ref 81), some (.ref 82), some (.ref 83), some (.ref 84), some (.ref 85), some (.int x6), some (.int x7), some (.int x8), some (.int (x6 / 6 - x6 / 6 / M 85 3 * M 85 3)), some (.int 0), some (.int 0), o12, o13] [] M cn K) ∧ (¬ 5 ≤ x9 → (x8 = 0 → ¬ (M 85 3 : Int32) = 0 ∧ mj_W 9 107 17 130 [some (.ref 0), some (.ref 81), some (.ref 82), some (.ref 83), some (.ref 84), some (.ref 85), some (.int x6), some (.int x7), some (.int x8), some (.int (x6 / 6 - x6 / 6 / M 85 3 * M 85 3)), some (.int 0), some (.int 0), o12, o13] [] M cn K) ∧ (¬ x8 = 0 → cn + 2 ≤ 400 ∧ mj_Cm 75 3 [.ref 0, .int x7, .int x9] (mj_v M 0) (mj_k2 9 107 17 87 [some (.ref 0), some (.ref 81), some (.ref 82), some (.ref 83), some (.ref 84), some (.ref 85), some (.int x6), some (.int x7), some (.int x8), some (.int x9), o10, o11, o12, o13] [] M 0 81 (cn + 2) (some .int) K)))) : mj_W 9 107 17 68 [some (.ref 0), some (.ref 81), some (.ref 82), some (.ref 83), some (.ref 84), some (.ref 85), some (.int x6), some (.int x7), some (.int x8), some (.int x9), o10, o11, o12, o13] [] M cn K := by
  refine b107_68 ?_
  refine ⟨fun c1 => ?_, fun c1 => ?_⟩
  · have h1a := h.1 c1
    refine b107_112 ?_
    have g2 := h1a.1
    refine ⟨g2, ?_⟩
    have h2 := h1a.2
    exact h2
  · have h1a := h.2 c1
    refine b107_74 ?_
    refine ⟨fun c3 => ?_, fun c3 => ?_⟩
    · have h3a := h1a.1 c3
      refine b107_112 ?_
      have g4 := h3a.1
      refine ⟨g4, ?_⟩
      have h4 := h3a.2
      exact h4
    · have h3a := h1a.2 c3
      refine b107_79 ?_
      have g5 := h3a.1
      refine ⟨g5, ?_⟩
      have h5 := h3a.2
      exact h5

theorem t107_130 {M : mj_M} {K : mj_K} {x6 : Int32} {x7 : Int32} {x8 : Int32} {x9 : Int32} {x10 : Int32} {x11 : Int32} {o12 : Option Value} {o13 : Option Value} {cn : Nat} (h : (M 85 4 ≤ x11 → vp_in (11 * x9 + 8) 55 ∧ ((¬ M 82 ((11 * x9 + 8).toNatClampNeg) = 1 → vp_in (11 * x9 + 4) 55 ∧ mj_W 9 107 17 208 [some (.ref 0), some (.ref 81), some (.ref 82), some (.ref 83), some (.ref 84), some (.ref 85), some (.int x6), some (.int x7), some (.int x8), some (.int x9), some (.int x10), some (.int x11), o12, o13] [.int (M 82 ((11 * x9 + 4).toNatClampNeg))] M cn K) ∧ (M 82 ((11 * x9 + 8).toNatClampNeg) = 1 → vp_in (11 * x9 + 4) 55 ∧ mj_W 9 107 17 208 [some (.ref 0), some (.ref 81), some (.ref 82), some (.ref 83), some (.ref 84), some (.ref 85), some (.int x6), some (.int x7), some (.int x8), some (.int x9), some (.int x10), some (.int x11), o12, o13] [.int ((M 82 ((11 * x9 + 4).toNatClampNeg) + 1) / 2)] M cn K))) ∧ (¬ M 85 4 ≤ x11 → cn + 0 ≤ 400 ∧ mj_Cm 94 3 [.ref 0, .ref 1, .ref 4, .int x11] (mj_v M 81) (mj_k2 9 107 17 150 [some (.ref 0), some (.ref 81), some (.ref 82), some (.ref 83), some (.ref 84), some (.ref 85), some (.int x6), some (.int x7), some (.int x8), some (.int x9), some (.int x10), some (.int x11), o12, o13] [.int x10] M 81 5 cn (some .int) K))) : mj_W 9 107 17 130 [some (.ref 0), some (.ref 81), some (.ref 82), some (.ref 83), some (.ref 84), some (.ref 85), some (.int x6), some (.int x7), some (.int x8), some (.int x9), some (.int x10), some (.int x11), o12, o13] [] M cn K := by
  refine b107_130 ?_
  refine ⟨fun c1 => ?_, fun c1 => ?_⟩
  · have h1a := h.1 c1
    refine b107_169 ?_
    have g2 := h1a.1
    refine ⟨g2, ?_⟩
    have h2 := h1a.2
    refine ⟨fun c3 => ?_, fun c3 => ?_⟩
    · have h3a := h2.1 c3
      refine b107_199 ?_
      have g4 := h3a.1
      refine ⟨g4, ?_⟩
      have h4 := h3a.2
      exact h4
    · have h3a := h2.2 c3
      refine b107_183 ?_
      have g5 := h3a.1
      refine ⟨g5, ?_⟩
      have h5 := h3a.2
      exact h5
  · have h1a := h.2 c1
    refine b107_139 ?_
    have g6 := h1a.1
    refine ⟨g6, ?_⟩
    have h6 := h1a.2
    exact h6

theorem t107_519 {M : mj_M} {K : mj_K} {x6 : Int32} {x7 : Int32} {x8 : Int32} {x9 : Int32} {x10 : Int32} {x11 : Int32} {o12 : Option Value} {o13 : Option Value} {cn : Nat} (h : (M 85 5 ≤ 0 → mj_W 9 107 17 639 [some (.ref 0), some (.ref 81), some (.ref 82), some (.ref 83), some (.ref 84), some (.ref 85), some (.int x6), some (.int x7), some (.int x8), some (.int x9), some (.int x10), some (.int x11), o12, o13] [] M cn K) ∧ (¬ M 85 5 ≤ 0 → (x8 = 0 → mj_W 9 107 17 639 [some (.ref 0), some (.ref 81), some (.ref 82), some (.ref 83), some (.ref 84), some (.ref 85), some (.int x6), some (.int x7), some (.int x8), some (.int x9), some (.int x10), some (.int x11), o12, o13] [] M cn K) ∧ (¬ x8 = 0 → ¬ (M 85 5 : Int32) = 0 ∧ cn + 2 ≤ 400 ∧ mj_Cm 78 3 [.ref 0, .int (x6 / 240 - x6 / 240 / M 85 5 * M 85 5), .int 0] (mj_v M 0) (mj_k2 9 107 17 551 [some (.ref 0), some (.ref 81), some (.ref 82), some (.ref 83), some (.ref 84), some (.ref 85), some (.int x6), some (.int x7), some (.int x8), some (.int x9), some (.int x10), some (.int x11), some (.int (x6 / 240 - x6 / 240 / M 85 5 * M 85 5)), o13] [] M 0 81 (cn + 2) (some .int) K)))) : mj_W 9 107 17 519 [some (.ref 0), some (.ref 81), some (.ref 82), some (.ref 83), some (.ref 84), some (.ref 85), some (.int x6), some (.int x7), some (.int x8), some (.int x9), some (.int x10), some (.int x11), o12, o13] [] M cn K := by
  refine b107_519 ?_
  refine ⟨fun c1 => ?_, fun c1 => ?_⟩
  · have h1a := h.1 c1
    exact h1a
  · have h1a := h.2 c1
    refine b107_526 ?_
    refine ⟨fun c2 => ?_, fun c2 => ?_⟩
    · have h2a := h1a.1 c2
      exact h2a
    · have h2a := h1a.2 c2
      refine b107_531 ?_
      have g3 := h2a.1
      refine ⟨g3, ?_⟩
      have h3 := h2a.2
      have g4 := h3.1
      refine ⟨g4, ?_⟩
      have h4 := h3.2
      exact h4

theorem t107_639 {M : mj_M} {K : mj_K} {x6 : Int32} {x7 : Int32} {x8 : Int32} {x9 : Int32} {x10 : Int32} {x11 : Int32} {o12 : Option Value} {o13 : Option Value} {cn : Nat} (h : (¬ x6 / 720 - x6 / 720 / 16 * 16 = 0 → mj_W 9 107 17 683 [some (.ref 0), some (.ref 81), some (.ref 82), some (.ref 83), some (.ref 84), some (.ref 85), some (.int x6), some (.int x7), some (.int x8), some (.int x9), some (.int x10), some (.int x11), o12, o13] [] M cn K) ∧ (x6 / 720 - x6 / 720 / 16 * 16 = 0 → (x8 = 0 → mj_W 9 107 17 683 [some (.ref 0), some (.ref 81), some (.ref 82), some (.ref 83), some (.ref 84), some (.ref 85), some (.int x6), some (.int x7), some (.int x8), some (.int x9), some (.int x10), some (.int x11), o12, o13] [] M cn K) ∧ (¬ x8 = 0 → cn + 0 ≤ 400 ∧ mj_Cm 80 7 [.ref 0] (mj_v M 0) (mj_k2 9 107 17 660 [some (.ref 0), some (.ref 81), some (.ref 82), some (.ref 83), some (.ref 84), some (.ref 85), some (.int x6), some (.int x7), some (.int x8), some (.int x9), some (.int x10), some (.int x11), o12, o13] [] M 0 81 cn (some .int) K)))) : mj_W 9 107 17 639 [some (.ref 0), some (.ref 81), some (.ref 82), some (.ref 83), some (.ref 84), some (.ref 85), some (.int x6), some (.int x7), some (.int x8), some (.int x9), some (.int x10), some (.int x11), o12, o13] [] M cn K := by
  refine b107_639 ?_
  refine ⟨fun c1 => ?_, fun c1 => ?_⟩
  · have h1a := h.1 c1
    exact h1a
  · have h1a := h.2 c1
    refine b107_651 ?_
    refine ⟨fun c2 => ?_, fun c2 => ?_⟩
    · have h2a := h1a.1 c2
      exact h2a
    · have h2a := h1a.2 c2
      refine b107_656 ?_
      have g3 := h2a.1
      refine ⟨g3, ?_⟩
      have h3 := h2a.2
      exact h3

theorem t107_683 {M : mj_M} {K : mj_K} {x6 : Int32} {x7 : Int32} {x8 : Int32} {x9 : Int32} {x10 : Int32} {x11 : Int32} {o12 : Option Value} {o13 : Option Value} {cn : Nat} (h : (x8 = 0 → mj_W 9 107 17 749 [some (.ref 0), some (.ref 81), some (.ref 82), some (.ref 83), some (.ref 84), some (.ref 85), some (.int x6), some (.int x7), some (.int x8), some (.int x9), some (.int x10), some (.int x11), o12, o13] [.int 0] M cn K) ∧ (¬ x8 = 0 → (¬ x6 / 720 - x6 / 720 / 8 * 8 = 1 → mj_W 9 107 17 749 [some (.ref 0), some (.ref 81), some (.ref 82), some (.ref 83), some (.ref 84), some (.ref 85), some (.int x6), some (.int x7), some (.int x8), some (.int x9), some (.int x10), some (.int x11), o12, o13] [.int 1] M cn K) ∧ (x6 / 720 - x6 / 720 / 8 * 8 = 1 → cn + 2 ≤ 400 ∧ mj_Cm 79 7 [.ref 0, .int x7, .int (1 + (x6 / 11520 - x6 / 11520 / 20 * 20))] (mj_v M 0) (mj_k2 9 107 17 718 [some (.ref 0), some (.ref 81), some (.ref 82), some (.ref 83), some (.ref 84), some (.ref 85), some (.int x6), some (.int x7), some (.int x8), some (.int x9), some (.int x10), some (.int x11), o12, o13] [] M 0 81 (cn + 2) (some .int) K)))) : mj_W 9 107 17 683 [some (.ref 0), some (.ref 81), some (.ref 82), some (.ref 83), some (.ref 84), some (.ref 85), some (.int x6), some (.int x7), some (.int x8), some (.int x9), some (.int x10), some (.int x11), o12, o13] [] M cn K := by
  refine b107_683 ?_
  refine ⟨fun c1 => ?_, fun c1 => ?_⟩
  · have h1a := h.1 c1
    refine b107_748 ?_
    exact h1a
  · have h1a := h.2 c1
    refine b107_688 ?_
    refine ⟨fun c2 => ?_, fun c2 => ?_⟩
    · have h2a := h1a.1 c2
      refine b107_744 ?_
      exact h2a
    · have h2a := h1a.2 c2
      refine b107_701 ?_
      have g3 := h2a.1
      refine ⟨g3, ?_⟩
      have h3 := h2a.2
      exact h3

theorem t107_63 {M : mj_M} {K : mj_K} {x6 : Int32} {x7 : Int32} {o8 : Option Value} {o9 : Option Value} {o10 : Option Value} {o11 : Option Value} {o12 : Option Value} {o13 : Option Value} {s0 : Int32} {cn : Nat} (h : mj_W 9 107 17 68 [some (.ref 0), some (.ref 81), some (.ref 82), some (.ref 83), some (.ref 84), some (.ref 85), some (.int x6), some (.int x7), some (.int s0), some (.int 2), o10, o11, o12, o13] [] M cn K) : mj_W 9 107 17 63 [some (.ref 0), some (.ref 81), some (.ref 82), some (.ref 83), some (.ref 84), some (.ref 85), some (.int x6), some (.int x7), o8, o9, o10, o11, o12, o13] [.int s0] M cn K := by
  refine b107_63 ?_
  exact h

theorem t107_104 {M : mj_M} {K : mj_K} {x6 : Int32} {x7 : Int32} {x8 : Int32} {x9 : Int32} {o10 : Option Value} {o11 : Option Value} {o12 : Option Value} {o13 : Option Value} {s0 : Int32} {cn : Nat} (h : mj_W 9 107 17 68 [some (.ref 0), some (.ref 81), some (.ref 82), some (.ref 83), some (.ref 84), some (.ref 85), some (.int x6), some (.int x7), some (.int s0), some (.int (x9 + 1)), o10, o11, o12, o13] [] M cn K) : mj_W 9 107 17 104 [some (.ref 0), some (.ref 81), some (.ref 82), some (.ref 83), some (.ref 84), some (.ref 85), some (.int x6), some (.int x7), some (.int x8), some (.int x9), o10, o11, o12, o13] [.int s0] M cn K := by
  refine b107_104 ?_
  exact h

theorem t107_160 {M : mj_M} {K : mj_K} {x6 : Int32} {x7 : Int32} {x8 : Int32} {x9 : Int32} {x10 : Int32} {x11 : Int32} {o12 : Option Value} {o13 : Option Value} {s0 : Int32} {s1 : Int32} {cn : Nat} (h : mj_W 9 107 17 130 [some (.ref 0), some (.ref 81), some (.ref 82), some (.ref 83), some (.ref 84), some (.ref 85), some (.int x6), some (.int x7), some (.int x8), some (.int x9), some (.int (s0 + s1)), some (.int (x11 + 1)), o12, o13] [] M cn K) : mj_W 9 107 17 160 [some (.ref 0), some (.ref 81), some (.ref 82), some (.ref 83), some (.ref 84), some (.ref 85), some (.int x6), some (.int x7), some (.int x8), some (.int x9), some (.int x10), some (.int x11), o12, o13] [.int s1, .int s0] M cn K := by
  refine b107_160 ?_
  exact h

theorem t107_208 {M : mj_M} {K : mj_K} {x6 : Int32} {x7 : Int32} {x8 : Int32} {x9 : Int32} {x10 : Int32} {x11 : Int32} {o12 : Option Value} {o13 : Option Value} {s0 : Int32} {cn : Nat} (h : (x8 = 0 → mj_W 9 107 17 303 [some (.ref 0), some (.ref 81), some (.ref 82), some (.ref 83), some (.ref 84), some (.ref 85), some (.int x6), some (.int x7), some (.int x8), some (.int x9), some (.int x10), some (.int s0), o12, o13] [.int 0] M cn K) ∧ (¬ x8 = 0 → cn + 2 ≤ 400 ∧ mj_Cm 76 5 [.ref 0, .int x9, .int 0] (mj_v M 0) (mj_k2 9 107 17 222 [some (.ref 0), some (.ref 81), some (.ref 82), some (.ref 83), some (.ref 84), some (.ref 85), some (.int x6), some (.int x7), some (.int x8), some (.int x9), some (.int x10), some (.int s0), o12, o13] [] M 0 81 (cn + 2) (some .int) K))) : mj_W 9 107 17 208 [some (.ref 0), some (.ref 81), some (.ref 82), some (.ref 83), some (.ref 84), some (.ref 85), some (.int x6), some (.int x7), some (.int x8), some (.int x9), some (.int x10), some (.int x11), o12, o13] [.int s0] M cn K := by
  refine b107_208 ?_
  refine ⟨fun c1 => ?_, fun c1 => ?_⟩
  · have h1a := h.1 c1
    refine b107_302 ?_
    exact h1a
  · have h1a := h.2 c1
    refine b107_215 ?_
    have g2 := h1a.1
    refine ⟨g2, ?_⟩
    have h2 := h1a.2
    exact h2

theorem t107_303 {M : mj_M} {K : mj_K} {x6 : Int32} {x7 : Int32} {x8 : Int32} {x9 : Int32} {x10 : Int32} {x11 : Int32} {o12 : Option Value} {o13 : Option Value} {s0 : Int32} {cn : Nat} (h : (M 85 4 ≤ 0 → mj_W 9 107 17 519 [some (.ref 0), some (.ref 81), some (.ref 82), some (.ref 83), some (.ref 84), some (.ref 85), some (.int x6), some (.int x7), some (.int s0), some (.int x9), some (.int x10), some (.int x11), o12, o13] [] M cn K) ∧ (¬ M 85 4 ≤ 0 → (s0 = 0 → mj_W 9 107 17 519 [some (.ref 0), some (.ref 81), some (.ref 82), some (.ref 83), some (.ref 84), some (.ref 85), some (.int x6), some (.int x7), some (.int s0), some (.int x9), some (.int x10), some (.int x11), o12, o13] [] M cn K) ∧ (¬ s0 = 0 → ¬ (M 85 4 : Int32) = 0 ∧ vp_in (8 * (x6 / 30 - x6 / 30 / M 85 4 * M 85 4)) 64 ∧ vp_in (8 * (x6 / 30 - x6 / 30 / M 85 4 * M 85 4) + 2) 64 ∧ cn + 0 ≤ 400 ∧ mj_Cm 93 2 [.ref 0, .ref 1, .ref 4, .int (x6 / 30 - x6 / 30 / M 85 4 * M 85 4), .int (M 81 ((8 * (x6 / 30 - x6 / 30 / M 85 4 * M 85 4)).toNatClampNeg)), .int (M 81 ((8 * (x6 / 30 - x6 / 30 / M 85 4 * M 85 4) + 2).toNatClampNeg))] (mj_v M 81) (mj_k2 9 107 17 354 [some (.ref 0), some (.ref 81), some (.ref 82), some (.ref 83), some (.ref 84), some (.ref 85), some (.int x6), some (.int x7), some (.int s0), some (.int x9), some (.int x10), some (.int x11), some (.int (x6 / 30 - x6 / 30 / M 85 4 * M 85 4)), o13] [] M 81 5 cn (some .int) K)))) : mj_W 9 107 17 303 [some (.ref 0), some (.ref 81), some (.ref 82), some (.ref 83), some (.ref 84), some (.ref 85), some (.int x6), some (.int x7), some (.int x8), some (.int x9), some (.int x10), some (.int x11), o12, o13] [.int s0] M cn K := by
  refine b107_303 ?_
  refine ⟨fun c1 => ?_, fun c1 => ?_⟩
  · have h1a := h.1 c1
    exact h1a
  · have h1a := h.2 c1
    refine b107_312 ?_
    refine ⟨fun c2 => ?_, fun c2 => ?_⟩
    · have h2a := h1a.1 c2
      exact h2a
    · have h2a := h1a.2 c2
      refine b107_317 ?_
      have g3 := h2a.1
      refine ⟨g3, ?_⟩
      have h3 := h2a.2
      have g4 := h3.1
      refine ⟨g4, ?_⟩
      have h4 := h3.2
      have g5 := h4.1
      refine ⟨g5, ?_⟩
      have h5 := h4.2
      have g6 := h5.1
      refine ⟨g6, ?_⟩
      have h6 := h5.2
      exact h6

theorem t107_517 {M : mj_M} {K : mj_K} {x6 : Int32} {x7 : Int32} {x8 : Int32} {x9 : Int32} {x10 : Int32} {x11 : Int32} {x12 : Int32} {x13 : Int32} {s0 : Int32} {cn : Nat} (h : mj_W 9 107 17 519 [some (.ref 0), some (.ref 81), some (.ref 82), some (.ref 83), some (.ref 84), some (.ref 85), some (.int x6), some (.int x7), some (.int s0), some (.int x9), some (.int x10), some (.int x11), some (.int x12), some (.int x13)] [] M cn K) : mj_W 9 107 17 517 [some (.ref 0), some (.ref 81), some (.ref 82), some (.ref 83), some (.ref 84), some (.ref 85), some (.int x6), some (.int x7), some (.int x8), some (.int x9), some (.int x10), some (.int x11), some (.int x12), some (.int x13)] [.int s0] M cn K := by
  refine b107_517 ?_
  exact h

theorem t107_609 {M : mj_M} {K : mj_K} {x6 : Int32} {x7 : Int32} {x8 : Int32} {x9 : Int32} {x10 : Int32} {x11 : Int32} {x12 : Int32} {o13 : Option Value} {s0 : Int32} {s1 : Int32} {cn : Nat} (h : (¬ s0 = s1 → mj_W 9 107 17 637 [some (.ref 0), some (.ref 81), some (.ref 82), some (.ref 83), some (.ref 84), some (.ref 85), some (.int x6), some (.int x7), some (.int x8), some (.int x9), some (.int x10), some (.int x11), some (.int x12), o13] [.int 0] M cn K) ∧ (s0 = s1 → cn + 2 ≤ 400 ∧ mj_Cm 78 3 [.ref 0, .int x12, .int 3] (mj_v M 0) (mj_k2 9 107 17 619 [some (.ref 0), some (.ref 81), some (.ref 82), some (.ref 83), some (.ref 84), some (.ref 85), some (.int x6), some (.int x7), some (.int x8), some (.int x9), some (.int x10), some (.int x11), some (.int x12), o13] [] M 0 81 (cn + 2) (some .int) K))) : mj_W 9 107 17 609 [some (.ref 0), some (.ref 81), some (.ref 82), some (.ref 83), some (.ref 84), some (.ref 85), some (.int x6), some (.int x7), some (.int x8), some (.int x9), some (.int x10), some (.int x11), some (.int x12), o13] [.int s1, .int s0] M cn K := by
  refine b107_609 ?_
  refine ⟨fun c1 => ?_, fun c1 => ?_⟩
  · have h1a := h.1 c1
    refine b107_636 ?_
    exact h1a
  · have h1a := h.2 c1
    refine b107_612 ?_
    have g2 := h1a.1
    refine ⟨g2, ?_⟩
    have h2 := h1a.2
    exact h2

theorem t107_637 {M : mj_M} {K : mj_K} {x6 : Int32} {x7 : Int32} {x8 : Int32} {x9 : Int32} {x10 : Int32} {x11 : Int32} {x12 : Int32} {o13 : Option Value} {s0 : Int32} {cn : Nat} (h : mj_W 9 107 17 639 [some (.ref 0), some (.ref 81), some (.ref 82), some (.ref 83), some (.ref 84), some (.ref 85), some (.int x6), some (.int x7), some (.int s0), some (.int x9), some (.int x10), some (.int x11), some (.int x12), o13] [] M cn K) : mj_W 9 107 17 637 [some (.ref 0), some (.ref 81), some (.ref 82), some (.ref 83), some (.ref 84), some (.ref 85), some (.int x6), some (.int x7), some (.int x8), some (.int x9), some (.int x10), some (.int x11), some (.int x12), o13] [.int s0] M cn K := by
  refine b107_637 ?_
  exact h

theorem t107_681 {M : mj_M} {K : mj_K} {x6 : Int32} {x7 : Int32} {x8 : Int32} {x9 : Int32} {x10 : Int32} {x11 : Int32} {o12 : Option Value} {o13 : Option Value} {s0 : Int32} {cn : Nat} (h : mj_W 9 107 17 683 [some (.ref 0), some (.ref 81), some (.ref 82), some (.ref 83), some (.ref 84), some (.ref 85), some (.int x6), some (.int x7), some (.int s0), some (.int x9), some (.int x10), some (.int x11), o12, o13] [] M cn K) : mj_W 9 107 17 681 [some (.ref 0), some (.ref 81), some (.ref 82), some (.ref 83), some (.ref 84), some (.ref 85), some (.int x6), some (.int x7), some (.int x8), some (.int x9), some (.int x10), some (.int x11), o12, o13] [.int s0] M cn K := by
  refine b107_681 ?_
  exact h

theorem t107_749 {M : mj_M} {K : mj_K} {x6 : Int32} {x7 : Int32} {x8 : Int32} {x9 : Int32} {x10 : Int32} {x11 : Int32} {o12 : Option Value} {o13 : Option Value} {s0 : Int32} {cn : Nat} (h : cn ≤ 400 ∧ K 0 (mj_nb s0) M) : mj_W 9 107 17 749 [some (.ref 0), some (.ref 81), some (.ref 82), some (.ref 83), some (.ref 84), some (.ref 85), some (.int x6), some (.int x7), some (.int x8), some (.int x9), some (.int x10), some (.int x11), o12, o13] [.int s0] M cn K := by
  refine b107_749 ?_
  have g1 := h.1
  refine ⟨g1, ?_⟩
  have h1 := h.2
  exact h1

theorem t107_13 {M : mj_M} {K : mj_K} {x6 : Int32} {x7 : Int32} {o8 : Option Value} {o9 : Option Value} {o10 : Option Value} {o11 : Option Value} {o12 : Option Value} {o13 : Option Value} {s0 : Int32} {cn : Nat} (h : (¬ s0 = M 85 0 → mj_W 9 107 17 63 [some (.ref 0), some (.ref 81), some (.ref 82), some (.ref 83), some (.ref 84), some (.ref 85), some (.int x6), some (.int x7), o8, o9, o10, o11, o12, o13] [.int 0] M cn K) ∧ (s0 = M 85 0 → cn + 2 ≤ 400 ∧ mj_Cm 75 3 [.ref 0, .int x7, .int 0] (mj_v M 0) (mj_k2 9 107 17 27 [some (.ref 0), some (.ref 81), some (.ref 82), some (.ref 83), some (.ref 84), some (.ref 85), some (.int x6), some (.int x7), o8, o9, o10, o11, o12, o13] [] M 0 81 (cn + 2) (some .int) K))) : mj_W 9 107 17 13 [some (.ref 0), some (.ref 81), some (.ref 82), some (.ref 83), some (.ref 84), some (.ref 85), some (.int x6), some (.int x7), o8, o9, o10, o11, o12, o13] [.int s0] M cn K := by
  refine b107_13 ?_
  refine ⟨fun c1 => ?_, fun c1 => ?_⟩
  · have h1a := h.1 c1
    refine b107_62 ?_
    exact h1a
  · have h1a := h.2 c1
    refine b107_20 ?_
    have g2 := h1a.1
    refine ⟨g2, ?_⟩
    have h2 := h1a.2
    exact h2

theorem t107_87 {M : mj_M} {K : mj_K} {x6 : Int32} {x7 : Int32} {x8 : Int32} {x9 : Int32} {o10 : Option Value} {o11 : Option Value} {o12 : Option Value} {o13 : Option Value} {s0 : Int32} {cn : Nat} (h : vp_in (5 * x7 + x9) 30 ∧ ((¬ s0 = M 83 ((5 * x7 + x9).toNatClampNeg) → mj_W 9 107 17 104 [some (.ref 0), some (.ref 81), some (.ref 82), some (.ref 83), some (.ref 84), some (.ref 85), some (.int x6), some (.int x7), some (.int x8), some (.int x9), o10, o11, o12, o13] [.int 0] M cn K) ∧ (s0 = M 83 ((5 * x7 + x9).toNatClampNeg) → mj_W 9 107 17 104 [some (.ref 0), some (.ref 81), some (.ref 82), some (.ref 83), some (.ref 84), some (.ref 85), some (.int x6), some (.int x7), some (.int x8), some (.int x9), o10, o11, o12, o13] [.int 1] M cn K))) : mj_W 9 107 17 87 [some (.ref 0), some (.ref 81), some (.ref 82), some (.ref 83), some (.ref 84), some (.ref 85), some (.int x6), some (.int x7), some (.int x8), some (.int x9), o10, o11, o12, o13] [.int s0] M cn K := by
  refine b107_87 ?_
  have g1 := h.1
  refine ⟨g1, ?_⟩
  have h1 := h.2
  refine ⟨fun c2 => ?_, fun c2 => ?_⟩
  · have h2a := h1.1 c2
    refine b107_103 ?_
    exact h2a
  · have h2a := h1.2 c2
    refine b107_99 ?_
    exact h2a

theorem t107_150 {M : mj_M} {K : mj_K} {x6 : Int32} {x7 : Int32} {x8 : Int32} {x9 : Int32} {x10 : Int32} {x11 : Int32} {o12 : Option Value} {o13 : Option Value} {s0 : Int32} {s1 : Int32} {cn : Nat} (h : (¬ s1 = x9 → mj_W 9 107 17 160 [some (.ref 0), some (.ref 81), some (.ref 82), some (.ref 83), some (.ref 84), some (.ref 85), some (.int x6), some (.int x7), some (.int x8), some (.int x9), some (.int x10), some (.int x11), o12, o13] [.int 0, .int s0] M cn K) ∧ (s1 = x9 → mj_W 9 107 17 160 [some (.ref 0), some (.ref 81), some (.ref 82), some (.ref 83), some (.ref 84), some (.ref 85), some (.int x6), some (.int x7), some (.int x8), some (.int x9), some (.int x10), some (.int x11), o12, o13] [.int 1, .int s0] M cn K)) : mj_W 9 107 17 150 [some (.ref 0), some (.ref 81), some (.ref 82), some (.ref 83), some (.ref 84), some (.ref 85), some (.int x6), some (.int x7), some (.int x8), some (.int x9), some (.int x10), some (.int x11), o12, o13] [.int s1, .int s0] M cn K := by
  refine b107_150 ?_
  refine ⟨fun c1 => ?_, fun c1 => ?_⟩
  · have h1a := h.1 c1
    refine b107_159 ?_
    exact h1a
  · have h1a := h.2 c1
    refine b107_155 ?_
    exact h1a

theorem t107_551 {M : mj_M} {K : mj_K} {x6 : Int32} {x7 : Int32} {x8 : Int32} {x9 : Int32} {x10 : Int32} {x11 : Int32} {x12 : Int32} {o13 : Option Value} {s0 : Int32} {cn : Nat} (h : vp_in (6 * x12 + 1) 18 ∧ ((¬ s0 = M 84 ((6 * x12 + 1).toNatClampNeg) → mj_W 9 107 17 637 [some (.ref 0), some (.ref 81), some (.ref 82), some (.ref 83), some (.ref 84), some (.ref 85), some (.int x6), some (.int x7), some (.int x8), some (.int x9), some (.int x10), some (.int x11), some (.int x12), o13] [.int 0] M cn K) ∧ (s0 = M 84 ((6 * x12 + 1).toNatClampNeg) → cn + 2 ≤ 400 ∧ mj_Cm 78 3 [.ref 0, .int x12, .int 1] (mj_v M 0) (mj_k2 9 107 17 571 [some (.ref 0), some (.ref 81), some (.ref 82), some (.ref 83), some (.ref 84), some (.ref 85), some (.int x6), some (.int x7), some (.int x8), some (.int x9), some (.int x10), some (.int x11), some (.int x12), o13] [] M 0 81 (cn + 2) (some .int) K)))) : mj_W 9 107 17 551 [some (.ref 0), some (.ref 81), some (.ref 82), some (.ref 83), some (.ref 84), some (.ref 85), some (.int x6), some (.int x7), some (.int x8), some (.int x9), some (.int x10), some (.int x11), some (.int x12), o13] [.int s0] M cn K := by
  refine b107_551 ?_
  have g1 := h.1
  refine ⟨g1, ?_⟩
  have h1 := h.2
  refine ⟨fun c2 => ?_, fun c2 => ?_⟩
  · have h2a := h1.1 c2
    refine b107_636 ?_
    exact h2a
  · have h2a := h1.2 c2
    refine b107_564 ?_
    have g3 := h2a.1
    refine ⟨g3, ?_⟩
    have h3 := h2a.2
    exact h3

theorem t107_660 {M : mj_M} {K : mj_K} {x6 : Int32} {x7 : Int32} {x8 : Int32} {x9 : Int32} {x10 : Int32} {x11 : Int32} {o12 : Option Value} {o13 : Option Value} {s0 : Int32} {cn : Nat} (h : cn + 105 ≤ 400 ∧ mj_Cm 105 5 [.ref 0, .ref 1, .ref 2, .ref 3, .ref 4, .int (-1), .int 100] (mj_v M 81) (mj_k2 9 107 17 673 [some (.ref 0), some (.ref 81), some (.ref 82), some (.ref 83), some (.ref 84), some (.ref 85), some (.int x6), some (.int x7), some (.int x8), some (.int x9), some (.int x10), some (.int x11), o12, o13] [.int s0] M 81 5 (cn + 105) (some .int) K)) : mj_W 9 107 17 660 [some (.ref 0), some (.ref 81), some (.ref 82), some (.ref 83), some (.ref 84), some (.ref 85), some (.int x6), some (.int x7), some (.int x8), some (.int x9), some (.int x10), some (.int x11), o12, o13] [.int s0] M cn K := by
  refine b107_660 ?_
  have g1 := h.1
  refine ⟨g1, ?_⟩
  have h1 := h.2
  exact h1

theorem t107_718 {M : mj_M} {K : mj_K} {x6 : Int32} {x7 : Int32} {x8 : Int32} {x9 : Int32} {x10 : Int32} {x11 : Int32} {o12 : Option Value} {o13 : Option Value} {s0 : Int32} {cn : Nat} (h : cn + 105 ≤ 400 ∧ mj_Cm 105 5 [.ref 0, .ref 1, .ref 2, .ref 3, .ref 4, .int x7, .int (1 + (x6 / 11520 - x6 / 11520 / 20 * 20))] (mj_v M 81) (mj_k2 9 107 17 741 [some (.ref 0), some (.ref 81), some (.ref 82), some (.ref 83), some (.ref 84), some (.ref 85), some (.int x6), some (.int x7), some (.int x8), some (.int x9), some (.int x10), some (.int x11), o12, o13] [.int s0] M 81 5 (cn + 105) (some .int) K)) : mj_W 9 107 17 718 [some (.ref 0), some (.ref 81), some (.ref 82), some (.ref 83), some (.ref 84), some (.ref 85), some (.int x6), some (.int x7), some (.int x8), some (.int x9), some (.int x10), some (.int x11), o12, o13] [.int s0] M cn K := by
  refine b107_718 ?_
  have g1 := h.1
  refine ⟨g1, ?_⟩
  have h1 := h.2
  exact h1

theorem t107_222 {M : mj_M} {K : mj_K} {x6 : Int32} {x7 : Int32} {x8 : Int32} {x9 : Int32} {x10 : Int32} {x11 : Int32} {o12 : Option Value} {o13 : Option Value} {s0 : Int32} {cn : Nat} (h : vp_in (11 * x9 + 5) 55 ∧ ((¬ s0 = M 82 ((11 * x9 + 5).toNatClampNeg) → mj_W 9 107 17 303 [some (.ref 0), some (.ref 81), some (.ref 82), some (.ref 83), some (.ref 84), some (.ref 85), some (.int x6), some (.int x7), some (.int x8), some (.int x9), some (.int x10), some (.int x11), o12, o13] [.int 0] M cn K) ∧ (s0 = M 82 ((11 * x9 + 5).toNatClampNeg) → cn + 2 ≤ 400 ∧ mj_Cm 76 5 [.ref 0, .int x9, .int 1] (mj_v M 0) (mj_k2 9 107 17 241 [some (.ref 0), some (.ref 81), some (.ref 82), some (.ref 83), some (.ref 84), some (.ref 85), some (.int x6), some (.int x7), some (.int x8), some (.int x9), some (.int x10), some (.int x11), o12, o13] [] M 0 81 (cn + 2) (some .int) K)))) : mj_W 9 107 17 222 [some (.ref 0), some (.ref 81), some (.ref 82), some (.ref 83), some (.ref 84), some (.ref 85), some (.int x6), some (.int x7), some (.int x8), some (.int x9), some (.int x10), some (.int x11), o12, o13] [.int s0] M cn K := by
  refine b107_222 ?_
  have g1 := h.1
  refine ⟨g1, ?_⟩
  have h1 := h.2
  refine ⟨fun c2 => ?_, fun c2 => ?_⟩
  · have h2a := h1.1 c2
    refine b107_302 ?_
    exact h2a
  · have h2a := h1.2 c2
    refine b107_234 ?_
    have g3 := h2a.1
    refine ⟨g3, ?_⟩
    have h3 := h2a.2
    exact h3

theorem t107_354 {M : mj_M} {K : mj_K} {x6 : Int32} {x7 : Int32} {x8 : Int32} {x9 : Int32} {x10 : Int32} {x11 : Int32} {x12 : Int32} {o13 : Option Value} {s0 : Int32} {cn : Nat} (h : cn + 2 ≤ 400 ∧ mj_Cm 77 4 [.ref 0, .int x12, .int 0] (mj_v M 0) (mj_k2 9 107 17 363 [some (.ref 0), some (.ref 81), some (.ref 82), some (.ref 83), some (.ref 84), some (.ref 85), some (.int x6), some (.int x7), some (.int x8), some (.int x9), some (.int x10), some (.int x11), some (.int x12), some (.int s0)] [] M 0 81 (cn + 2) (some .int) K)) : mj_W 9 107 17 354 [some (.ref 0), some (.ref 81), some (.ref 82), some (.ref 83), some (.ref 84), some (.ref 85), some (.int x6), some (.int x7), some (.int x8), some (.int x9), some (.int x10), some (.int x11), some (.int x12), o13] [.int s0] M cn K := by
  refine b107_354 ?_
  have g1 := h.1
  refine ⟨g1, ?_⟩
  have h1 := h.2
  exact h1

theorem t107_619 {M : mj_M} {K : mj_K} {x6 : Int32} {x7 : Int32} {x8 : Int32} {x9 : Int32} {x10 : Int32} {x11 : Int32} {x12 : Int32} {o13 : Option Value} {s0 : Int32} {cn : Nat} (h : vp_in (6 * x12 + 4) 18 ∧ ((¬ s0 = M 84 ((6 * x12 + 4).toNatClampNeg) → mj_W 9 107 17 637 [some (.ref 0), some (.ref 81), some (.ref 82), some (.ref 83), some (.ref 84), some (.ref 85), some (.int x6), some (.int x7), some (.int x8), some (.int x9), some (.int x10), some (.int x11), some (.int x12), o13] [.int 0] M cn K) ∧ (s0 = M 84 ((6 * x12 + 4).toNatClampNeg) → mj_W 9 107 17 637 [some (.ref 0), some (.ref 81), some (.ref 82), some (.ref 83), some (.ref 84), some (.ref 85), some (.int x6), some (.int x7), some (.int x8), some (.int x9), some (.int x10), some (.int x11), some (.int x12), o13] [.int 1] M cn K))) : mj_W 9 107 17 619 [some (.ref 0), some (.ref 81), some (.ref 82), some (.ref 83), some (.ref 84), some (.ref 85), some (.int x6), some (.int x7), some (.int x8), some (.int x9), some (.int x10), some (.int x11), some (.int x12), o13] [.int s0] M cn K := by
  refine b107_619 ?_
  have g1 := h.1
  refine ⟨g1, ?_⟩
  have h1 := h.2
  refine ⟨fun c2 => ?_, fun c2 => ?_⟩
  · have h2a := h1.1 c2
    refine b107_636 ?_
    exact h2a
  · have h2a := h1.2 c2
    refine b107_632 ?_
    exact h2a

theorem t107_27 {M : mj_M} {K : mj_K} {x6 : Int32} {x7 : Int32} {o8 : Option Value} {o9 : Option Value} {o10 : Option Value} {o11 : Option Value} {o12 : Option Value} {o13 : Option Value} {s0 : Int32} {cn : Nat} (h : cn + 0 ≤ 400 ∧ mj_Cm 95 1 [.ref 0, .ref 4, .int x7, .int 0] (mj_v M 81) (mj_k2 9 107 17 36 [some (.ref 0), some (.ref 81), some (.ref 82), some (.ref 83), some (.ref 84), some (.ref 85), some (.int x6), some (.int x7), o8, o9, o10, o11, o12, o13] [.int s0] M 81 5 cn (some .int) K)) : mj_W 9 107 17 27 [some (.ref 0), some (.ref 81), some (.ref 82), some (.ref 83), some (.ref 84), some (.ref 85), some (.int x6), some (.int x7), o8, o9, o10, o11, o12, o13] [.int s0] M cn K := by
  refine b107_27 ?_
  have g1 := h.1
  refine ⟨g1, ?_⟩
  have h1 := h.2
  exact h1

theorem t107_571 {M : mj_M} {K : mj_K} {x6 : Int32} {x7 : Int32} {x8 : Int32} {x9 : Int32} {x10 : Int32} {x11 : Int32} {x12 : Int32} {o13 : Option Value} {s0 : Int32} {cn : Nat} (h : vp_in (6 * x12 + 2) 18 ∧ ((¬ s0 = M 84 ((6 * x12 + 2).toNatClampNeg) → mj_W 9 107 17 637 [some (.ref 0), some (.ref 81), some (.ref 82), some (.ref 83), some (.ref 84), some (.ref 85), some (.int x6), some (.int x7), some (.int x8), some (.int x9), some (.int x10), some (.int x11), some (.int x12), o13] [.int 0] M cn K) ∧ (s0 = M 84 ((6 * x12 + 2).toNatClampNeg) → cn + 2 ≤ 400 ∧ mj_Cm 78 3 [.ref 0, .int x12, .int 2] (mj_v M 0) (mj_k2 9 107 17 591 [some (.ref 0), some (.ref 81), some (.ref 82), some (.ref 83), some (.ref 84), some (.ref 85), some (.int x6), some (.int x7), some (.int x8), some (.int x9), some (.int x10), some (.int x11), some (.int x12), o13] [] M 0 81 (cn + 2) (some .int) K)))) : mj_W 9 107 17 571 [some (.ref 0), some (.ref 81), some (.ref 82), some (.ref 83), some (.ref 84), some (.ref 85), some (.int x6), some (.int x7), some (.int x8), some (.int x9), some (.int x10), some (.int x11), some (.int x12), o13] [.int s0] M cn K := by
  refine b107_571 ?_
  have g1 := h.1
  refine ⟨g1, ?_⟩
  have h1 := h.2
  refine ⟨fun c2 => ?_, fun c2 => ?_⟩
  · have h2a := h1.1 c2
    refine b107_636 ?_
    exact h2a
  · have h2a := h1.2 c2
    refine b107_584 ?_
    have g3 := h2a.1
    refine ⟨g3, ?_⟩
    have h3 := h2a.2
    exact h3

theorem t107_673 {M : mj_M} {K : mj_K} {x6 : Int32} {x7 : Int32} {x8 : Int32} {x9 : Int32} {x10 : Int32} {x11 : Int32} {o12 : Option Value} {o13 : Option Value} {s0 : Int32} {s1 : Int32} {cn : Nat} (h : (¬ s0 = s1 → mj_W 9 107 17 681 [some (.ref 0), some (.ref 81), some (.ref 82), some (.ref 83), some (.ref 84), some (.ref 85), some (.int x6), some (.int x7), some (.int x8), some (.int x9), some (.int x10), some (.int x11), o12, o13] [.int 0] M cn K) ∧ (s0 = s1 → mj_W 9 107 17 681 [some (.ref 0), some (.ref 81), some (.ref 82), some (.ref 83), some (.ref 84), some (.ref 85), some (.int x6), some (.int x7), some (.int x8), some (.int x9), some (.int x10), some (.int x11), o12, o13] [.int 1] M cn K)) : mj_W 9 107 17 673 [some (.ref 0), some (.ref 81), some (.ref 82), some (.ref 83), some (.ref 84), some (.ref 85), some (.int x6), some (.int x7), some (.int x8), some (.int x9), some (.int x10), some (.int x11), o12, o13] [.int s1, .int s0] M cn K := by
  refine b107_673 ?_
  refine ⟨fun c1 => ?_, fun c1 => ?_⟩
  · have h1a := h.1 c1
    refine b107_680 ?_
    exact h1a
  · have h1a := h.2 c1
    refine b107_676 ?_
    exact h1a

theorem t107_741 {M : mj_M} {K : mj_K} {x6 : Int32} {x7 : Int32} {x8 : Int32} {x9 : Int32} {x10 : Int32} {x11 : Int32} {o12 : Option Value} {o13 : Option Value} {s0 : Int32} {s1 : Int32} {cn : Nat} (h : (¬ s0 = s1 → mj_W 9 107 17 749 [some (.ref 0), some (.ref 81), some (.ref 82), some (.ref 83), some (.ref 84), some (.ref 85), some (.int x6), some (.int x7), some (.int x8), some (.int x9), some (.int x10), some (.int x11), o12, o13] [.int 0] M cn K) ∧ (s0 = s1 → mj_W 9 107 17 749 [some (.ref 0), some (.ref 81), some (.ref 82), some (.ref 83), some (.ref 84), some (.ref 85), some (.int x6), some (.int x7), some (.int x8), some (.int x9), some (.int x10), some (.int x11), o12, o13] [.int 1] M cn K)) : mj_W 9 107 17 741 [some (.ref 0), some (.ref 81), some (.ref 82), some (.ref 83), some (.ref 84), some (.ref 85), some (.int x6), some (.int x7), some (.int x8), some (.int x9), some (.int x10), some (.int x11), o12, o13] [.int s1, .int s0] M cn K := by
  refine b107_741 ?_
  refine ⟨fun c1 => ?_, fun c1 => ?_⟩
  · have h1a := h.1 c1
    refine b107_748 ?_
    exact h1a
  · have h1a := h.2 c1
    refine b107_744 ?_
    exact h1a

theorem t107_241 {M : mj_M} {K : mj_K} {x6 : Int32} {x7 : Int32} {x8 : Int32} {x9 : Int32} {x10 : Int32} {x11 : Int32} {o12 : Option Value} {o13 : Option Value} {s0 : Int32} {cn : Nat} (h : vp_in (11 * x9 + 9) 55 ∧ ((¬ s0 = M 82 ((11 * x9 + 9).toNatClampNeg) → mj_W 9 107 17 303 [some (.ref 0), some (.ref 81), some (.ref 82), some (.ref 83), some (.ref 84), some (.ref 85), some (.int x6), some (.int x7), some (.int x8), some (.int x9), some (.int x10), some (.int x11), o12, o13] [.int 0] M cn K) ∧ (s0 = M 82 ((11 * x9 + 9).toNatClampNeg) → cn + 2 ≤ 400 ∧ mj_Cm 76 5 [.ref 0, .int x9, .int 2] (mj_v M 0) (mj_k2 9 107 17 261 [some (.ref 0), some (.ref 81), some (.ref 82), some (.ref 83), some (.ref 84), some (.ref 85), some (.int x6), some (.int x7), some (.int x8), some (.int x9), some (.int x10), some (.int x11), o12, o13] [] M 0 81 (cn + 2) (some .int) K)))) : mj_W 9 107 17 241 [some (.ref 0), some (.ref 81), some (.ref 82), some (.ref 83), some (.ref 84), some (.ref 85), some (.int x6), some (.int x7), some (.int x8), some (.int x9), some (.int x10), some (.int x11), o12, o13] [.int s0] M cn K := by
  refine b107_241 ?_
  have g1 := h.1
  refine ⟨g1, ?_⟩
  have h1 := h.2
  refine ⟨fun c2 => ?_, fun c2 => ?_⟩
  · have h2a := h1.1 c2
    refine b107_302 ?_
    exact h2a
  · have h2a := h1.2 c2
    refine b107_254 ?_
    have g3 := h2a.1
    refine ⟨g3, ?_⟩
    have h3 := h2a.2
    exact h3

theorem t107_363 {M : mj_M} {K : mj_K} {x6 : Int32} {x7 : Int32} {x8 : Int32} {x9 : Int32} {x10 : Int32} {x11 : Int32} {x12 : Int32} {x13 : Int32} {s0 : Int32} {cn : Nat} (h : vp_in (8 * x12 + 1) 64 ∧ ((¬ s0 = M 81 ((8 * x12 + 1).toNatClampNeg) → mj_W 9 107 17 517 [some (.ref 0), some (.ref 81), some (.ref 82), some (.ref 83), some (.ref 84), some (.ref 85), some (.int x6), some (.int x7), some (.int x8), some (.int x9), some (.int x10), some (.int x11), some (.int x12), some (.int x13)] [.int 0] M cn K) ∧ (s0 = M 81 ((8 * x12 + 1).toNatClampNeg) → cn + 2 ≤ 400 ∧ mj_Cm 77 4 [.ref 0, .int x12, .int 1] (mj_v M 0) (mj_k2 9 107 17 382 [some (.ref 0), some (.ref 81), some (.ref 82), some (.ref 83), some (.ref 84), some (.ref 85), some (.int x6), some (.int x7), some (.int x8), some (.int x9), some (.int x10), some (.int x11), some (.int x12), some (.int x13)] [] M 0 81 (cn + 2) (some .int) K)))) : mj_W 9 107 17 363 [some (.ref 0), some (.ref 81), some (.ref 82), some (.ref 83), some (.ref 84), some (.ref 85), some (.int x6), some (.int x7), some (.int x8), some (.int x9), some (.int x10), some (.int x11), some (.int x12), some (.int x13)] [.int s0] M cn K := by
  refine b107_363 ?_
  have g1 := h.1
  refine ⟨g1, ?_⟩
  have h1 := h.2
  refine ⟨fun c2 => ?_, fun c2 => ?_⟩
  · have h2a := h1.1 c2
    refine b107_516 ?_
    exact h2a
  · have h2a := h1.2 c2
    refine b107_375 ?_
    have g3 := h2a.1
    refine ⟨g3, ?_⟩
    have h3 := h2a.2
    exact h3

theorem t107_36 {M : mj_M} {K : mj_K} {x6 : Int32} {x7 : Int32} {o8 : Option Value} {o9 : Option Value} {o10 : Option Value} {o11 : Option Value} {o12 : Option Value} {o13 : Option Value} {s0 : Int32} {s1 : Int32} {cn : Nat} (h : (¬ s0 = s1 → mj_W 9 107 17 63 [some (.ref 0), some (.ref 81), some (.ref 82), some (.ref 83), some (.ref 84), some (.ref 85), some (.int x6), some (.int x7), o8, o9, o10, o11, o12, o13] [.int 0] M cn K) ∧ (s0 = s1 → cn + 2 ≤ 400 ∧ mj_Cm 75 3 [.ref 0, .int x7, .int 1] (mj_v M 0) (mj_k2 9 107 17 46 [some (.ref 0), some (.ref 81), some (.ref 82), some (.ref 83), some (.ref 84), some (.ref 85), some (.int x6), some (.int x7), o8, o9, o10, o11, o12, o13] [] M 0 81 (cn + 2) (some .int) K))) : mj_W 9 107 17 36 [some (.ref 0), some (.ref 81), some (.ref 82), some (.ref 83), some (.ref 84), some (.ref 85), some (.int x6), some (.int x7), o8, o9, o10, o11, o12, o13] [.int s1, .int s0] M cn K := by
  refine b107_36 ?_
  refine ⟨fun c1 => ?_, fun c1 => ?_⟩
  · have h1a := h.1 c1
    refine b107_62 ?_
    exact h1a
  · have h1a := h.2 c1
    refine b107_39 ?_
    have g2 := h1a.1
    refine ⟨g2, ?_⟩
    have h2 := h1a.2
    exact h2

theorem t107_591 {M : mj_M} {K : mj_K} {x6 : Int32} {x7 : Int32} {x8 : Int32} {x9 : Int32} {x10 : Int32} {x11 : Int32} {x12 : Int32} {o13 : Option Value} {s0 : Int32} {cn : Nat} (h : vp_in (6 * x12 + 4) 18 ∧ ((M 84 ((6 * x12 + 4).toNatClampNeg) ≤ 0 → mj_W 9 107 17 609 [some (.ref 0), some (.ref 81), some (.ref 82), some (.ref 83), some (.ref 84), some (.ref 85), some (.int x6), some (.int x7), some (.int x8), some (.int x9), some (.int x10), some (.int x11), some (.int x12), o13] [.int 0, .int s0] M cn K) ∧ (¬ M 84 ((6 * x12 + 4).toNatClampNeg) ≤ 0 → mj_W 9 107 17 609 [some (.ref 0), some (.ref 81), some (.ref 82), some (.ref 83), some (.ref 84), some (.ref 85), some (.int x6), some (.int x7), some (.int x8), some (.int x9), some (.int x10), some (.int x11), some (.int x12), o13] [.int 1, .int s0] M cn K))) : mj_W 9 107 17 591 [some (.ref 0), some (.ref 81), some (.ref 82), some (.ref 83), some (.ref 84), some (.ref 85), some (.int x6), some (.int x7), some (.int x8), some (.int x9), some (.int x10), some (.int x11), some (.int x12), o13] [.int s0] M cn K := by
  refine b107_591 ?_
  have g1 := h.1
  refine ⟨g1, ?_⟩
  have h1 := h.2
  refine ⟨fun c2 => ?_, fun c2 => ?_⟩
  · have h2a := h1.1 c2
    refine b107_608 ?_
    exact h2a
  · have h2a := h1.2 c2
    refine b107_604 ?_
    exact h2a

theorem t107_261 {M : mj_M} {K : mj_K} {x6 : Int32} {x7 : Int32} {x8 : Int32} {x9 : Int32} {x10 : Int32} {x11 : Int32} {o12 : Option Value} {o13 : Option Value} {s0 : Int32} {cn : Nat} (h : vp_in (11 * x9 + 10) 55 ∧ ((¬ s0 = M 82 ((11 * x9 + 10).toNatClampNeg) → mj_W 9 107 17 303 [some (.ref 0), some (.ref 81), some (.ref 82), some (.ref 83), some (.ref 84), some (.ref 85), some (.int x6), some (.int x7), some (.int x8), some (.int x9), some (.int x10), some (.int x11), o12, o13] [.int 0] M cn K) ∧ (s0 = M 82 ((11 * x9 + 10).toNatClampNeg) → cn + 2 ≤ 400 ∧ mj_Cm 76 5 [.ref 0, .int x9, .int 3] (mj_v M 0) (mj_k2 9 107 17 281 [some (.ref 0), some (.ref 81), some (.ref 82), some (.ref 83), some (.ref 84), some (.ref 85), some (.int x6), some (.int x7), some (.int x8), some (.int x9), some (.int x10), some (.int x11), o12, o13] [] M 0 81 (cn + 2) (some .int) K)))) : mj_W 9 107 17 261 [some (.ref 0), some (.ref 81), some (.ref 82), some (.ref 83), some (.ref 84), some (.ref 85), some (.int x6), some (.int x7), some (.int x8), some (.int x9), some (.int x10), some (.int x11), o12, o13] [.int s0] M cn K := by
  refine b107_261 ?_
  have g1 := h.1
  refine ⟨g1, ?_⟩
  have h1 := h.2
  refine ⟨fun c2 => ?_, fun c2 => ?_⟩
  · have h2a := h1.1 c2
    refine b107_302 ?_
    exact h2a
  · have h2a := h1.2 c2
    refine b107_274 ?_
    have g3 := h2a.1
    refine ⟨g3, ?_⟩
    have h3 := h2a.2
    exact h3

theorem t107_382 {M : mj_M} {K : mj_K} {x6 : Int32} {x7 : Int32} {x8 : Int32} {x9 : Int32} {x10 : Int32} {x11 : Int32} {x12 : Int32} {x13 : Int32} {s0 : Int32} {cn : Nat} (h : vp_in (8 * x12) 64 ∧ ((¬ s0 = M 81 ((8 * x12).toNatClampNeg) → mj_W 9 107 17 517 [some (.ref 0), some (.ref 81), some (.ref 82), some (.ref 83), some (.ref 84), some (.ref 85), some (.int x6), some (.int x7), some (.int x8), some (.int x9), some (.int x10), some (.int x11), some (.int x12), some (.int x13)] [.int 0] M cn K) ∧ (s0 = M 81 ((8 * x12).toNatClampNeg) → cn + 2 ≤ 400 ∧ mj_Cm 77 4 [.ref 0, .int x12, .int 2] (mj_v M 0) (mj_k2 9 107 17 399 [some (.ref 0), some (.ref 81), some (.ref 82), some (.ref 83), some (.ref 84), some (.ref 85), some (.int x6), some (.int x7), some (.int x8), some (.int x9), some (.int x10), some (.int x11), some (.int x12), some (.int x13)] [] M 0 81 (cn + 2) (some .int) K)))) : mj_W 9 107 17 382 [some (.ref 0), some (.ref 81), some (.ref 82), some (.ref 83), some (.ref 84), some (.ref 85), some (.int x6), some (.int x7), some (.int x8), some (.int x9), some (.int x10), some (.int x11), some (.int x12), some (.int x13)] [.int s0] M cn K := by
  refine b107_382 ?_
  have g1 := h.1
  refine ⟨g1, ?_⟩
  have h1 := h.2
  refine ⟨fun c2 => ?_, fun c2 => ?_⟩
  · have h2a := h1.1 c2
    refine b107_516 ?_
    exact h2a
  · have h2a := h1.2 c2
    refine b107_392 ?_
    have g3 := h2a.1
    refine ⟨g3, ?_⟩
    have h3 := h2a.2
    exact h3

theorem t107_46 {M : mj_M} {K : mj_K} {x6 : Int32} {x7 : Int32} {o8 : Option Value} {o9 : Option Value} {o10 : Option Value} {o11 : Option Value} {o12 : Option Value} {o13 : Option Value} {s0 : Int32} {cn : Nat} (h : cn + 0 ≤ 400 ∧ mj_Cm 95 1 [.ref 0, .ref 4, .int x7, .int 1] (mj_v M 81) (mj_k2 9 107 17 55 [some (.ref 0), some (.ref 81), some (.ref 82), some (.ref 83), some (.ref 84), some (.ref 85), some (.int x6), some (.int x7), o8, o9, o10, o11, o12, o13] [.int s0] M 81 5 cn (some .int) K)) : mj_W 9 107 17 46 [some (.ref 0), some (.ref 81), some (.ref 82), some (.ref 83), some (.ref 84), some (.ref 85), some (.int x6), some (.int x7), o8, o9, o10, o11, o12, o13] [.int s0] M cn K := by
  refine b107_46 ?_
  have g1 := h.1
  refine ⟨g1, ?_⟩
  have h1 := h.2
  exact h1

theorem t107_281 {M : mj_M} {K : mj_K} {x6 : Int32} {x7 : Int32} {x8 : Int32} {x9 : Int32} {x10 : Int32} {x11 : Int32} {o12 : Option Value} {o13 : Option Value} {s0 : Int32} {cn : Nat} (h : (¬ s0 = x10 → mj_W 9 107 17 303 [some (.ref 0), some (.ref 81), some (.ref 82), some (.ref 83), some (.ref 84), some (.ref 85), some (.int x6), some (.int x7), some (.int x8), some (.int x9), some (.int x10), some (.int x11), o12, o13] [.int 0] M cn K) ∧ (s0 = x10 → cn + 2 ≤ 400 ∧ mj_Cm 76 5 [.ref 0, .int x9, .int 4] (mj_v M 0) (mj_k2 9 107 17 293 [some (.ref 0), some (.ref 81), some (.ref 82), some (.ref 83), some (.ref 84), some (.ref 85), some (.int x6), some (.int x7), some (.int x8), some (.int x9), some (.int x10), some (.int x11), o12, o13] [] M 0 81 (cn + 2) (some .int) K))) : mj_W 9 107 17 281 [some (.ref 0), some (.ref 81), some (.ref 82), some (.ref 83), some (.ref 84), some (.ref 85), some (.int x6), some (.int x7), some (.int x8), some (.int x9), some (.int x10), some (.int x11), o12, o13] [.int s0] M cn K := by
  refine b107_281 ?_
  refine ⟨fun c1 => ?_, fun c1 => ?_⟩
  · have h1a := h.1 c1
    refine b107_302 ?_
    exact h1a
  · have h1a := h.2 c1
    refine b107_286 ?_
    have g2 := h1a.1
    refine ⟨g2, ?_⟩
    have h2 := h1a.2
    exact h2

theorem t107_399 {M : mj_M} {K : mj_K} {x6 : Int32} {x7 : Int32} {x8 : Int32} {x9 : Int32} {x10 : Int32} {x11 : Int32} {x12 : Int32} {x13 : Int32} {s0 : Int32} {cn : Nat} (h : vp_in (8 * x12 + 2) 64 ∧ ((¬ s0 = M 81 ((8 * x12 + 2).toNatClampNeg) → mj_W 9 107 17 517 [some (.ref 0), some (.ref 81), some (.ref 82), some (.ref 83), some (.ref 84), some (.ref 85), some (.int x6), some (.int x7), some (.int x8), some (.int x9), some (.int x10), some (.int x11), some (.int x12), some (.int x13)] [.int 0] M cn K) ∧ (s0 = M 81 ((8 * x12 + 2).toNatClampNeg) → cn + 2 ≤ 400 ∧ mj_Cm 77 4 [.ref 0, .int x12, .int 3] (mj_v M 0) (mj_k2 9 107 17 418 [some (.ref 0), some (.ref 81), some (.ref 82), some (.ref 83), some (.ref 84), some (.ref 85), some (.int x6), some (.int x7), some (.int x8), some (.int x9), some (.int x10), some (.int x11), some (.int x12), some (.int x13)] [] M 0 81 (cn + 2) (some .int) K)))) : mj_W 9 107 17 399 [some (.ref 0), some (.ref 81), some (.ref 82), some (.ref 83), some (.ref 84), some (.ref 85), some (.int x6), some (.int x7), some (.int x8), some (.int x9), some (.int x10), some (.int x11), some (.int x12), some (.int x13)] [.int s0] M cn K := by
  refine b107_399 ?_
  have g1 := h.1
  refine ⟨g1, ?_⟩
  have h1 := h.2
  refine ⟨fun c2 => ?_, fun c2 => ?_⟩
  · have h2a := h1.1 c2
    refine b107_516 ?_
    exact h2a
  · have h2a := h1.2 c2
    refine b107_411 ?_
    have g3 := h2a.1
    refine ⟨g3, ?_⟩
    have h3 := h2a.2
    exact h3

theorem t107_55 {M : mj_M} {K : mj_K} {x6 : Int32} {x7 : Int32} {o8 : Option Value} {o9 : Option Value} {o10 : Option Value} {o11 : Option Value} {o12 : Option Value} {o13 : Option Value} {s0 : Int32} {s1 : Int32} {cn : Nat} (h : (¬ s0 = s1 → mj_W 9 107 17 63 [some (.ref 0), some (.ref 81), some (.ref 82), some (.ref 83), some (.ref 84), some (.ref 85), some (.int x6), some (.int x7), o8, o9, o10, o11, o12, o13] [.int 0] M cn K) ∧ (s0 = s1 → mj_W 9 107 17 63 [some (.ref 0), some (.ref 81), some (.ref 82), some (.ref 83), some (.ref 84), some (.ref 85), some (.int x6), some (.int x7), o8, o9, o10, o11, o12, o13] [.int 1] M cn K)) : mj_W 9 107 17 55 [some (.ref 0), some (.ref 81), some (.ref 82), some (.ref 83), some (.ref 84), some (.ref 85), some (.int x6), some (.int x7), o8, o9, o10, o11, o12, o13] [.int s1, .int s0] M cn K := by
  refine b107_55 ?_
  refine ⟨fun c1 => ?_, fun c1 => ?_⟩
  · have h1a := h.1 c1
    refine b107_62 ?_
    exact h1a
  · have h1a := h.2 c1
    refine b107_58 ?_
    exact h1a

theorem t107_293 {M : mj_M} {K : mj_K} {x6 : Int32} {x7 : Int32} {x8 : Int32} {x9 : Int32} {x10 : Int32} {x11 : Int32} {o12 : Option Value} {o13 : Option Value} {s0 : Int32} {cn : Nat} (h : (¬ s0 = x11 → mj_W 9 107 17 303 [some (.ref 0), some (.ref 81), some (.ref 82), some (.ref 83), some (.ref 84), some (.ref 85), some (.int x6), some (.int x7), some (.int x8), some (.int x9), some (.int x10), some (.int x11), o12, o13] [.int 0] M cn K) ∧ (s0 = x11 → mj_W 9 107 17 303 [some (.ref 0), some (.ref 81), some (.ref 82), some (.ref 83), some (.ref 84), some (.ref 85), some (.int x6), some (.int x7), some (.int x8), some (.int x9), some (.int x10), some (.int x11), o12, o13] [.int 1] M cn K)) : mj_W 9 107 17 293 [some (.ref 0), some (.ref 81), some (.ref 82), some (.ref 83), some (.ref 84), some (.ref 85), some (.int x6), some (.int x7), some (.int x8), some (.int x9), some (.int x10), some (.int x11), o12, o13] [.int s0] M cn K := by
  refine b107_293 ?_
  refine ⟨fun c1 => ?_, fun c1 => ?_⟩
  · have h1a := h.1 c1
    refine b107_302 ?_
    exact h1a
  · have h1a := h.2 c1
    refine b107_298 ?_
    exact h1a

theorem t107_418 {M : mj_M} {K : mj_K} {x6 : Int32} {x7 : Int32} {x8 : Int32} {x9 : Int32} {x10 : Int32} {x11 : Int32} {x12 : Int32} {x13 : Int32} {s0 : Int32} {cn : Nat} (h : cn + 0 ≤ 400 ∧ mj_Cm 94 3 [.ref 0, .ref 1, .ref 4, .int x12] (mj_v M 81) (mj_k2 9 107 17 427 [some (.ref 0), some (.ref 81), some (.ref 82), some (.ref 83), some (.ref 84), some (.ref 85), some (.int x6), some (.int x7), some (.int x8), some (.int x9), some (.int x10), some (.int x11), some (.int x12), some (.int x13)] [.int s0] M 81 5 cn (some .int) K)) : mj_W 9 107 17 418 [some (.ref 0), some (.ref 81), some (.ref 82), some (.ref 83), some (.ref 84), some (.ref 85), some (.int x6), some (.int x7), some (.int x8), some (.int x9), some (.int x10), some (.int x11), some (.int x12), some (.int x13)] [.int s0] M cn K := by
  refine b107_418 ?_
  have g1 := h.1
  refine ⟨g1, ?_⟩
  have h1 := h.2
  exact h1

theorem t107_427 {M : mj_M} {K : mj_K} {x6 : Int32} {x7 : Int32} {x8 : Int32} {x9 : Int32} {x10 : Int32} {x11 : Int32} {x12 : Int32} {x13 : Int32} {s0 : Int32} {s1 : Int32} {cn : Nat} (h : (¬ s0 = s1 → mj_W 9 107 17 517 [some (.ref 0), some (.ref 81), some (.ref 82), some (.ref 83), some (.ref 84), some (.ref 85), some (.int x6), some (.int x7), some (.int x8), some (.int x9), some (.int x10), some (.int x11), some (.int x12), some (.int x13)] [.int 0] M cn K) ∧ (s0 = s1 → cn + 2 ≤ 400 ∧ mj_Cm 77 4 [.ref 0, .int x12, .int 4] (mj_v M 0) (mj_k2 9 107 17 437 [some (.ref 0), some (.ref 81), some (.ref 82), some (.ref 83), some (.ref 84), some (.ref 85), some (.int x6), some (.int x7), some (.int x8), some (.int x9), some (.int x10), some (.int x11), some (.int x12), some (.int x13)] [] M 0 81 (cn + 2) (some .int) K))) : mj_W 9 107 17 427 [some (.ref 0), some (.ref 81), some (.ref 82), some (.ref 83), some (.ref 84), some (.ref 85), some (.int x6), some (.int x7), some (.int x8), some (.int x9), some (.int x10), some (.int x11), some (.int x12), some (.int x13)] [.int s1, .int s0] M cn K := by
  refine b107_427 ?_
  refine ⟨fun c1 => ?_, fun c1 => ?_⟩
  · have h1a := h.1 c1
    refine b107_516 ?_
    exact h1a
  · have h1a := h.2 c1
    refine b107_430 ?_
    have g2 := h1a.1
    refine ⟨g2, ?_⟩
    have h2 := h1a.2
    exact h2

theorem t107_437 {M : mj_M} {K : mj_K} {x6 : Int32} {x7 : Int32} {x8 : Int32} {x9 : Int32} {x10 : Int32} {x11 : Int32} {x12 : Int32} {x13 : Int32} {s0 : Int32} {cn : Nat} (h : vp_in (8 * x12 + 5) 64 ∧ ((¬ s0 = M 81 ((8 * x12 + 5).toNatClampNeg) → mj_W 9 107 17 517 [some (.ref 0), some (.ref 81), some (.ref 82), some (.ref 83), some (.ref 84), some (.ref 85), some (.int x6), some (.int x7), some (.int x8), some (.int x9), some (.int x10), some (.int x11), some (.int x12), some (.int x13)] [.int 0] M cn K) ∧ (s0 = M 81 ((8 * x12 + 5).toNatClampNeg) → cn + 2 ≤ 400 ∧ mj_Cm 77 4 [.ref 0, .int x12, .int 5] (mj_v M 0) (mj_k2 9 107 17 456 [some (.ref 0), some (.ref 81), some (.ref 82), some (.ref 83), some (.ref 84), some (.ref 85), some (.int x6), some (.int x7), some (.int x8), some (.int x9), some (.int x10), some (.int x11), some (.int x12), some (.int x13)] [] M 0 81 (cn + 2) (some .int) K)))) : mj_W 9 107 17 437 [some (.ref 0), some (.ref 81), some (.ref 82), some (.ref 83), some (.ref 84), some (.ref 85), some (.int x6), some (.int x7), some (.int x8), some (.int x9), some (.int x10), some (.int x11), some (.int x12), some (.int x13)] [.int s0] M cn K := by
  refine b107_437 ?_
  have g1 := h.1
  refine ⟨g1, ?_⟩
  have h1 := h.2
  refine ⟨fun c2 => ?_, fun c2 => ?_⟩
  · have h2a := h1.1 c2
    refine b107_516 ?_
    exact h2a
  · have h2a := h1.2 c2
    refine b107_449 ?_
    have g3 := h2a.1
    refine ⟨g3, ?_⟩
    have h3 := h2a.2
    exact h3

theorem t107_456 {M : mj_M} {K : mj_K} {x6 : Int32} {x7 : Int32} {x8 : Int32} {x9 : Int32} {x10 : Int32} {x11 : Int32} {x12 : Int32} {x13 : Int32} {s0 : Int32} {cn : Nat} (h : vp_in (8 * x12 + 6) 64 ∧ ((¬ s0 = M 81 ((8 * x12 + 6).toNatClampNeg) → mj_W 9 107 17 517 [some (.ref 0), some (.ref 81), some (.ref 82), some (.ref 83), some (.ref 84), some (.ref 85), some (.int x6), some (.int x7), some (.int x8), some (.int x9), some (.int x10), some (.int x11), some (.int x12), some (.int x13)] [.int 0] M cn K) ∧ (s0 = M 81 ((8 * x12 + 6).toNatClampNeg) → cn + 2 ≤ 400 ∧ mj_Cm 77 4 [.ref 0, .int x12, .int 6] (mj_v M 0) (mj_k2 9 107 17 477 [some (.ref 0), some (.ref 81), some (.ref 82), some (.ref 83), some (.ref 84), some (.ref 85), some (.int x6), some (.int x7), some (.int x8), some (.int x9), some (.int x10), some (.int x11), some (.int x12), some (.int x13)] [] M 0 81 (cn + 2) (some .int) K)))) : mj_W 9 107 17 456 [some (.ref 0), some (.ref 81), some (.ref 82), some (.ref 83), some (.ref 84), some (.ref 85), some (.int x6), some (.int x7), some (.int x8), some (.int x9), some (.int x10), some (.int x11), some (.int x12), some (.int x13)] [.int s0] M cn K := by
  refine b107_456 ?_
  have g1 := h.1
  refine ⟨g1, ?_⟩
  have h1 := h.2
  refine ⟨fun c2 => ?_, fun c2 => ?_⟩
  · have h2a := h1.1 c2
    refine b107_516 ?_
    exact h2a
  · have h2a := h1.2 c2
    refine b107_469 ?_
    have g3 := h2a.1
    refine ⟨g3, ?_⟩
    have h3 := h2a.2
    exact h3

theorem t107_477 {M : mj_M} {K : mj_K} {x6 : Int32} {x7 : Int32} {x8 : Int32} {x9 : Int32} {x10 : Int32} {x11 : Int32} {x12 : Int32} {x13 : Int32} {s0 : Int32} {cn : Nat} (h : vp_in (8 * x12 + 7) 64 ∧ ((¬ s0 = M 81 ((8 * x12 + 7).toNatClampNeg) → mj_W 9 107 17 517 [some (.ref 0), some (.ref 81), some (.ref 82), some (.ref 83), some (.ref 84), some (.ref 85), some (.int x6), some (.int x7), some (.int x8), some (.int x9), some (.int x10), some (.int x11), some (.int x12), some (.int x13)] [.int 0] M cn K) ∧ (s0 = M 81 ((8 * x12 + 7).toNatClampNeg) → cn + 1 ≤ 400 ∧ mj_Cm 81 4 [.ref 0, .int x12] (mj_v M 0) (mj_k2 9 107 17 496 [some (.ref 0), some (.ref 81), some (.ref 82), some (.ref 83), some (.ref 84), some (.ref 85), some (.int x6), some (.int x7), some (.int x8), some (.int x9), some (.int x10), some (.int x11), some (.int x12), some (.int x13)] [] M 0 81 (cn + 1) (some .int) K)))) : mj_W 9 107 17 477 [some (.ref 0), some (.ref 81), some (.ref 82), some (.ref 83), some (.ref 84), some (.ref 85), some (.int x6), some (.int x7), some (.int x8), some (.int x9), some (.int x10), some (.int x11), some (.int x12), some (.int x13)] [.int s0] M cn K := by
  refine b107_477 ?_
  have g1 := h.1
  refine ⟨g1, ?_⟩
  have h1 := h.2
  refine ⟨fun c2 => ?_, fun c2 => ?_⟩
  · have h2a := h1.1 c2
    refine b107_516 ?_
    exact h2a
  · have h2a := h1.2 c2
    refine b107_490 ?_
    have g3 := h2a.1
    refine ⟨g3, ?_⟩
    have h3 := h2a.2
    exact h3

theorem t107_496 {M : mj_M} {K : mj_K} {x6 : Int32} {x7 : Int32} {x8 : Int32} {x9 : Int32} {x10 : Int32} {x11 : Int32} {x12 : Int32} {x13 : Int32} {s0 : Int32} {cn : Nat} (h : (¬ s0 = x13 → mj_W 9 107 17 517 [some (.ref 0), some (.ref 81), some (.ref 82), some (.ref 83), some (.ref 84), some (.ref 85), some (.int x6), some (.int x7), some (.int x8), some (.int x9), some (.int x10), some (.int x11), some (.int x12), some (.int x13)] [.int 0] M cn K) ∧ (s0 = x13 → cn + 1 ≤ 400 ∧ mj_Cm 82 16 [.ref 0, .int x12] (mj_v M 0) (mj_k2 9 107 17 507 [some (.ref 0), some (.ref 81), some (.ref 82), some (.ref 83), some (.ref 84), some (.ref 85), some (.int x6), some (.int x7), some (.int x8), some (.int x9), some (.int x10), some (.int x11), some (.int x12), some (.int x13)] [] M 0 81 (cn + 1) (some .int) K))) : mj_W 9 107 17 496 [some (.ref 0), some (.ref 81), some (.ref 82), some (.ref 83), some (.ref 84), some (.ref 85), some (.int x6), some (.int x7), some (.int x8), some (.int x9), some (.int x10), some (.int x11), some (.int x12), some (.int x13)] [.int s0] M cn K := by
  refine b107_496 ?_
  refine ⟨fun c1 => ?_, fun c1 => ?_⟩
  · have h1a := h.1 c1
    refine b107_516 ?_
    exact h1a
  · have h1a := h.2 c1
    refine b107_501 ?_
    have g2 := h1a.1
    refine ⟨g2, ?_⟩
    have h2 := h1a.2
    exact h2

theorem t107_507 {M : mj_M} {K : mj_K} {x6 : Int32} {x7 : Int32} {x8 : Int32} {x9 : Int32} {x10 : Int32} {x11 : Int32} {x12 : Int32} {x13 : Int32} {s0 : Int32} {cn : Nat} (h : (¬ s0 = x13 → mj_W 9 107 17 517 [some (.ref 0), some (.ref 81), some (.ref 82), some (.ref 83), some (.ref 84), some (.ref 85), some (.int x6), some (.int x7), some (.int x8), some (.int x9), some (.int x10), some (.int x11), some (.int x12), some (.int x13)] [.int 0] M cn K) ∧ (s0 = x13 → mj_W 9 107 17 517 [some (.ref 0), some (.ref 81), some (.ref 82), some (.ref 83), some (.ref 84), some (.ref 85), some (.int x6), some (.int x7), some (.int x8), some (.int x9), some (.int x10), some (.int x11), some (.int x12), some (.int x13)] [.int 1] M cn K)) : mj_W 9 107 17 507 [some (.ref 0), some (.ref 81), some (.ref 82), some (.ref 83), some (.ref 84), some (.ref 85), some (.int x6), some (.int x7), some (.int x8), some (.int x9), some (.int x10), some (.int x11), some (.int x12), some (.int x13)] [.int s0] M cn K := by
  refine b107_507 ?_
  refine ⟨fun c1 => ?_, fun c1 => ?_⟩
  · have h1a := h.1 c1
    refine b107_516 ?_
    exact h1a
  · have h1a := h.2 c1
    refine b107_512 ?_
    exact h1a

theorem t108_0 {M : mj_M} {K : mj_K} {x4 : Int32} {x5 : Int32} {x6 : Int32} {cn : Nat} (h : (¬ M 85 4 = 8 → vp_in (8 * M 85 4) 64 ∧ vp_in (8 * M 85 4 + 2) 64 ∧ ((¬ x6 - x6 / 4 * 4 = 0 → mj_W 9 108 6 49 [some (.ref 0), some (.ref 81), some (.ref 83), some (.ref 85), some (.int x4), some (.int x5), some (.int x6), some (.int (8 * M 85 4))] [.int 0, .int (8 * M 85 4 + 3), .ref 81] (mj_u (mj_u M 81 ((8 * M 85 4).toNatClampNeg) x4) 81 ((8 * M 85 4 + 2).toNatClampNeg) x5) cn K) ∧ (x6 - x6 / 4 * 4 = 0 → mj_W 9 108 6 49 [some (.ref 0), some (.ref 81), some (.ref 83), some (.ref 85), some (.int x4), some (.int x5), some (.int x6), some (.int (8 * M 85 4))] [.int 1, .int (8 * M 85 4 + 3), .ref 81] (mj_u (mj_u M 81 ((8 * M 85 4).toNatClampNeg) x4) 81 ((8 * M 85 4 + 2).toNatClampNeg) x5) cn K))) ∧ (M 85 4 = 8 → cn ≤ 20 ∧ K 0 1 M)) : mj_W 9 108 6 0 [some (.ref 0), some (.ref 81), some (.ref 83), some (.ref 85), some (.int x4), some (.int x5), some (.int x6), none] [] M cn K := by
  refine b108_0 ?_
  refine ⟨fun c1 => ?_, fun c1 => ?_⟩
  · have h1a := h.1 c1
    refine b108_10 ?_
    have g2 := h1a.1
    refine ⟨g2, ?_⟩
    have h2 := h1a.2
    have g3 := h2.1
    refine ⟨g3, ?_⟩
    have h3 := h2.2
    refine ⟨fun c4 => ?_, fun c4 => ?_⟩
    · have h4a := h3.1 c4
      refine b108_48 ?_
      exact h4a
    · have h4a := h3.2 c4
      refine b108_44 ?_
      exact h4a
  · have h1a := h.2 c1
    refine b108_8 ?_
    have g5 := h1a.1
    refine ⟨g5, ?_⟩
    have h5 := h1a.2
    rw [mj_nb1]
    exact h5
theorem e108 {M : mj_M} {K : mj_K} {x4 : Int32} {x5 : Int32} {x6 : Int32} (h : (¬ M 85 4 = 8 → vp_in (8 * M 85 4) 64 ∧ vp_in (8 * M 85 4 + 2) 64 ∧ ((¬ x6 - x6 / 4 * 4 = 0 → mj_W 9 108 6 49 [some (.ref 0), some (.ref 81), some (.ref 83), some (.ref 85), some (.int x4), some (.int x5), some (.int x6), some (.int (8 * M 85 4))] [.int 0, .int (8 * M 85 4 + 3), .ref 81] (mj_u (mj_u M 81 ((8 * M 85 4).toNatClampNeg) x4) 81 ((8 * M 85 4 + 2).toNatClampNeg) x5) 0 K) ∧ (x6 - x6 / 4 * 4 = 0 → mj_W 9 108 6 49 [some (.ref 0), some (.ref 81), some (.ref 83), some (.ref 85), some (.int x4), some (.int x5), some (.int x6), some (.int (8 * M 85 4))] [.int 1, .int (8 * M 85 4 + 3), .ref 81] (mj_u (mj_u M 81 ((8 * M 85 4).toNatClampNeg) x4) 81 ((8 * M 85 4 + 2).toNatClampNeg) x5) 0 K))) ∧ (M 85 4 = 8 → 0 ≤ 20 ∧ K 0 1 M)) : mj_Cm 108 6 [.ref 0, .ref 81, .ref 83, .ref 85, .int x4, .int x5, .int x6] M K := mj_en rfl rfl rfl (t108_0 (cn := 0) h)

theorem t108_49 {M : mj_M} {K : mj_K} {x4 : Int32} {x5 : Int32} {x6 : Int32} {x7 : Int32} {s1 : Int32} {s2 : Int32} {cn : Nat} (h : vp_in s1 64 ∧ vp_in (x7 + 4) 64 ∧ vp_in (x7 + 5) 64 ∧ vp_in (5 * x5) 30 ∧ ((¬ M 83 ((5 * x5).toNatClampNeg) = 2 → mj_W 9 108 6 103 [some (.ref 0), some (.ref 81), some (.ref 83), some (.ref 85), some (.int x4), some (.int x5), some (.int x6), some (.int x7)] [.int (x7 + 6), .ref 81] (mj_u (mj_u (mj_u M 81 s1.toNatClampNeg s2) 81 ((x7 + 4).toNatClampNeg) (x6 / 4 - x6 / 4 / 3 * 3 - 1)) 81 ((x7 + 5).toNatClampNeg) (x6 / 12 - x6 / 12 / 2 * 2)) cn K) ∧ (M 83 ((5 * x5).toNatClampNeg) = 2 → (¬ M 85 1 = 0 → mj_W 9 108 6 103 [some (.ref 0), some (.ref 81), some (.ref 83), some (.ref 85), some (.int x4), some (.int x5), some (.int x6), some (.int x7)] [.int (x7 + 6), .ref 81] (mj_u (mj_u (mj_u M 81 s1.toNatClampNeg s2) 81 ((x7 + 4).toNatClampNeg) (x6 / 4 - x6 / 4 / 3 * 3 - 1)) 81 ((x7 + 5).toNatClampNeg) (x6 / 12 - x6 / 12 / 2 * 2)) cn K) ∧ (M 85 1 = 0 → mj_W 9 108 6 104 [some (.ref 0), some (.ref 81), some (.ref 83), some (.ref 85), some (.int x4), some (.int x5), some (.int x6), some (.int x7)] [.int 1, .int (x7 + 6), .ref 81] (mj_u (mj_u (mj_u M 81 s1.toNatClampNeg s2) 81 ((x7 + 4).toNatClampNeg) (x6 / 4 - x6 / 4 / 3 * 3 - 1)) 81 ((x7 + 5).toNatClampNeg) (x6 / 12 - x6 / 12 / 2 * 2)) cn K)))) : mj_W 9 108 6 49 [some (.ref 0), some (.ref 81), some (.ref 83), some (.ref 85), some (.int x4), some (.int x5), some (.int x6), some (.int x7)] [.int s2, .int s1, .ref 81] M cn K := by
  refine b108_49 ?_
  have g1 := h.1
  refine ⟨g1, ?_⟩
  have h1 := h.2
  have g2 := h1.1
  refine ⟨g2, ?_⟩
  have h2 := h1.2
  have g3 := h2.1
  refine ⟨g3, ?_⟩
  have h3 := h2.2
  have g4 := h3.1
  refine ⟨g4, ?_⟩
  have h4 := h3.2
  refine ⟨fun c5 => ?_, fun c5 => ?_⟩
  · have h5a := h4.1 c5
    exact h5a
  · have h5a := h4.2 c5
    refine b108_93 ?_
    refine ⟨fun c6 => ?_, fun c6 => ?_⟩
    · have h6a := h5a.1 c6
      exact h6a
    · have h6a := h5a.2 c6
      refine b108_99 ?_
      exact h6a

theorem t108_103 {M : mj_M} {K : mj_K} {x4 : Int32} {x5 : Int32} {x6 : Int32} {x7 : Int32} {s1 : Int32} {cn : Nat} (h : mj_W 9 108 6 104 [some (.ref 0), some (.ref 81), some (.ref 83), some (.ref 85), some (.int x4), some (.int x5), some (.int x6), some (.int x7)] [.int 0, .int s1, .ref 81] M cn K) : mj_W 9 108 6 103 [some (.ref 0), some (.ref 81), some (.ref 83), some (.ref 85), some (.int x4), some (.int x5), some (.int x6), some (.int x7)] [.int s1, .ref 81] M cn K := by
  refine b108_103 ?_
  exact h

theorem t108_104 {M : mj_M} {K : mj_K} {x4 : Int32} {x5 : Int32} {x6 : Int32} {x7 : Int32} {s1 : Int32} {s2 : Int32} {cn : Nat} (h : vp_in s1 64 ∧ cn + 0 ≤ 20 ∧ mj_Cm 98 2 [.ref 0, .ref 2, .ref 4, .int ((mj_u (mj_u M 81 s1.toNatClampNeg s2) 85 4 (M 85 4 + 1)) 85 4 - 1)] (mj_v (mj_u (mj_u M 81 s1.toNatClampNeg s2) 85 4 (M 85 4 + 1)) 81) (mj_k2 9 108 6 123 [some (.ref 0), some (.ref 81), some (.ref 83), some (.ref 85), some (.int x4), some (.int x5), some (.int x6), some (.int x7)] [] (mj_u (mj_u M 81 s1.toNatClampNeg s2) 85 4 (M 85 4 + 1)) 81 5 cn none K)) : mj_W 9 108 6 104 [some (.ref 0), some (.ref 81), some (.ref 83), some (.ref 85), some (.int x4), some (.int x5), some (.int x6), some (.int x7)] [.int s2, .int s1, .ref 81] M cn K := by
  refine b108_104 ?_
  have g1 := h.1
  refine ⟨g1, ?_⟩
  have h1 := h.2
  have g2 := h1.1
  refine ⟨g2, ?_⟩
  have h2 := h1.2
  exact h2

theorem t108_143 {M : mj_M} {K : mj_K} {x4 : Int32} {x5 : Int32} {x6 : Int32} {x7 : Int32} {s1 : Int32} {s2 : Int32} {s3 : Int32} {cn : Nat} (h : vp_in (x7 + 5) 64 ∧ ((¬ M 81 ((x7 + 5).toNatClampNeg) = 1 → mj_W 9 108 6 158 [some (.ref 0), some (.ref 81), some (.ref 83), some (.ref 85), some (.int x4), some (.int x5), some (.int x6), some (.int x7)] [.int 0, .int s3, .int s2, .int s1, .ref 0] M cn K) ∧ (M 81 ((x7 + 5).toNatClampNeg) = 1 → mj_W 9 108 6 158 [some (.ref 0), some (.ref 81), some (.ref 83), some (.ref 85), some (.int x4), some (.int x5), some (.int x6), some (.int x7)] [.int 1, .int s3, .int s2, .int s1, .ref 0] M cn K))) : mj_W 9 108 6 143 [some (.ref 0), some (.ref 81), some (.ref 83), some (.ref 85), some (.int x4), some (.int x5), some (.int x6), some (.int x7)] [.int s3, .int s2, .int s1, .ref 0] M cn K := by
  refine b108_143 ?_
  have g1 := h.1
  refine ⟨g1, ?_⟩
  have h1 := h.2
  refine ⟨fun c2 => ?_, fun c2 => ?_⟩
  · have h2a := h1.1 c2
    refine b108_157 ?_
    exact h2a
  · have h2a := h1.2 c2
    refine b108_153 ?_
    exact h2a

theorem t108_158 {M : mj_M} {K : mj_K} {x4 : Int32} {x5 : Int32} {x6 : Int32} {x7 : Int32} {s1 : Int32} {s2 : Int32} {s3 : Int32} {s4 : Int32} {cn : Nat} (h : vp_in (x7 + 4) 64 ∧ cn + 6 ≤ 20 ∧ mj_Cm 70 5 [.ref 0, .int s1, .int s2, .int s3, .int s4, .int (M 81 ((x7 + 4).toNatClampNeg))] (mj_v M 0) (mj_k2 9 108 6 167 [some (.ref 0), some (.ref 81), some (.ref 83), some (.ref 85), some (.int x4), some (.int x5), some (.int x6), some (.int x7)] [] M 0 81 (cn + 6) (some .int) K)) : mj_W 9 108 6 158 [some (.ref 0), some (.ref 81), some (.ref 83), some (.ref 85), some (.int x4), some (.int x5), some (.int x6), some (.int x7)] [.int s4, .int s3, .int s2, .int s1, .ref 0] M cn K := by
  refine b108_158 ?_
  have g1 := h.1
  refine ⟨g1, ?_⟩
  have h1 := h.2
  have g2 := h1.1
  refine ⟨g2, ?_⟩
  have h2 := h1.2
  exact h2

theorem t108_180 {M : mj_M} {K : mj_K} {x4 : Int32} {x5 : Int32} {x6 : Int32} {x7 : Int32} {s0 : Int32} {cn : Nat} (h : cn ≤ 20 ∧ K 0 (mj_nb s0) M) : mj_W 9 108 6 180 [some (.ref 0), some (.ref 81), some (.ref 83), some (.ref 85), some (.int x4), some (.int x5), some (.int x6), some (.int x7)] [.int s0] M cn K := by
  refine b108_180 ?_
  have g1 := h.1
  refine ⟨g1, ?_⟩
  have h1 := h.2
  exact h1

theorem t108_123 {M : mj_M} {K : mj_K} {x4 : Int32} {x5 : Int32} {x6 : Int32} {x7 : Int32} {cn : Nat} (h : vp_in (x7 + 3) 64 ∧ ((¬ M 81 ((x7 + 3).toNatClampNeg) = 1 → mj_W 9 108 6 143 [some (.ref 0), some (.ref 81), some (.ref 83), some (.ref 85), some (.int x4), some (.int x5), some (.int x6), some (.int x7)] [.int 0, .int x5, .int x4, .ref 0] M cn K) ∧ (M 81 ((x7 + 3).toNatClampNeg) = 1 → mj_W 9 108 6 143 [some (.ref 0), some (.ref 81), some (.ref 83), some (.ref 85), some (.int x4), some (.int x5), some (.int x6), some (.int x7)] [.int 1, .int x5, .int x4, .ref 0] M cn K))) : mj_W 9 108 6 123 [some (.ref 0), some (.ref 81), some (.ref 83), some (.ref 85), some (.int x4), some (.int x5), some (.int x6), some (.int x7)] [] M cn K := by
  refine b108_123 ?_
  have g1 := h.1
  refine ⟨g1, ?_⟩
  have h1 := h.2
  refine ⟨fun c2 => ?_, fun c2 => ?_⟩
  · have h2a := h1.1 c2
    refine b108_142 ?_
    exact h2a
  · have h2a := h1.2 c2
    refine b108_138 ?_
    exact h2a

theorem t108_167 {M : mj_M} {K : mj_K} {x4 : Int32} {x5 : Int32} {x6 : Int32} {x7 : Int32} {s0 : Int32} {cn : Nat} (h : (¬ s0 = M 85 4 - 1 → mj_W 9 108 6 180 [some (.ref 0), some (.ref 81), some (.ref 83), some (.ref 85), some (.int x4), some (.int x5), some (.int x6), some (.int x7)] [.int 0] M cn K) ∧ (s0 = M 85 4 - 1 → mj_W 9 108 6 180 [some (.ref 0), some (.ref 81), some (.ref 83), some (.ref 85), some (.int x4), some (.int x5), some (.int x6), some (.int x7)] [.int 1] M cn K)) : mj_W 9 108 6 167 [some (.ref 0), some (.ref 81), some (.ref 83), some (.ref 85), some (.int x4), some (.int x5), some (.int x6), some (.int x7)] [.int s0] M cn K := by
  refine b108_167 ?_
  refine ⟨fun c1 => ?_, fun c1 => ?_⟩
  · have h1a := h.1 c1
    refine b108_179 ?_
    exact h1a
  · have h1a := h.2 c1
    refine b108_175 ?_
    exact h1a

theorem t109_0 {M : mj_M} {K : mj_K} {x5 : Int32} {x6 : Int32} {x7 : Int32} {cn : Nat} (h : (¬ M 85 5 = 3 → mj_W 9 109 7 13 [some (.ref 0), some (.ref 81), some (.ref 83), some (.ref 84), some (.ref 85), some (.int x5), some (.int x6), some (.int x7), none, none, none, none, none] [.int 0] M cn K) ∧ (M 85 5 = 3 → mj_W 9 109 7 13 [some (.ref 0), some (.ref 81), some (.ref 83), some (.ref 84), some (.ref 85), some (.int x5), some (.int x6), some (.int x7), none, none, none, none, none] [.int 1] M cn K)) : mj_W 9 109 7 0 [some (.ref 0), some (.ref 81), some (.ref 83), some (.ref 84), some (.ref 85), some (.int x5), some (.int x6), some (.int x7), none, none, none, none, none] [] M cn K := by
  refine b109_0 ?_
  refine ⟨fun c1 => ?_, fun c1 => ?_⟩
  · have h1a := h.1 c1
    refine b109_12 ?_
    exact h1a
  · have h1a := h.2 c1
    refine b109_8 ?_
    exact h1a
theorem e109 {M : mj_M} {K : mj_K} {x5 : Int32} {x6 : Int32} {x7 : Int32} (h : (¬ M 85 5 = 3 → mj_W 9 109 7 13 [some (.ref 0), some (.ref 81), some (.ref 83), some (.ref 84), some (.ref 85), some (.int x5), some (.int x6), some (.int x7), none, none, none, none, none] [.int 0] M 0 K) ∧ (M 85 5 = 3 → mj_W 9 109 7 13 [some (.ref 0), some (.ref 81), some (.ref 83), some (.ref 84), some (.ref 85), some (.int x5), some (.int x6), some (.int x7), none, none, none, none, none] [.int 1] M 0 K)) : mj_Cm 109 7 [.ref 0, .ref 81, .ref 83, .ref 84, .ref 85, .int x5, .int x6, .int x7] M K := mj_en rfl rfl rfl (t109_0 (cn := 0) h)

theorem t109_18 {M : mj_M} {K : mj_K} {x5 : Int32} {x6 : Int32} {x7 : Int32} {x8 : Int32} {x9 : Int32} {o10 : Option Value} {o11 : Option Value} {o12 : Option Value} {cn : Nat} (h : (M 85 5 ≤ x9 → (¬ x8 = 0 → cn ≤ 20 ∧ K 0 1 M) ∧ (x8 = 0 → (M 85 4 + (x7 - x7 / 3 * 3) ≤ 8 → cn + 0 ≤ 20 ∧ mj_Cm 96 2 [.ref 0, .ref 2, .ref 4, .int x5] (mj_v M 81) (mj_k2 9 109 7 114 [some (.ref 0), some (.ref 81), some (.ref 83), some (.ref 84), some (.ref 85), some (.int x5), some (.int x6), some (.int x7), some (.int x8), some (.int (x7 - x7 / 3 * 3)), some (.int (6 * M 85 5)), o11, o12] [.int (x7 - x7 / 3 * 3)] M 81 5 cn (some .int) K)) ∧ (¬ M 85 4 + (x7 - x7 / 3 * 3) ≤ 8 → cn ≤ 20 ∧ K 0 1 M))) ∧ (¬ M 85 5 ≤ x9 → (¬ x8 = 0 → mj_W 9 109 7 61 [some (.ref 0), some (.ref 81), some (.ref 83), some (.ref 84), some (.ref 85), some (.int x5), some (.int x6), some (.int x7), some (.int x8), some (.int x9), o10, o11, o12] [.int 1] M cn K) ∧ (x8 = 0 → vp_in (6 * x9) 18 ∧ ((¬ M 84 ((6 * x9).toNatClampNeg) = x5 → mj_W 9 109 7 61 [some (.ref 0), some (.ref 81), some (.ref 83), some (.ref 84), some (.ref 85), some (.int x5), some (.int x6), some (.int x7), some (.int x8), some (.int x9), o10, o11, o12] [.int 0] M cn K) ∧ (M 84 ((6 * x9).toNatClampNeg) = x5 → vp_in (6 * x9 + 4) 18 ∧ ((M 84 ((6 * x9 + 4).toNatClampNeg) ≤ 0 → mj_W 9 109 7 61 [some (.ref 0), some (.ref 81), some (.ref 83), some (.ref 84), some (.ref 85), some (.int x5), some (.int x6), some (.int x7), some (.int x8), some (.int x9), o10, o11, o12] [.int 0] M cn K) ∧ (¬ M 84 ((6 * x9 + 4).toNatClampNeg) ≤ 0 → mj_W 9 109 7 61 [some (.ref 0), some (.ref 81), some (.ref 83), some (.ref 84), some (.ref 85), some (.int x5), some (.int x6), some (.int x7), some (.int x8), some (.int x9), o10, o11, o12] [.int 1] M cn K))))))) : mj_W 9 109 7 18 [some (.ref 0), some (.ref 81), some (.ref 83), some (.ref 84), some (.ref 85), some (.int x5), some (.int x6), some (.int x7), some (.int x8), some (.int x9), o10, o11, o12] [] M cn K := by
  refine b109_18 ?_
  refine ⟨fun c1 => ?_, fun c1 => ?_⟩
  · have h1a := h.1 c1
    refine b109_69 ?_
    refine ⟨fun c2 => ?_, fun c2 => ?_⟩
    · have h2a := h1a.1 c2
      refine b109_92 ?_
      have g3 := h2a.1
      refine ⟨g3, ?_⟩
      have h3 := h2a.2
      rw [mj_nb1]
      exact h3
    · have h2a := h1a.2 c2
      refine b109_80 ?_
      refine ⟨fun c4 => ?_, fun c4 => ?_⟩
      · have h4a := h2a.1 c4
        refine b109_94 ?_
        have g5 := h4a.1
        refine ⟨g5, ?_⟩
        have h5 := h4a.2
        exact h5
      · have h4a := h2a.2 c4
        refine b109_92 ?_
        have g6 := h4a.1
        refine ⟨g6, ?_⟩
        have h6 := h4a.2
        rw [mj_nb1]
        exact h6
  · have h1a := h.2 c1
    refine b109_27 ?_
    refine ⟨fun c7 => ?_, fun c7 => ?_⟩
    · have h7a := h1a.1 c7
      refine b109_56 ?_
      exact h7a
    · have h7a := h1a.2 c7
      refine b109_32 ?_
      have g8 := h7a.1
      refine ⟨g8, ?_⟩
      have h8 := h7a.2
      refine ⟨fun c9 => ?_, fun c9 => ?_⟩
      · have h9a := h8.1 c9
        refine b109_60 ?_
        exact h9a
      · have h9a := h8.2 c9
        refine b109_44 ?_
        have g10 := h9a.1
        refine ⟨g10, ?_⟩
        have h10 := h9a.2
        refine ⟨fun c11 => ?_, fun c11 => ?_⟩
        · have h11a := h10.1 c11
          refine b109_60 ?_
          exact h11a
        · have h11a := h10.2 c11
          refine b109_56 ?_
          exact h11a

theorem t109_187 {M : mj_M} {K : mj_K} {x5 : Int32} {x6 : Int32} {x7 : Int32} {x8 : Int32} {x9 : Int32} {x10 : Int32} {x11 : Int32} {o12 : Option Value} {cn : Nat} (h : (x9 ≤ x11 → vp_in (x10 + 3) 18 ∧ vp_in (x10 + 4) 18 ∧ cn + 9 ≤ 20 ∧ mj_Cm 71 6 [.ref 0, .int x5, .int (x7 - x7 / 3 * 3), .int x6, .int (M 84 ((x10 + 3).toNatClampNeg)), .int (M 84 ((x10 + 4).toNatClampNeg))] (mj_v M 0) (mj_k2 9 109 7 275 [some (.ref 0), some (.ref 81), some (.ref 83), some (.ref 84), some (.ref 85), some (.int x5), some (.int x6), some (.int x7), some (.int x8), some (.int x9), some (.int x10), some (.int x11), o12] [] M 0 81 (cn + 9) (some .int) K)) ∧ (¬ x9 ≤ x11 → vp_in (8 * M 85 4) 64 ∧ vp_in (8 * M 85 4 + 2) 64 ∧ vp_in (8 * M 85 4 + 4) 64 ∧ cn + 0 ≤ 20 ∧ mj_Cm 98 2 [.ref 0, .ref 2, .ref 4, .int ((mj_u (mj_u (mj_u (mj_u M 81 ((8 * M 85 4).toNatClampNeg) x5) 81 ((8 * M 85 4 + 2).toNatClampNeg) x6) 81 ((8 * M 85 4 + 4).toNatClampNeg) (-1)) 85 4 (M 85 4 + 1)) 85 4 - 1)] (mj_v (mj_u (mj_u (mj_u (mj_u M 81 ((8 * M 85 4).toNatClampNeg) x5) 81 ((8 * M 85 4 + 2).toNatClampNeg) x6) 81 ((8 * M 85 4 + 4).toNatClampNeg) (-1)) 85 4 (M 85 4 + 1)) 81) (mj_k2 9 109 7 245 [some (.ref 0), some (.ref 81), some (.ref 83), some (.ref 84), some (.ref 85), some (.int x5), some (.int x6), some (.int x7), some (.int x8), some (.int x9), some (.int x10), some (.int x11), some (.int (8 * M 85 4))] [] (mj_u (mj_u (mj_u (mj_u M 81 ((8 * M 85 4).toNatClampNeg) x5) 81 ((8 * M 85 4 + 2).toNatClampNeg) x6) 81 ((8 * M 85 4 + 4).toNatClampNeg) (-1)) 85 4 (M 85 4 + 1)) 81 5 cn none K))) : mj_W 9 109 7 187 [some (.ref 0), some (.ref 81), some (.ref 83), some (.ref 84), some (.ref 85), some (.int x5), some (.int x6), some (.int x7), some (.int x8), some (.int x9), some (.int x10), some (.int x11), o12] [] M cn K := by
  refine b109_187 ?_
  refine ⟨fun c1 => ?_, fun c1 => ?_⟩
  · have h1a := h.1 c1
    refine b109_251 ?_
    have g2 := h1a.1
    refine ⟨g2, ?_⟩
    have h2 := h1a.2
    have g3 := h2.1
    refine ⟨g3, ?_⟩
    have h3 := h2.2
    have g4 := h3.1
    refine ⟨g4, ?_⟩
    have h4 := h3.2
    exact h4
  · have h1a := h.2 c1
    refine b109_194 ?_
    have g5 := h1a.1
    refine ⟨g5, ?_⟩
    have h5 := h1a.2
    have g6 := h5.1
    refine ⟨g6, ?_⟩
    have h6 := h5.2
    have g7 := h6.1
    refine ⟨g7, ?_⟩
    have h7 := h6.2
    have g8 := h7.1
    refine ⟨g8, ?_⟩
    have h8 := h7.2
    exact h8

theorem t109_13 {M : mj_M} {K : mj_K} {x5 : Int32} {x6 : Int32} {x7 : Int32} {o8 : Option Value} {o9 : Option Value} {o10 : Option Value} {o11 : Option Value} {o12 : Option Value} {s0 : Int32} {cn : Nat} (h : mj_W 9 109 7 18 [some (.ref 0), some (.ref 81), some (.ref 83), some (.ref 84), some (.ref 85), some (.int x5), some (.int x6), some (.int x7), some (.int s0), some (.int 0), o10, o11, o12] [] M cn K) : mj_W 9 109 7 13 [some (.ref 0), some (.ref 81), some (.ref 83), some (.ref 84), some (.ref 85), some (.int x5), some (.int x6), some (.int x7), o8, o9, o10, o11, o12] [.int s0] M cn K := by
  refine b109_13 ?_
  exact h

theorem t109_61 {M : mj_M} {K : mj_K} {x5 : Int32} {x6 : Int32} {x7 : Int32} {x8 : Int32} {x9 : Int32} {o10 : Option Value} {o11 : Option Value} {o12 : Option Value} {s0 : Int32} {cn : Nat} (h : mj_W 9 109 7 18 [some (.ref 0), some (.ref 81), some (.ref 83), some (.ref 84), some (.ref 85), some (.int x5), some (.int x6), some (.int x7), some (.int s0), some (.int (x9 + 1)), o10, o11, o12] [] M cn K) : mj_W 9 109 7 61 [some (.ref 0), some (.ref 81), some (.ref 83), some (.ref 84), some (.ref 85), some (.int x5), some (.int x6), some (.int x7), some (.int x8), some (.int x9), o10, o11, o12] [.int s0] M cn K := by
  refine b109_61 ?_
  exact h

theorem t109_289 {M : mj_M} {K : mj_K} {x5 : Int32} {x6 : Int32} {x7 : Int32} {x8 : Int32} {x9 : Int32} {x10 : Int32} {x11 : Int32} {o12 : Option Value} {s0 : Int32} {cn : Nat} (h : cn ≤ 20 ∧ K 0 (mj_nb s0) M) : mj_W 9 109 7 289 [some (.ref 0), some (.ref 81), some (.ref 83), some (.ref 84), some (.ref 85), some (.int x5), some (.int x6), some (.int x7), some (.int x8), some (.int x9), some (.int x10), some (.int x11), o12] [.int s0] M cn K := by
  refine b109_289 ?_
  have g1 := h.1
  refine ⟨g1, ?_⟩
  have h1 := h.2
  exact h1

theorem t109_114 {M : mj_M} {K : mj_K} {x5 : Int32} {x6 : Int32} {x7 : Int32} {x8 : Int32} {x9 : Int32} {x10 : Int32} {o11 : Option Value} {o12 : Option Value} {s0 : Int32} {s1 : Int32} {cn : Nat} (h : (s1 ≤ s0 → cn + 0 ≤ 20 ∧ mj_Cm 96 2 [.ref 0, .ref 2, .ref 4, .int x5] (mj_v M 81) (mj_k2 9 109 7 131 [some (.ref 0), some (.ref 81), some (.ref 83), some (.ref 84), some (.ref 85), some (.int x5), some (.int x6), some (.int x7), some (.int x8), some (.int x9), some (.int x10), o11, o12] [] M 81 5 cn (some .int) K)) ∧ (¬ s1 ≤ s0 → vp_in x10 18 ∧ vp_in (x10 + 2) 18 ∧ vp_in (x10 + 3) 18 ∧ vp_in (x10 + 4) 18 ∧ mj_W 9 109 7 187 [some (.ref 0), some (.ref 81), some (.ref 83), some (.ref 84), some (.ref 85), some (.int x5), some (.int x6), some (.int x7), some (.int x8), some (.int x9), some (.int x10), some (.int 0), o12] [] (mj_u (mj_u (mj_u (mj_u (mj_u M 84 x10.toNatClampNeg x5) 84 ((x10 + 2).toNatClampNeg) x9) 84 ((x10 + 3).toNatClampNeg) (x7 / 3 - x7 / 3 / 6 * 6)) 84 ((x10 + 4).toNatClampNeg) (1 + (x7 / 18 - x7 / 18 / 9 * 9))) 85 5 (M 85 5 + 1)) cn K)) : mj_W 9 109 7 114 [some (.ref 0), some (.ref 81), some (.ref 83), some (.ref 84), some (.ref 85), some (.int x5), some (.int x6), some (.int x7), some (.int x8), some (.int x9), some (.int x10), o11, o12] [.int s1, .int s0] M cn K := by
  refine b109_114 ?_
  refine ⟨fun c1 => ?_, fun c1 => ?_⟩
  · have h1a := h.1 c1
    refine b109_122 ?_
    have g2 := h1a.1
    refine ⟨g2, ?_⟩
    have h2 := h1a.2
    exact h2
  · have h1a := h.2 c1
    refine b109_117 ?_
    refine b109_131 ?_
    have g3 := h1a.1
    refine ⟨g3, ?_⟩
    have h3 := h1a.2
    have g4 := h3.1
    refine ⟨g4, ?_⟩
    have h4 := h3.2
    have g5 := h4.1
    refine ⟨g5, ?_⟩
    have h5 := h4.2
    have g6 := h5.1
    refine ⟨g6, ?_⟩
    have h6 := h5.2
    exact h6

theorem t109_275 {M : mj_M} {K : mj_K} {x5 : Int32} {x6 : Int32} {x7 : Int32} {x8 : Int32} {x9 : Int32} {x10 : Int32} {x11 : Int32} {o12 : Option Value} {s0 : Int32} {cn : Nat} (h : (¬ s0 = M 85 5 - 1 → mj_W 9 109 7 289 [some (.ref 0), some (.ref 81), some (.ref 83), some (.ref 84), some (.ref 85), some (.int x5), some (.int x6), some (.int x7), some (.int x8), some (.int x9), some (.int x10), some (.int x11), o12] [.int 0] M cn K) ∧ (s0 = M 85 5 - 1 → mj_W 9 109 7 289 [some (.ref 0), some (.ref 81), some (.ref 83), some (.ref 84), some (.ref 85), some (.int x5), some (.int x6), some (.int x7), some (.int x8), some (.int x9), some (.int x10), some (.int x11), o12] [.int 1] M cn K)) : mj_W 9 109 7 275 [some (.ref 0), some (.ref 81), some (.ref 83), some (.ref 84), some (.ref 85), some (.int x5), some (.int x6), some (.int x7), some (.int x8), some (.int x9), some (.int x10), some (.int x11), o12] [.int s0] M cn K := by
  refine b109_275 ?_
  refine ⟨fun c1 => ?_, fun c1 => ?_⟩
  · have h1a := h.1 c1
    refine b109_288 ?_
    exact h1a
  · have h1a := h.2 c1
    refine b109_284 ?_
    exact h1a

theorem t109_245 {M : mj_M} {K : mj_K} {x5 : Int32} {x6 : Int32} {x7 : Int32} {x8 : Int32} {x9 : Int32} {x10 : Int32} {x11 : Int32} {x12 : Int32} {cn : Nat} (h : mj_W 9 109 7 187 [some (.ref 0), some (.ref 81), some (.ref 83), some (.ref 84), some (.ref 85), some (.int x5), some (.int x6), some (.int x7), some (.int x8), some (.int x9), some (.int x10), some (.int (x11 + 1)), some (.int x12)] [] M cn K) : mj_W 9 109 7 245 [some (.ref 0), some (.ref 81), some (.ref 83), some (.ref 84), some (.ref 85), some (.int x5), some (.int x6), some (.int x7), some (.int x8), some (.int x9), some (.int x10), some (.int x11), some (.int x12)] [] M cn K := by
  refine b109_245 ?_
  exact h

theorem t109_131 {M : mj_M} {K : mj_K} {x5 : Int32} {x6 : Int32} {x7 : Int32} {x8 : Int32} {x9 : Int32} {x10 : Int32} {o11 : Option Value} {o12 : Option Value} {s0 : Int32} {cn : Nat} (h : vp_in x10 18 ∧ vp_in (x10 + 2) 18 ∧ vp_in (x10 + 3) 18 ∧ vp_in (x10 + 4) 18 ∧ mj_W 9 109 7 187 [some (.ref 0), some (.ref 81), some (.ref 83), some (.ref 84), some (.ref 85), some (.int x5), some (.int x6), some (.int x7), some (.int x8), some (.int s0), some (.int x10), some (.int 0), o12] [] (mj_u (mj_u (mj_u (mj_u (mj_u M 84 x10.toNatClampNeg x5) 84 ((x10 + 2).toNatClampNeg) s0) 84 ((x10 + 3).toNatClampNeg) (x7 / 3 - x7 / 3 / 6 * 6)) 84 ((x10 + 4).toNatClampNeg) (1 + (x7 / 18 - x7 / 18 / 9 * 9))) 85 5 (M 85 5 + 1)) cn K) : mj_W 9 109 7 131 [some (.ref 0), some (.ref 81), some (.ref 83), some (.ref 84), some (.ref 85), some (.int x5), some (.int x6), some (.int x7), some (.int x8), some (.int x9), some (.int x10), o11, o12] [.int s0] M cn K := by
  refine b109_131 ?_
  have g1 := h.1
  refine ⟨g1, ?_⟩
  have h1 := h.2
  have g2 := h1.1
  refine ⟨g2, ?_⟩
  have h2 := h1.2
  have g3 := h2.1
  refine ⟨g3, ?_⟩
  have h3 := h2.2
  have g4 := h3.1
  refine ⟨g4, ?_⟩
  have h4 := h3.2
  exact h4

theorem t110_0 {M : mj_M} {K : mj_K} {x3 : Int32} {x4 : Int32} {cn : Nat} (h : ¬ (M 85 3 : Int32) = 0 ∧ ((¬ x3 = 0 → (¬ x3 = 1 → (¬ x3 = 2 → vp_in (11 * (x4 - x4 / M 85 3 * M 85 3)) 55 ∧ ((M 82 ((11 * (x4 - x4 / M 85 3 * M 85 3)).toNatClampNeg) = 3 → (¬ x3 = 3 → vp_in (11 * (x4 - x4 / M 85 3 * M 85 3) + 8) 55 ∧ ((¬ M 82 ((11 * (x4 - x4 / M 85 3 * M 85 3) + 8).toNatClampNeg) = 1 → mj_W 9 110 7 288 [some (.ref 0), some (.ref 82), some (.ref 85), some (.int x3), some (.int (x4 / 5)), some (.int (11 * (x4 - x4 / M 85 3 * M 85 3))), some (.int (x4 - x4 / M 85 3 * M 85 3)), none, none] [.int 0] M cn K) ∧ (M 82 ((11 * (x4 - x4 / M 85 3 * M 85 3) + 8).toNatClampNeg) = 1 → mj_W 9 110 7 288 [some (.ref 0), some (.ref 82), some (.ref 85), some (.int x3), some (.int (x4 / 5)), some (.int (11 * (x4 - x4 / M 85 3 * M 85 3))), some (.int (x4 - x4 / M 85 3 * M 85 3)), none, none] [.int 1] M cn K))) ∧ (x3 = 3 → vp_in (11 * (x4 - x4 / M 85 3 * M 85 3) + 7) 55 ∧ cn + 2 ≤ 40 ∧ mj_Cm 67 6 [.ref 0, .int (x4 - x4 / M 85 3 * M 85 3)] (mj_v (mj_u M 82 ((11 * (x4 - x4 / M 85 3 * M 85 3) + 7).toNatClampNeg) (1 - M 82 ((11 * (x4 - x4 / M 85 3 * M 85 3) + 7).toNatClampNeg))) 0) (mj_k2 9 110 7 247 [some (.ref 0), some (.ref 82), some (.ref 85), some (.int x3), some (.int (x4 / 5)), some (.int (11 * (x4 - x4 / M 85 3 * M 85 3))), some (.int (x4 - x4 / M 85 3 * M 85 3)), none, none] [] (mj_u M 82 ((11 * (x4 - x4 / M 85 3 * M 85 3) + 7).toNatClampNeg) (1 - M 82 ((11 * (x4 - x4 / M 85 3 * M 85 3) + 7).toNatClampNeg))) 0 81 (cn + 2) (some .boolean) K))) ∧ (¬ M 82 ((11 * (x4 - x4 / M 85 3 * M 85 3)).toNatClampNeg) = 3 → cn ≤ 40 ∧ K 0 1 M))) ∧ (x3 = 2 → vp_in (11 * (x4 - x4 / M 85 3 * M 85 3) + 4) 55 ∧ cn + 2 ≤ 40 ∧ mj_Cm 69 3 [.ref 0, .int (x4 - x4 / M 85 3 * M 85 3), .int (x4 / 5 - x4 / 5 / 4 * 4)] (mj_v (mj_u M 82 ((11 * (x4 - x4 / M 85 3 * M 85 3) + 4).toNatClampNeg) (x4 / 5 - x4 / 5 / 4 * 4)) 0) (mj_k2 9 110 7 199 [some (.ref 0), some (.ref 82), some (.ref 85), some (.int x3), some (.int (x4 / 5)), some (.int (11 * (x4 - x4 / M 85 3 * M 85 3))), some (.int (x4 - x4 / M 85 3 * M 85 3)), some (.int (M 82 ((11 * (x4 - x4 / M 85 3 * M 85 3) + 4).toNatClampNeg))), none] [] (mj_u M 82 ((11 * (x4 - x4 / M 85 3 * M 85 3) + 4).toNatClampNeg) (x4 / 5 - x4 / 5 / 4 * 4)) 0 81 (cn + 2) (some .int) K))) ∧ (x3 = 1 → mj_W 9 110 7 104 [some (.ref 0), some (.ref 82), some (.ref 85), some (.int x3), some (.int (x4 / 5)), some (.int (11 * (x4 - x4 / M 85 3 * M 85 3))), some (.int (x4 - x4 / M 85 3 * M 85 3)), some (.int 0), some (.int 0)] [] M cn K)) ∧ (x3 = 0 → vp_in (11 * (x4 - x4 / M 85 3 * M 85 3) + 5) 55 ∧ ((¬ M 82 ((11 * (x4 - x4 / M 85 3 * M 85 3) + 5).toNatClampNeg) = 1 → mj_W 9 110 7 44 [some (.ref 0), some (.ref 82), some (.ref 85), some (.int x3), some (.int (x4 / 5)), some (.int (11 * (x4 - x4 / M 85 3 * M 85 3))), some (.int (x4 - x4 / M 85 3 * M 85 3)), none, none] [.int 0] M cn K) ∧ (M 82 ((11 * (x4 - x4 / M 85 3 * M 85 3) + 5).toNatClampNeg) = 1 → mj_W 9 110 7 44 [some (.ref 0), some (.ref 82), some (.ref 85), some (.int x3), some (.int (x4 / 5)), some (.int (11 * (x4 - x4 / M 85 3 * M 85 3))), some (.int (x4 - x4 / M 85 3 * M 85 3)), none, none] [.int 1] M cn K))))) : mj_W 9 110 7 0 [some (.ref 0), some (.ref 82), some (.ref 85), some (.int x3), some (.int x4), none, none, none, none] [] M cn K := by
  refine b110_0 ?_
  have g1 := h.1
  refine ⟨g1, ?_⟩
  have h1 := h.2
  refine ⟨fun c2 => ?_, fun c2 => ?_⟩
  · have h2a := h1.1 c2
    refine b110_93 ?_
    refine ⟨fun c3 => ?_, fun c3 => ?_⟩
    · have h3a := h2a.1 c3
      refine b110_166 ?_
      refine ⟨fun c4 => ?_, fun c4 => ?_⟩
      · have h4a := h3a.1 c4
        refine b110_210 ?_
        have g5 := h4a.1
        refine ⟨g5, ?_⟩
        have h5 := h4a.2
        refine ⟨fun c6 => ?_, fun c6 => ?_⟩
        · have h6a := h5.1 c6
          refine b110_220 ?_
          refine ⟨fun c7 => ?_, fun c7 => ?_⟩
          · have h7a := h6a.1 c7
            refine b110_272 ?_
            have g8 := h7a.1
            refine ⟨g8, ?_⟩
            have h8 := h7a.2
            refine ⟨fun c9 => ?_, fun c9 => ?_⟩
            · have h9a := h8.1 c9
              refine b110_287 ?_
              exact h9a
            · have h9a := h8.2 c9
              refine b110_283 ?_
              exact h9a
          · have h7a := h6a.2 c7
            refine b110_225 ?_
            have g10 := h7a.1
            refine ⟨g10, ?_⟩
            have h10 := h7a.2
            have g11 := h10.1
            refine ⟨g11, ?_⟩
            have h11 := h10.2
            exact h11
        · have h6a := h5.2 c6
          refine b110_218 ?_
          have g12 := h6a.1
          refine ⟨g12, ?_⟩
          have h12 := h6a.2
          rw [mj_nb1]
          exact h12
      · have h4a := h3a.2 c4
        refine b110_171 ?_
        have g13 := h4a.1
        refine ⟨g13, ?_⟩
        have h13 := h4a.2
        have g14 := h13.1
        refine ⟨g14, ?_⟩
        have h14 := h13.2
        exact h14
    · have h3a := h2a.2 c3
      refine b110_98 ?_
      exact h3a
  · have h2a := h1.2 c2
    refine b110_29 ?_
    have g15 := h2a.1
    refine ⟨g15, ?_⟩
    have h15 := h2a.2
    refine ⟨fun c16 => ?_, fun c16 => ?_⟩
    · have h16a := h15.1 c16
      refine b110_43 ?_
      exact h16a
    · have h16a := h15.2 c16
      refine b110_39 ?_
      exact h16a
theorem e110 {M : mj_M} {K : mj_K} {x3 : Int32} {x4 : Int32} (h : ¬ (M 85 3 : Int32) = 0 ∧ ((¬ x3 = 0 → (¬ x3 = 1 → (¬ x3 = 2 → vp_in (11 * (x4 - x4 / M 85 3 * M 85 3)) 55 ∧ ((M 82 ((11 * (x4 - x4 / M 85 3 * M 85 3)).toNatClampNeg) = 3 → (¬ x3 = 3 → vp_in (11 * (x4 - x4 / M 85 3 * M 85 3) + 8) 55 ∧ ((¬ M 82 ((11 * (x4 - x4 / M 85 3 * M 85 3) + 8).toNatClampNeg) = 1 → mj_W 9 110 7 288 [some (.ref 0), some (.ref 82), some (.ref 85), some (.int x3), some (.int (x4 / 5)), some (.int (11 * (x4 - x4 / M 85 3 * M 85 3))), some (.int (x4 - x4 / M 85 3 * M 85 3)), none, none] [.int 0] M 0 K) ∧ (M 82 ((11 * (x4 - x4 / M 85 3 * M 85 3) + 8).toNatClampNeg) = 1 → mj_W 9 110 7 288 [some (.ref 0), some (.ref 82), some (.ref 85), some (.int x3), some (.int (x4 / 5)), some (.int (11 * (x4 - x4 / M 85 3 * M 85 3))), some (.int (x4 - x4 / M 85 3 * M 85 3)), none, none] [.int 1] M 0 K))) ∧ (x3 = 3 → vp_in (11 * (x4 - x4 / M 85 3 * M 85 3) + 7) 55 ∧ 0 + 2 ≤ 40 ∧ mj_Cm 67 6 [.ref 0, .int (x4 - x4 / M 85 3 * M 85 3)] (mj_v (mj_u M 82 ((11 * (x4 - x4 / M 85 3 * M 85 3) + 7).toNatClampNeg) (1 - M 82 ((11 * (x4 - x4 / M 85 3 * M 85 3) + 7).toNatClampNeg))) 0) (mj_k2 9 110 7 247 [some (.ref 0), some (.ref 82), some (.ref 85), some (.int x3), some (.int (x4 / 5)), some (.int (11 * (x4 - x4 / M 85 3 * M 85 3))), some (.int (x4 - x4 / M 85 3 * M 85 3)), none, none] [] (mj_u M 82 ((11 * (x4 - x4 / M 85 3 * M 85 3) + 7).toNatClampNeg) (1 - M 82 ((11 * (x4 - x4 / M 85 3 * M 85 3) + 7).toNatClampNeg))) 0 81 (0 + 2) (some .boolean) K))) ∧ (¬ M 82 ((11 * (x4 - x4 / M 85 3 * M 85 3)).toNatClampNeg) = 3 → 0 ≤ 40 ∧ K 0 1 M))) ∧ (x3 = 2 → vp_in (11 * (x4 - x4 / M 85 3 * M 85 3) + 4) 55 ∧ 0 + 2 ≤ 40 ∧ mj_Cm 69 3 [.ref 0, .int (x4 - x4 / M 85 3 * M 85 3), .int (x4 / 5 - x4 / 5 / 4 * 4)] (mj_v (mj_u M 82 ((11 * (x4 - x4 / M 85 3 * M 85 3) + 4).toNatClampNeg) (x4 / 5 - x4 / 5 / 4 * 4)) 0) (mj_k2 9 110 7 199 [some (.ref 0), some (.ref 82), some (.ref 85), some (.int x3), some (.int (x4 / 5)), some (.int (11 * (x4 - x4 / M 85 3 * M 85 3))), some (.int (x4 - x4 / M 85 3 * M 85 3)), some (.int (M 82 ((11 * (x4 - x4 / M 85 3 * M 85 3) + 4).toNatClampNeg))), none] [] (mj_u M 82 ((11 * (x4 - x4 / M 85 3 * M 85 3) + 4).toNatClampNeg) (x4 / 5 - x4 / 5 / 4 * 4)) 0 81 (0 + 2) (some .int) K))) ∧ (x3 = 1 → mj_W 9 110 7 104 [some (.ref 0), some (.ref 82), some (.ref 85), some (.int x3), some (.int (x4 / 5)), some (.int (11 * (x4 - x4 / M 85 3 * M 85 3))), some (.int (x4 - x4 / M 85 3 * M 85 3)), some (.int 0), some (.int 0)] [] M 0 K)) ∧ (x3 = 0 → vp_in (11 * (x4 - x4 / M 85 3 * M 85 3) + 5) 55 ∧ ((¬ M 82 ((11 * (x4 - x4 / M 85 3 * M 85 3) + 5).toNatClampNeg) = 1 → mj_W 9 110 7 44 [some (.ref 0), some (.ref 82), some (.ref 85), some (.int x3), some (.int (x4 / 5)), some (.int (11 * (x4 - x4 / M 85 3 * M 85 3))), some (.int (x4 - x4 / M 85 3 * M 85 3)), none, none] [.int 0] M 0 K) ∧ (M 82 ((11 * (x4 - x4 / M 85 3 * M 85 3) + 5).toNatClampNeg) = 1 → mj_W 9 110 7 44 [some (.ref 0), some (.ref 82), some (.ref 85), some (.int x3), some (.int (x4 / 5)), some (.int (11 * (x4 - x4 / M 85 3 * M 85 3))), some (.int (x4 - x4 / M 85 3 * M 85 3)), none, none] [.int 1] M 0 K))))) : mj_Cm 110 7 [.ref 0, .ref 82, .ref 85, .int x3, .int x4] M K := mj_en rfl rfl rfl (t110_0 (cn := 0) h)

theorem t110_104 {M : mj_M} {K : mj_K} {x3 : Int32} {x4 : Int32} {x5 : Int32} {x6 : Int32} {x7 : Int32} {x8 : Int32} {cn : Nat} (h : (M 85 3 ≤ x8 → cn + 0 ≤ 40 ∧ mj_Cm 66 6 [.ref 0] (mj_v M 0) (mj_k2 9 110 7 155 [some (.ref 0), some (.ref 82), some (.ref 85), some (.int x3), some (.int x4), some (.int x5), some (.int x6), some (.int x7), some (.int x8)] [] M 0 81 cn (some .int) K)) ∧ (¬ M 85 3 ≤ x8 → vp_in (11 * x8 + 5) 55 ∧ vp_in (11 * x8 + 6) 55 ∧ mj_W 9 110 7 104 [some (.ref 0), some (.ref 82), some (.ref 85), some (.int x3), some (.int x4), some (.int x5), some (.int x6), some (.int (x7 + (mj_u M 82 ((11 * x8 + 6).toNatClampNeg) (M 82 ((11 * x8 + 5).toNatClampNeg))) 82 ((11 * x8 + 5).toNatClampNeg))), some (.int (x8 + 1))] [] (mj_u M 82 ((11 * x8 + 6).toNatClampNeg) (M 82 ((11 * x8 + 5).toNatClampNeg))) cn K)) : mj_W 9 110 7 104 [some (.ref 0), some (.ref 82), some (.ref 85), some (.int x3), some (.int x4), some (.int x5), some (.int x6), some (.int x7), some (.int x8)] [] M cn K := by
  refine b110_104 ?_
  refine ⟨fun c1 => ?_, fun c1 => ?_⟩
  · have h1a := h.1 c1
    refine b110_151 ?_
    have g2 := h1a.1
    refine ⟨g2, ?_⟩
    have h2 := h1a.2
    exact h2
  · have h1a := h.2 c1
    refine b110_112 ?_
    have g3 := h1a.1
    refine ⟨g3, ?_⟩
    have h3 := h1a.2
    have g4 := h3.1
    refine ⟨g4, ?_⟩
    have h4 := h3.2
    exact h4

theorem t110_44 {M : mj_M} {K : mj_K} {x3 : Int32} {x4 : Int32} {x5 : Int32} {x6 : Int32} {o7 : Option Value} {o8 : Option Value} {s0 : Int32} {cn : Nat} (h : (¬ x4 - x4 / 3 * 3 = 0 → mj_W 9 110 7 63 [some (.ref 0), some (.ref 82), some (.ref 85), some (.int x3), some (.int x4), some (.int x5), some (.int x6), some (.int s0), o8] [.int 0, .int (x5 + 5), .ref 82] M cn K) ∧ (x4 - x4 / 3 * 3 = 0 → mj_W 9 110 7 63 [some (.ref 0), some (.ref 82), some (.ref 85), some (.int x3), some (.int x4), some (.int x5), some (.int x6), some (.int s0), o8] [.int 1, .int (x5 + 5), .ref 82] M cn K)) : mj_W 9 110 7 44 [some (.ref 0), some (.ref 82), some (.ref 85), some (.int x3), some (.int x4), some (.int x5), some (.int x6), o7, o8] [.int s0] M cn K := by
  refine b110_44 ?_
  refine ⟨fun c1 => ?_, fun c1 => ?_⟩
  · have h1a := h.1 c1
    refine b110_62 ?_
    exact h1a
  · have h1a := h.2 c1
    refine b110_58 ?_
    exact h1a

theorem t110_63 {M : mj_M} {K : mj_K} {x3 : Int32} {x4 : Int32} {x5 : Int32} {x6 : Int32} {x7 : Int32} {o8 : Option Value} {s1 : Int32} {s2 : Int32} {cn : Nat} (h : vp_in s1 55 ∧ ((¬ x4 - x4 / 3 * 3 = 0 → mj_W 9 110 7 79 [some (.ref 0), some (.ref 82), some (.ref 85), some (.int x3), some (.int x4), some (.int x5), some (.int x6), some (.int x7), o8] [.int 0, .int x6, .ref 0] (mj_u M 82 s1.toNatClampNeg s2) cn K) ∧ (x4 - x4 / 3 * 3 = 0 → mj_W 9 110 7 79 [some (.ref 0), some (.ref 82), some (.ref 85), some (.int x3), some (.int x4), some (.int x5), some (.int x6), some (.int x7), o8] [.int 1, .int x6, .ref 0] (mj_u M 82 s1.toNatClampNeg s2) cn K))) : mj_W 9 110 7 63 [some (.ref 0), some (.ref 82), some (.ref 85), some (.int x3), some (.int x4), some (.int x5), some (.int x6), some (.int x7), o8] [.int s2, .int s1, .ref 82] M cn K := by
  refine b110_63 ?_
  have g1 := h.1
  refine ⟨g1, ?_⟩
  have h1 := h.2
  refine ⟨fun c2 => ?_, fun c2 => ?_⟩
  · have h2a := h1.1 c2
    refine b110_78 ?_
    exact h2a
  · have h2a := h1.2 c2
    refine b110_74 ?_
    exact h2a

theorem t110_79 {M : mj_M} {K : mj_K} {x3 : Int32} {x4 : Int32} {x5 : Int32} {x6 : Int32} {x7 : Int32} {o8 : Option Value} {s1 : Int32} {s2 : Int32} {cn : Nat} (h : cn + 1 ≤ 40 ∧ mj_Cm 65 6 [.ref 0, .int s1, .int s2] (mj_v M 0) (mj_k2 9 110 7 82 [some (.ref 0), some (.ref 82), some (.ref 85), some (.int x3), some (.int x4), some (.int x5), some (.int x6), some (.int x7), o8] [] M 0 81 (cn + 1) (some .boolean) K)) : mj_W 9 110 7 79 [some (.ref 0), some (.ref 82), some (.ref 85), some (.int x3), some (.int x4), some (.int x5), some (.int x6), some (.int x7), o8] [.int s2, .int s1, .ref 0] M cn K := by
  refine b110_79 ?_
  have g1 := h.1
  refine ⟨g1, ?_⟩
  have h1 := h.2
  exact h1

theorem t110_92 {M : mj_M} {K : mj_K} {x3 : Int32} {x4 : Int32} {x5 : Int32} {x6 : Int32} {x7 : Int32} {o8 : Option Value} {s0 : Int32} {cn : Nat} (h : cn ≤ 40 ∧ K 0 (mj_nb s0) M) : mj_W 9 110 7 92 [some (.ref 0), some (.ref 82), some (.ref 85), some (.int x3), some (.int x4), some (.int x5), some (.int x6), some (.int x7), o8] [.int s0] M cn K := by
  refine b110_92 ?_
  have g1 := h.1
  refine ⟨g1, ?_⟩
  have h1 := h.2
  exact h1

theorem t110_165 {M : mj_M} {K : mj_K} {x3 : Int32} {x4 : Int32} {x5 : Int32} {x6 : Int32} {x7 : Int32} {x8 : Int32} {s0 : Int32} {cn : Nat} (h : cn ≤ 40 ∧ K 0 (mj_nb s0) M) : mj_W 9 110 7 165 [some (.ref 0), some (.ref 82), some (.ref 85), some (.int x3), some (.int x4), some (.int x5), some (.int x6), some (.int x7), some (.int x8)] [.int s0] M cn K := by
  refine b110_165 ?_
  have g1 := h.1
  refine ⟨g1, ?_⟩
  have h1 := h.2
  exact h1

theorem t110_209 {M : mj_M} {K : mj_K} {x3 : Int32} {x4 : Int32} {x5 : Int32} {x6 : Int32} {x7 : Int32} {o8 : Option Value} {s0 : Int32} {cn : Nat} (h : cn ≤ 40 ∧ K 0 (mj_nb s0) M) : mj_W 9 110 7 209 [some (.ref 0), some (.ref 82), some (.ref 85), some (.int x3), some (.int x4), some (.int x5), some (.int x6), some (.int x7), o8] [.int s0] M cn K := by
  refine b110_209 ?_
  have g1 := h.1
  refine ⟨g1, ?_⟩
  have h1 := h.2
  exact h1

theorem t110_263 {M : mj_M} {K : mj_K} {x3 : Int32} {x4 : Int32} {x5 : Int32} {x6 : Int32} {o7 : Option Value} {o8 : Option Value} {s0 : Int32} {s1 : Int32} {cn : Nat} (h : (¬ s0 = s1 → mj_W 9 110 7 271 [some (.ref 0), some (.ref 82), some (.ref 85), some (.int x3), some (.int x4), some (.int x5), some (.int x6), o7, o8] [.int 0] M cn K) ∧ (s0 = s1 → mj_W 9 110 7 271 [some (.ref 0), some (.ref 82), some (.ref 85), some (.int x3), some (.int x4), some (.int x5), some (.int x6), o7, o8] [.int 1] M cn K)) : mj_W 9 110 7 263 [some (.ref 0), some (.ref 82), some (.ref 85), some (.int x3), some (.int x4), some (.int x5), some (.int x6), o7, o8] [.int s1, .int s0] M cn K := by
  refine b110_263 ?_
  refine ⟨fun c1 => ?_, fun c1 => ?_⟩
  · have h1a := h.1 c1
    refine b110_270 ?_
    exact h1a
  · have h1a := h.2 c1
    refine b110_266 ?_
    exact h1a

theorem t110_271 {M : mj_M} {K : mj_K} {x3 : Int32} {x4 : Int32} {x5 : Int32} {x6 : Int32} {o7 : Option Value} {o8 : Option Value} {s0 : Int32} {cn : Nat} (h : cn ≤ 40 ∧ K 0 (mj_nb s0) M) : mj_W 9 110 7 271 [some (.ref 0), some (.ref 82), some (.ref 85), some (.int x3), some (.int x4), some (.int x5), some (.int x6), o7, o8] [.int s0] M cn K := by
  refine b110_271 ?_
  have g1 := h.1
  refine ⟨g1, ?_⟩
  have h1 := h.2
  exact h1

theorem t110_288 {M : mj_M} {K : mj_K} {x3 : Int32} {x4 : Int32} {x5 : Int32} {x6 : Int32} {o7 : Option Value} {o8 : Option Value} {s0 : Int32} {cn : Nat} (h : vp_in (x5 + 8) 55 ∧ ((¬ x4 - x4 / 2 * 2 = 1 → mj_W 9 110 7 317 [some (.ref 0), some (.ref 82), some (.ref 85), some (.int x3), some (.int x4), some (.int x5), some (.int x6), some (.int s0), o8] [.int 0, .int x6, .ref 0] (mj_u M 82 ((x5 + 8).toNatClampNeg) (x4 - x4 / 2 * 2)) cn K) ∧ (x4 - x4 / 2 * 2 = 1 → mj_W 9 110 7 317 [some (.ref 0), some (.ref 82), some (.ref 85), some (.int x3), some (.int x4), some (.int x5), some (.int x6), some (.int s0), o8] [.int 1, .int x6, .ref 0] (mj_u M 82 ((x5 + 8).toNatClampNeg) (x4 - x4 / 2 * 2)) cn K))) : mj_W 9 110 7 288 [some (.ref 0), some (.ref 82), some (.ref 85), some (.int x3), some (.int x4), some (.int x5), some (.int x6), o7, o8] [.int s0] M cn K := by
  refine b110_288 ?_
  have g1 := h.1
  refine ⟨g1, ?_⟩
  have h1 := h.2
  refine ⟨fun c2 => ?_, fun c2 => ?_⟩
  · have h2a := h1.1 c2
    refine b110_316 ?_
    exact h2a
  · have h2a := h1.2 c2
    refine b110_312 ?_
    exact h2a

theorem t110_317 {M : mj_M} {K : mj_K} {x3 : Int32} {x4 : Int32} {x5 : Int32} {x6 : Int32} {x7 : Int32} {o8 : Option Value} {s1 : Int32} {s2 : Int32} {cn : Nat} (h : cn + 2 ≤ 40 ∧ mj_Cm 68 6 [.ref 0, .int s1, .int s2] (mj_v M 0) (mj_k2 9 110 7 320 [some (.ref 0), some (.ref 82), some (.ref 85), some (.int x3), some (.int x4), some (.int x5), some (.int x6), some (.int x7), o8] [] M 0 81 (cn + 2) (some .boolean) K)) : mj_W 9 110 7 317 [some (.ref 0), some (.ref 82), some (.ref 85), some (.int x3), some (.int x4), some (.int x5), some (.int x6), some (.int x7), o8] [.int s2, .int s1, .ref 0] M cn K := by
  refine b110_317 ?_
  have g1 := h.1
  refine ⟨g1, ?_⟩
  have h1 := h.2
  exact h1

theorem t110_330 {M : mj_M} {K : mj_K} {x3 : Int32} {x4 : Int32} {x5 : Int32} {x6 : Int32} {x7 : Int32} {o8 : Option Value} {s0 : Int32} {cn : Nat} (h : cn ≤ 40 ∧ K 0 (mj_nb s0) M) : mj_W 9 110 7 330 [some (.ref 0), some (.ref 82), some (.ref 85), some (.int x3), some (.int x4), some (.int x5), some (.int x6), some (.int x7), o8] [.int s0] M cn K := by
  refine b110_330 ?_
  have g1 := h.1
  refine ⟨g1, ?_⟩
  have h1 := h.2
  exact h1

theorem t110_247 {M : mj_M} {K : mj_K} {x3 : Int32} {x4 : Int32} {x5 : Int32} {x6 : Int32} {o7 : Option Value} {o8 : Option Value} {s0 : Int32} {cn : Nat} (h : vp_in (x5 + 7) 55 ∧ ((¬ M 82 ((x5 + 7).toNatClampNeg) = 1 → mj_W 9 110 7 263 [some (.ref 0), some (.ref 82), some (.ref 85), some (.int x3), some (.int x4), some (.int x5), some (.int x6), o7, o8] [.int 0, .int s0] M cn K) ∧ (M 82 ((x5 + 7).toNatClampNeg) = 1 → mj_W 9 110 7 263 [some (.ref 0), some (.ref 82), some (.ref 85), some (.int x3), some (.int x4), some (.int x5), some (.int x6), o7, o8] [.int 1, .int s0] M cn K))) : mj_W 9 110 7 247 [some (.ref 0), some (.ref 82), some (.ref 85), some (.int x3), some (.int x4), some (.int x5), some (.int x6), o7, o8] [.int s0] M cn K := by
  refine b110_247 ?_
  have g1 := h.1
  refine ⟨g1, ?_⟩
  have h1 := h.2
  refine ⟨fun c2 => ?_, fun c2 => ?_⟩
  · have h2a := h1.1 c2
    refine b110_262 ?_
    exact h2a
  · have h2a := h1.2 c2
    refine b110_258 ?_
    exact h2a

theorem t110_199 {M : mj_M} {K : mj_K} {x3 : Int32} {x4 : Int32} {x5 : Int32} {x6 : Int32} {x7 : Int32} {o8 : Option Value} {s0 : Int32} {cn : Nat} (h : (¬ s0 = x7 → mj_W 9 110 7 209 [some (.ref 0), some (.ref 82), some (.ref 85), some (.int x3), some (.int x4), some (.int x5), some (.int x6), some (.int x7), o8] [.int 0] M cn K) ∧ (s0 = x7 → mj_W 9 110 7 209 [some (.ref 0), some (.ref 82), some (.ref 85), some (.int x3), some (.int x4), some (.int x5), some (.int x6), some (.int x7), o8] [.int 1] M cn K)) : mj_W 9 110 7 199 [some (.ref 0), some (.ref 82), some (.ref 85), some (.int x3), some (.int x4), some (.int x5), some (.int x6), some (.int x7), o8] [.int s0] M cn K := by
  refine b110_199 ?_
  refine ⟨fun c1 => ?_, fun c1 => ?_⟩
  · have h1a := h.1 c1
    refine b110_208 ?_
    exact h1a
  · have h1a := h.2 c1
    refine b110_204 ?_
    exact h1a

theorem t110_155 {M : mj_M} {K : mj_K} {x3 : Int32} {x4 : Int32} {x5 : Int32} {x6 : Int32} {x7 : Int32} {x8 : Int32} {s0 : Int32} {cn : Nat} (h : (¬ s0 = x7 → mj_W 9 110 7 165 [some (.ref 0), some (.ref 82), some (.ref 85), some (.int x3), some (.int x4), some (.int x5), some (.int x6), some (.int x7), some (.int x8)] [.int 0] M cn K) ∧ (s0 = x7 → mj_W 9 110 7 165 [some (.ref 0), some (.ref 82), some (.ref 85), some (.int x3), some (.int x4), some (.int x5), some (.int x6), some (.int x7), some (.int x8)] [.int 1] M cn K)) : mj_W 9 110 7 155 [some (.ref 0), some (.ref 82), some (.ref 85), some (.int x3), some (.int x4), some (.int x5), some (.int x6), some (.int x7), some (.int x8)] [.int s0] M cn K := by
  refine b110_155 ?_
  refine ⟨fun c1 => ?_, fun c1 => ?_⟩
  · have h1a := h.1 c1
    refine b110_164 ?_
    exact h1a
  · have h1a := h.2 c1
    refine b110_160 ?_
    exact h1a

theorem t110_82 {M : mj_M} {K : mj_K} {x3 : Int32} {x4 : Int32} {x5 : Int32} {x6 : Int32} {x7 : Int32} {o8 : Option Value} {s0 : Int32} {cn : Nat} (h : (¬ s0 = x7 → mj_W 9 110 7 92 [some (.ref 0), some (.ref 82), some (.ref 85), some (.int x3), some (.int x4), some (.int x5), some (.int x6), some (.int x7), o8] [.int 0] M cn K) ∧ (s0 = x7 → mj_W 9 110 7 92 [some (.ref 0), some (.ref 82), some (.ref 85), some (.int x3), some (.int x4), some (.int x5), some (.int x6), some (.int x7), o8] [.int 1] M cn K)) : mj_W 9 110 7 82 [some (.ref 0), some (.ref 82), some (.ref 85), some (.int x3), some (.int x4), some (.int x5), some (.int x6), some (.int x7), o8] [.int s0] M cn K := by
  refine b110_82 ?_
  refine ⟨fun c1 => ?_, fun c1 => ?_⟩
  · have h1a := h.1 c1
    refine b110_91 ?_
    exact h1a
  · have h1a := h.2 c1
    refine b110_87 ?_
    exact h1a

theorem t110_320 {M : mj_M} {K : mj_K} {x3 : Int32} {x4 : Int32} {x5 : Int32} {x6 : Int32} {x7 : Int32} {o8 : Option Value} {s0 : Int32} {cn : Nat} (h : (¬ s0 = x7 → mj_W 9 110 7 330 [some (.ref 0), some (.ref 82), some (.ref 85), some (.int x3), some (.int x4), some (.int x5), some (.int x6), some (.int x7), o8] [.int 0] M cn K) ∧ (s0 = x7 → mj_W 9 110 7 330 [some (.ref 0), some (.ref 82), some (.ref 85), some (.int x3), some (.int x4), some (.int x5), some (.int x6), some (.int x7), o8] [.int 1] M cn K)) : mj_W 9 110 7 320 [some (.ref 0), some (.ref 82), some (.ref 85), some (.int x3), some (.int x4), some (.int x5), some (.int x6), some (.int x7), o8] [.int s0] M cn K := by
  refine b110_320 ?_
  refine ⟨fun c1 => ?_, fun c1 => ?_⟩
  · have h1a := h.1 c1
    refine b110_329 ?_
    exact h1a
  · have h1a := h.2 c1
    refine b110_325 ?_
    exact h1a

theorem t111_0 {M : mj_M} {K : mj_K} {cn : Nat} (h : mj_W 9 111 7 6 [some (.ref 0), some (.ref 999), some (.ref 82), some (.ref 83), some (.ref 85), some (.int 1), some (.int 0), none, none, none, none] [] M cn K) : mj_W 9 111 7 0 [some (.ref 0), some (.ref 999), some (.ref 82), some (.ref 83), some (.ref 85), none, none, none, none, none, none] [] M cn K := by
  refine b111_0 ?_
  exact h
theorem e111 {M : mj_M} {K : mj_K}  (h : mj_W 9 111 7 6 [some (.ref 0), some (.ref 999), some (.ref 82), some (.ref 83), some (.ref 85), some (.int 1), some (.int 0), none, none, none, none] [] M 0 K) : mj_Cm 111 7 [.ref 0, .ref 999, .ref 82, .ref 83, .ref 85] M K := mj_en rfl rfl rfl (t111_0 (cn := 0) h)

theorem t111_6 {M : mj_M} {K : mj_K} {x5 : Int32} {x6 : Int32} {o7 : Option Value} {o8 : Option Value} {o9 : Option Value} {o10 : Option Value} {cn : Nat} (h : (6 ≤ x6 → mj_W 9 111 7 112 [some (.ref 0), some (.ref 999), some (.ref 82), some (.ref 83), some (.ref 85), some (.int x5), some (.int 0), o7, o8, o9, o10] [] (mj_u M 85 2 6) cn K) ∧ (¬ 6 ≤ x6 → (x5 = 0 → mj_W 9 111 7 112 [some (.ref 0), some (.ref 999), some (.ref 82), some (.ref 83), some (.ref 85), some (.int x5), some (.int 0), o7, o8, o9, o10] [] (mj_u M 85 2 6) cn K) ∧ (¬ x5 = 0 → (2 ≤ x6 → (4 ≤ x6 → mj_W 9 111 7 44 [some (.ref 0), some (.ref 999), some (.ref 82), some (.ref 83), some (.ref 85), some (.int x5), some (.int x6), o7, o8, o9, o10] [.int 2, .int (5 * x6), .ref 83] M cn K) ∧ (¬ 4 ≤ x6 → mj_W 9 111 7 44 [some (.ref 0), some (.ref 999), some (.ref 82), some (.ref 83), some (.ref 85), some (.int x5), some (.int x6), o7, o8, o9, o10] [.int 1, .int (5 * x6), .ref 83] M cn K)) ∧ (¬ 2 ≤ x6 → mj_W 9 111 7 44 [some (.ref 0), some (.ref 999), some (.ref 82), some (.ref 83), some (.ref 85), some (.int x5), some (.int x6), o7, o8, o9, o10] [.int 0, .int (5 * x6), .ref 83] M cn K)))) : mj_W 9 111 7 6 [some (.ref 0), some (.ref 999), some (.ref 82), some (.ref 83), some (.ref 85), some (.int x5), some (.int x6), o7, o8, o9, o10] [] M cn K := by
  refine b111_6 ?_
  refine ⟨fun c1 => ?_, fun c1 => ?_⟩
  · have h1a := h.1 c1
    refine b111_103 ?_
    exact h1a
  · have h1a := h.2 c1
    refine b111_13 ?_
    refine ⟨fun c2 => ?_, fun c2 => ?_⟩
    · have h2a := h1a.1 c2
      refine b111_103 ?_
      exact h2a
    · have h2a := h1a.2 c2
      refine b111_18 ?_
      refine ⟨fun c3 => ?_, fun c3 => ?_⟩
      · have h3a := h2a.1 c3
        refine b111_33 ?_
        refine ⟨fun c4 => ?_, fun c4 => ?_⟩
        · have h4a := h3a.1 c4
          refine b111_43 ?_
          exact h4a
        · have h4a := h3a.2 c4
          refine b111_39 ?_
          exact h4a
      · have h3a := h2a.2 c3
        refine b111_29 ?_
        exact h3a

theorem t111_112 {M : mj_M} {K : mj_K} {x5 : Int32} {x6 : Int32} {o7 : Option Value} {o8 : Option Value} {o9 : Option Value} {o10 : Option Value} {cn : Nat} (h : (5 ≤ x6 → cn ≤ 100 ∧ K 0 (mj_nb x5) (mj_u M 85 3 5)) ∧ (¬ 5 ≤ x6 → (x5 = 0 → cn ≤ 100 ∧ K 0 (mj_nb x5) (mj_u M 85 3 5)) ∧ (¬ x5 = 0 → cn + 0 ≤ 100 ∧ mj_Cm 91 1 [.ref 999, .int (410 + x6), .int 1000000000] M (mj_k 9 111 7 135 [some (.ref 0), some (.ref 999), some (.ref 82), some (.ref 83), some (.ref 85), some (.int x5), some (.int x6), o7, o8, o9, o10] [] cn (some .int) K)))) : mj_W 9 111 7 112 [some (.ref 0), some (.ref 999), some (.ref 82), some (.ref 83), some (.ref 85), some (.int x5), some (.int x6), o7, o8, o9, o10] [] M cn K := by
  refine b111_112 ?_
  refine ⟨fun c1 => ?_, fun c1 => ?_⟩
  · have h1a := h.1 c1
    refine b111_402 ?_
    have g2 := h1a.1
    refine ⟨g2, ?_⟩
    have h2 := h1a.2
    exact h2
  · have h1a := h.2 c1
    refine b111_118 ?_
    refine ⟨fun c3 => ?_, fun c3 => ?_⟩
    · have h3a := h1a.1 c3
      refine b111_402 ?_
      have g4 := h3a.1
      refine ⟨g4, ?_⟩
      have h4 := h3a.2
      exact h4
    · have h3a := h1a.2 c3
      refine b111_123 ?_
      have g5 := h3a.1
      refine ⟨g5, ?_⟩
      have h5 := h3a.2
      exact h5

theorem t111_44 {M : mj_M} {K : mj_K} {x5 : Int32} {x6 : Int32} {o7 : Option Value} {o8 : Option Value} {o9 : Option Value} {o10 : Option Value} {s1 : Int32} {s2 : Int32} {cn : Nat} (h : vp_in s1 30 ∧ cn + 0 ≤ 100 ∧ mj_Cm 91 1 [.ref 999, .int (400 + x6), .int 6] (mj_u M 83 s1.toNatClampNeg s2) (mj_k 9 111 7 65 [some (.ref 0), some (.ref 999), some (.ref 82), some (.ref 83), some (.ref 85), some (.int x5), some (.int x6), o7, o8, o9, o10] [.int 1, .int (5 * x6 + 1), .ref 83] cn (some .int) K)) : mj_W 9 111 7 44 [some (.ref 0), some (.ref 999), some (.ref 82), some (.ref 83), some (.ref 85), some (.int x5), some (.int x6), o7, o8, o9, o10] [.int s2, .int s1, .ref 83] M cn K := by
  refine b111_44 ?_
  have g1 := h.1
  refine ⟨g1, ?_⟩
  have h1 := h.2
  have g2 := h1.1
  refine ⟨g2, ?_⟩
  have h2 := h1.2
  exact h2

theorem t111_95 {M : mj_M} {K : mj_K} {x5 : Int32} {x6 : Int32} {o7 : Option Value} {o8 : Option Value} {o9 : Option Value} {o10 : Option Value} {s0 : Int32} {cn : Nat} (h : mj_W 9 111 7 6 [some (.ref 0), some (.ref 999), some (.ref 82), some (.ref 83), some (.ref 85), some (.int s0), some (.int (x6 + 1)), o7, o8, o9, o10] [] M cn K) : mj_W 9 111 7 95 [some (.ref 0), some (.ref 999), some (.ref 82), some (.ref 83), some (.ref 85), some (.int x5), some (.int x6), o7, o8, o9, o10] [.int s0] M cn K := by
  refine b111_95 ?_
  exact h

theorem t111_171 {M : mj_M} {K : mj_K} {x5 : Int32} {x6 : Int32} {x7 : Int32} {o8 : Option Value} {o9 : Option Value} {o10 : Option Value} {s0 : Int32} {cn : Nat} (h : (¬ x6 = 0 → (¬ x6 = 1 → (¬ x6 = 2 → mj_W 9 111 7 217 [some (.ref 0), some (.ref 999), some (.ref 82), some (.ref 83), some (.ref 85), some (.int x5), some (.int x6), some (.int x7), some (.int s0), o9, o10] [.int (s0 + 1 + (x7 / 6 - x7 / 6 / 5 * 5) - (s0 + 1 + (x7 / 6 - x7 / 6 / 5 * 5)) / 6 * 6)] M cn K) ∧ (x6 = 2 → mj_W 9 111 7 217 [some (.ref 0), some (.ref 999), some (.ref 82), some (.ref 83), some (.ref 85), some (.int x5), some (.int x6), some (.int x7), some (.int s0), o9, o10] [.int 1] M cn K)) ∧ (x6 = 1 → mj_W 9 111 7 217 [some (.ref 0), some (.ref 999), some (.ref 82), some (.ref 83), some (.ref 85), some (.int x5), some (.int x6), some (.int x7), some (.int s0), o9, o10] [.int 4] M cn K)) ∧ (x6 = 0 → mj_W 9 111 7 217 [some (.ref 0), some (.ref 999), some (.ref 82), some (.ref 83), some (.ref 85), some (.int x5), some (.int x6), some (.int x7), some (.int s0), o9, o10] [.int 2] M cn K)) : mj_W 9 111 7 171 [some (.ref 0), some (.ref 999), some (.ref 82), some (.ref 83), some (.ref 85), some (.int x5), some (.int x6), some (.int x7), o8, o9, o10] [.int s0] M cn K := by
  refine b111_171 ?_
  refine ⟨fun c1 => ?_, fun c1 => ?_⟩
  · have h1a := h.1 c1
    refine b111_182 ?_
    refine ⟨fun c2 => ?_, fun c2 => ?_⟩
    · have h2a := h1a.1 c2
      refine b111_192 ?_
      refine ⟨fun c3 => ?_, fun c3 => ?_⟩
      · have h3a := h2a.1 c3
        refine b111_202 ?_
        exact h3a
      · have h3a := h2a.2 c3
        refine b111_198 ?_
        exact h3a
    · have h2a := h1a.2 c2
      refine b111_188 ?_
      exact h2a
  · have h1a := h.2 c1
    refine b111_178 ?_
    exact h1a

theorem t111_217 {M : mj_M} {K : mj_K} {x5 : Int32} {x6 : Int32} {x7 : Int32} {x8 : Int32} {o9 : Option Value} {o10 : Option Value} {s0 : Int32} {cn : Nat} (h : (x6 ≤ 2 → mj_W 9 111 7 241 [some (.ref 0), some (.ref 999), some (.ref 82), some (.ref 83), some (.ref 85), some (.int x5), some (.int x6), some (.int x7), some (.int x8), some (.int s0), o10] [.int 0] M cn K) ∧ (¬ x6 ≤ 2 → (¬ x7 / 30 - x7 / 30 / 2 * 2 = 1 → mj_W 9 111 7 241 [some (.ref 0), some (.ref 999), some (.ref 82), some (.ref 83), some (.ref 85), some (.int x5), some (.int x6), some (.int x7), some (.int x8), some (.int s0), o10] [.int 0] M cn K) ∧ (x7 / 30 - x7 / 30 / 2 * 2 = 1 → mj_W 9 111 7 241 [some (.ref 0), some (.ref 999), some (.ref 82), some (.ref 83), some (.ref 85), some (.int x5), some (.int x6), some (.int x7), some (.int x8), some (.int s0), o10] [.int 1] M cn K))) : mj_W 9 111 7 217 [some (.ref 0), some (.ref 999), some (.ref 82), some (.ref 83), some (.ref 85), some (.int x5), some (.int x6), some (.int x7), some (.int x8), o9, o10] [.int s0] M cn K := by
  refine b111_217 ?_
  refine ⟨fun c1 => ?_, fun c1 => ?_⟩
  · have h1a := h.1 c1
    refine b111_240 ?_
    exact h1a
  · have h1a := h.2 c1
    refine b111_225 ?_
    refine ⟨fun c2 => ?_, fun c2 => ?_⟩
    · have h2a := h1a.1 c2
      refine b111_240 ?_
      exact h2a
    · have h2a := h1a.2 c2
      refine b111_236 ?_
      exact h2a

theorem t111_241 {M : mj_M} {K : mj_K} {x5 : Int32} {x6 : Int32} {x7 : Int32} {x8 : Int32} {x9 : Int32} {o10 : Option Value} {s0 : Int32} {cn : Nat} (h : vp_in (11 * x6) 55 ∧ ((s0 = 0 → mj_W 9 111 7 277 [some (.ref 0), some (.ref 999), some (.ref 82), some (.ref 83), some (.ref 85), some (.int x5), some (.int x6), some (.int x7), some (.int x8), some (.int x9), some (.int s0)] [.int x8, .int (11 * x6 + 1), .ref 82] (mj_u M 82 ((11 * x6).toNatClampNeg) (x7 / 60 - x7 / 60 / 5 * 5)) cn K) ∧ (¬ s0 = 0 → mj_W 9 111 7 277 [some (.ref 0), some (.ref 999), some (.ref 82), some (.ref 83), some (.ref 85), some (.int x5), some (.int x6), some (.int x7), some (.int x8), some (.int x9), some (.int s0)] [.int x9, .int (11 * x6 + 1), .ref 82] (mj_u M 82 ((11 * x6).toNatClampNeg) (x7 / 60 - x7 / 60 / 5 * 5)) cn K))) : mj_W 9 111 7 241 [some (.ref 0), some (.ref 999), some (.ref 82), some (.ref 83), some (.ref 85), some (.int x5), some (.int x6), some (.int x7), some (.int x8), some (.int x9), o10] [.int s0] M cn K := by
  refine b111_241 ?_
  have g1 := h.1
  refine ⟨g1, ?_⟩
  have h1 := h.2
  refine ⟨fun c2 => ?_, fun c2 => ?_⟩
  · have h2a := h1.1 c2
    refine b111_275 ?_
    exact h2a
  · have h2a := h1.2 c2
    refine b111_270 ?_
    exact h2a

theorem t111_277 {M : mj_M} {K : mj_K} {x5 : Int32} {x6 : Int32} {x7 : Int32} {x8 : Int32} {x9 : Int32} {x10 : Int32} {s1 : Int32} {s2 : Int32} {cn : Nat} (h : vp_in s1 55 ∧ ((x10 = 0 → mj_W 9 111 7 298 [some (.ref 0), some (.ref 999), some (.ref 82), some (.ref 83), some (.ref 85), some (.int x5), some (.int x6), some (.int x7), some (.int x8), some (.int x9), some (.int x10)] [.int x9, .int (11 * x6 + 2), .ref 82] (mj_u M 82 s1.toNatClampNeg s2) cn K) ∧ (¬ x10 = 0 → mj_W 9 111 7 298 [some (.ref 0), some (.ref 999), some (.ref 82), some (.ref 83), some (.ref 85), some (.int x5), some (.int x6), some (.int x7), some (.int x8), some (.int x9), some (.int x10)] [.int x8, .int (11 * x6 + 2), .ref 82] (mj_u M 82 s1.toNatClampNeg s2) cn K))) : mj_W 9 111 7 277 [some (.ref 0), some (.ref 999), some (.ref 82), some (.ref 83), some (.ref 85), some (.int x5), some (.int x6), some (.int x7), some (.int x8), some (.int x9), some (.int x10)] [.int s2, .int s1, .ref 82] M cn K := by
  refine b111_277 ?_
  have g1 := h.1
  refine ⟨g1, ?_⟩
  have h1 := h.2
  refine ⟨fun c2 => ?_, fun c2 => ?_⟩
  · have h2a := h1.1 c2
    refine b111_296 ?_
    exact h2a
  · have h2a := h1.2 c2
    refine b111_291 ?_
    exact h2a

theorem t111_298 {M : mj_M} {K : mj_K} {x5 : Int32} {x6 : Int32} {x7 : Int32} {x8 : Int32} {x9 : Int32} {x10 : Int32} {s1 : Int32} {s2 : Int32} {cn : Nat} (h : vp_in s1 55 ∧ vp_in (11 * x6 + 3) 55 ∧ vp_in (11 * x6 + 4) 55 ∧ vp_in (11 * x6) 55 ∧ vp_in (11 * x6 + 1) 55 ∧ vp_in (11 * x6 + 2) 55 ∧ cn + 7 ≤ 100 ∧ mj_Cm 64 6 [.ref 0, .int ((mj_u (mj_u (mj_u M 82 s1.toNatClampNeg s2) 82 ((11 * x6 + 3).toNatClampNeg) (1 + (x7 / 300 - x7 / 300 / 5 * 5))) 82 ((11 * x6 + 4).toNatClampNeg) (1 + (x7 / 1500 - x7 / 1500 / 3 * 3))) 82 ((11 * x6).toNatClampNeg)), .int ((mj_u (mj_u (mj_u M 82 s1.toNatClampNeg s2) 82 ((11 * x6 + 3).toNatClampNeg) (1 + (x7 / 300 - x7 / 300 / 5 * 5))) 82 ((11 * x6 + 4).toNatClampNeg) (1 + (x7 / 1500 - x7 / 1500 / 3 * 3))) 82 ((11 * x6 + 1).toNatClampNeg)), .int ((mj_u (mj_u (mj_u M 82 s1.toNatClampNeg s2) 82 ((11 * x6 + 3).toNatClampNeg) (1 + (x7 / 300 - x7 / 300 / 5 * 5))) 82 ((11 * x6 + 4).toNatClampNeg) (1 + (x7 / 1500 - x7 / 1500 / 3 * 3))) 82 ((11 * x6 + 2).toNatClampNeg)), .int ((mj_u (mj_u (mj_u M 82 s1.toNatClampNeg s2) 82 ((11 * x6 + 3).toNatClampNeg) (1 + (x7 / 300 - x7 / 300 / 5 * 5))) 82 ((11 * x6 + 4).toNatClampNeg) (1 + (x7 / 1500 - x7 / 1500 / 3 * 3))) 82 ((11 * x6 + 3).toNatClampNeg)), .int ((mj_u (mj_u (mj_u M 82 s1.toNatClampNeg s2) 82 ((11 * x6 + 3).toNatClampNeg) (1 + (x7 / 300 - x7 / 300 / 5 * 5))) 82 ((11 * x6 + 4).toNatClampNeg) (1 + (x7 / 1500 - x7 / 1500 / 3 * 3))) 82 ((11 * x6 + 4).toNatClampNeg))] (mj_v (mj_u (mj_u (mj_u M 82 s1.toNatClampNeg s2) 82 ((11 * x6 + 3).toNatClampNeg) (1 + (x7 / 300 - x7 / 300 / 5 * 5))) 82 ((11 * x6 + 4).toNatClampNeg) (1 + (x7 / 1500 - x7 / 1500 / 3 * 3))) 0) (mj_k2 9 111 7 384 [some (.ref 0), some (.ref 999), some (.ref 82), some (.ref 83), some (.ref 85), some (.int x5), some (.int x6), some (.int x7), some (.int x8), some (.int x9), some (.int x10)] [] (mj_u (mj_u (mj_u M 82 s1.toNatClampNeg s2) 82 ((11 * x6 + 3).toNatClampNeg) (1 + (x7 / 300 - x7 / 300 / 5 * 5))) 82 ((11 * x6 + 4).toNatClampNeg) (1 + (x7 / 1500 - x7 / 1500 / 3 * 3))) 0 81 (cn + 7) (some .int) K)) : mj_W 9 111 7 298 [some (.ref 0), some (.ref 999), some (.ref 82), some (.ref 83), some (.ref 85), some (.int x5), some (.int x6), some (.int x7), some (.int x8), some (.int x9), some (.int x10)] [.int s2, .int s1, .ref 82] M cn K := by
  refine b111_298 ?_
  have g1 := h.1
  refine ⟨g1, ?_⟩
  have h1 := h.2
  have g2 := h1.1
  refine ⟨g2, ?_⟩
  have h2 := h1.2
  have g3 := h2.1
  refine ⟨g3, ?_⟩
  have h3 := h2.2
  have g4 := h3.1
  refine ⟨g4, ?_⟩
  have h4 := h3.2
  have g5 := h4.1
  refine ⟨g5, ?_⟩
  have h5 := h4.2
  have g6 := h5.1
  refine ⟨g6, ?_⟩
  have h6 := h5.2
  have g7 := h6.1
  refine ⟨g7, ?_⟩
  have h7 := h6.2
  exact h7

theorem t111_394 {M : mj_M} {K : mj_K} {x5 : Int32} {x6 : Int32} {x7 : Int32} {x8 : Int32} {x9 : Int32} {x10 : Int32} {s0 : Int32} {cn : Nat} (h : mj_W 9 111 7 112 [some (.ref 0), some (.ref 999), some (.ref 82), some (.ref 83), some (.ref 85), some (.int s0), some (.int (x6 + 1)), some (.int x7), some (.int x8), some (.int x9), some (.int x10)] [] M cn K) : mj_W 9 111 7 394 [some (.ref 0), some (.ref 999), some (.ref 82), some (.ref 83), some (.ref 85), some (.int x5), some (.int x6), some (.int x7), some (.int x8), some (.int x9), some (.int x10)] [.int s0] M cn K := by
  refine b111_394 ?_
  exact h

theorem t111_135 {M : mj_M} {K : mj_K} {x5 : Int32} {x6 : Int32} {o7 : Option Value} {o8 : Option Value} {o9 : Option Value} {o10 : Option Value} {s0 : Int32} {cn : Nat} (h : (¬ x6 = 0 → (¬ x6 = 1 → (¬ x6 = 2 → mj_W 9 111 7 171 [some (.ref 0), some (.ref 999), some (.ref 82), some (.ref 83), some (.ref 85), some (.int x5), some (.int x6), some (.int s0), o8, o9, o10] [.int (s0 - s0 / 6 * 6)] M cn K) ∧ (x6 = 2 → mj_W 9 111 7 171 [some (.ref 0), some (.ref 999), some (.ref 82), some (.ref 83), some (.ref 85), some (.int x5), some (.int x6), some (.int s0), o8, o9, o10] [.int 2] M cn K)) ∧ (x6 = 1 → mj_W 9 111 7 171 [some (.ref 0), some (.ref 999), some (.ref 82), some (.ref 83), some (.ref 85), some (.int x5), some (.int x6), some (.int s0), o8, o9, o10] [.int 2] M cn K)) ∧ (x6 = 0 → mj_W 9 111 7 171 [some (.ref 0), some (.ref 999), some (.ref 82), some (.ref 83), some (.ref 85), some (.int x5), some (.int x6), some (.int s0), o8, o9, o10] [.int 0] M cn K)) : mj_W 9 111 7 135 [some (.ref 0), some (.ref 999), some (.ref 82), some (.ref 83), some (.ref 85), some (.int x5), some (.int x6), o7, o8, o9, o10] [.int s0] M cn K := by
  refine b111_135 ?_
  refine ⟨fun c1 => ?_, fun c1 => ?_⟩
  · have h1a := h.1 c1
    refine b111_146 ?_
    refine ⟨fun c2 => ?_, fun c2 => ?_⟩
    · have h2a := h1a.1 c2
      refine b111_156 ?_
      refine ⟨fun c3 => ?_, fun c3 => ?_⟩
      · have h3a := h2a.1 c3
        refine b111_166 ?_
        exact h3a
      · have h3a := h2a.2 c3
        refine b111_162 ?_
        exact h3a
    · have h2a := h1a.2 c2
      refine b111_152 ?_
      exact h2a
  · have h1a := h.2 c1
    refine b111_142 ?_
    exact h1a

theorem t111_65 {M : mj_M} {K : mj_K} {x5 : Int32} {x6 : Int32} {o7 : Option Value} {o8 : Option Value} {o9 : Option Value} {o10 : Option Value} {s1 : Int32} {s2 : Int32} {s3 : Int32} {cn : Nat} (h : vp_in s1 30 ∧ vp_in (5 * x6) 30 ∧ vp_in (5 * x6 + 1) 30 ∧ cn + 3 ≤ 100 ∧ mj_Cm 63 6 [.ref 0, .int ((mj_u M 83 s1.toNatClampNeg (s2 + s3)) 83 ((5 * x6).toNatClampNeg)), .int ((mj_u M 83 s1.toNatClampNeg (s2 + s3)) 83 ((5 * x6 + 1).toNatClampNeg))] (mj_v (mj_u M 83 s1.toNatClampNeg (s2 + s3)) 0) (mj_k2 9 111 7 85 [some (.ref 0), some (.ref 999), some (.ref 82), some (.ref 83), some (.ref 85), some (.int x5), some (.int x6), o7, o8, o9, o10] [] (mj_u M 83 s1.toNatClampNeg (s2 + s3)) 0 81 (cn + 3) (some .int) K)) : mj_W 9 111 7 65 [some (.ref 0), some (.ref 999), some (.ref 82), some (.ref 83), some (.ref 85), some (.int x5), some (.int x6), o7, o8, o9, o10] [.int s3, .int s2, .int s1, .ref 83] M cn K := by
  refine b111_65 ?_
  have g1 := h.1
  refine ⟨g1, ?_⟩
  have h1 := h.2
  have g2 := h1.1
  refine ⟨g2, ?_⟩
  have h2 := h1.2
  have g3 := h2.1
  refine ⟨g3, ?_⟩
  have h3 := h2.2
  have g4 := h3.1
  refine ⟨g4, ?_⟩
  have h4 := h3.2
  exact h4

theorem t111_384 {M : mj_M} {K : mj_K} {x5 : Int32} {x6 : Int32} {x7 : Int32} {x8 : Int32} {x9 : Int32} {x10 : Int32} {s0 : Int32} {cn : Nat} (h : (¬ s0 = x6 → mj_W 9 111 7 394 [some (.ref 0), some (.ref 999), some (.ref 82), some (.ref 83), some (.ref 85), some (.int x5), some (.int x6), some (.int x7), some (.int x8), some (.int x9), some (.int x10)] [.int 0] M cn K) ∧ (s0 = x6 → mj_W 9 111 7 394 [some (.ref 0), some (.ref 999), some (.ref 82), some (.ref 83), some (.ref 85), some (.int x5), some (.int x6), some (.int x7), some (.int x8), some (.int x9), some (.int x10)] [.int 1] M cn K)) : mj_W 9 111 7 384 [some (.ref 0), some (.ref 999), some (.ref 82), some (.ref 83), some (.ref 85), some (.int x5), some (.int x6), some (.int x7), some (.int x8), some (.int x9), some (.int x10)] [.int s0] M cn K := by
  refine b111_384 ?_
  refine ⟨fun c1 => ?_, fun c1 => ?_⟩
  · have h1a := h.1 c1
    refine b111_393 ?_
    exact h1a
  · have h1a := h.2 c1
    refine b111_389 ?_
    exact h1a

theorem t111_85 {M : mj_M} {K : mj_K} {x5 : Int32} {x6 : Int32} {o7 : Option Value} {o8 : Option Value} {o9 : Option Value} {o10 : Option Value} {s0 : Int32} {cn : Nat} (h : (¬ s0 = x6 → mj_W 9 111 7 95 [some (.ref 0), some (.ref 999), some (.ref 82), some (.ref 83), some (.ref 85), some (.int x5), some (.int x6), o7, o8, o9, o10] [.int 0] M cn K) ∧ (s0 = x6 → mj_W 9 111 7 95 [some (.ref 0), some (.ref 999), some (.ref 82), some (.ref 83), some (.ref 85), some (.int x5), some (.int x6), o7, o8, o9, o10] [.int 1] M cn K)) : mj_W 9 111 7 85 [some (.ref 0), some (.ref 999), some (.ref 82), some (.ref 83), some (.ref 85), some (.int x5), some (.int x6), o7, o8, o9, o10] [.int s0] M cn K := by
  refine b111_85 ?_
  refine ⟨fun c1 => ?_, fun c1 => ?_⟩
  · have h1a := h.1 c1
    refine b111_94 ?_
    exact h1a
  · have h1a := h.2 c1
    refine b111_90 ?_
    exact h1a

theorem t112_36 {M : mj_M} {K : mj_K} {o7 : Option Value} {o8 : Option Value} {o9 : Option Value} {o10 : Option Value} {o11 : Option Value} {o12 : Option Value} {o13 : Option Value} {cn : Nat} (h : cn + 100 ≤ 30000 ∧ mj_Cm 111 7 [.ref 0, .ref 999, .ref 82, .ref 83, .ref 85] M (mj_k 9 112 18 46 [some (.ref 999), some (.ref 0), some (.ref 81), some (.ref 82), some (.ref 83), some (.ref 84), some (.ref 85), o7, o8, o9, o10, o11, o12, o13] [] (cn + 100) (some .boolean) K)) : mj_W 9 112 18 36 [some (.ref 999), some (.ref 0), some (.ref 81), some (.ref 82), some (.ref 83), some (.ref 84), some (.ref 85), o7, o8, o9, o10, o11, o12, o13] [] M cn K := by
  refine b112_36 ?_
  have g1 := h.1
  refine ⟨g1, ?_⟩
  have h1 := h.2
  exact h1

theorem t112_51 {M : mj_M} {K : mj_K} {x7 : Int32} {x8 : Int32} {o9 : Option Value} {o10 : Option Value} {o11 : Option Value} {o12 : Option Value} {o13 : Option Value} {cn : Nat} (h : (48 ≤ x8 → cn ≤ 30000 ∧ K 0 (mj_nb x7) M) ∧ (¬ 48 ≤ x8 → (x7 = 0 → cn ≤ 30000 ∧ K 0 (mj_nb x7) M) ∧ (¬ x7 = 0 → cn + 0 ≤ 30000 ∧ mj_Cm 91 1 [.ref 999, .int (2 * x8), .int 32] M (mj_k 9 112 18 73 [some (.ref 999), some (.ref 0), some (.ref 81), some (.ref 82), some (.ref 83), some (.ref 84), some (.ref 85), some (.int x7), some (.int x8), o9, o10, o11, o12, o13] [] cn (some .int) K)))) : mj_W 9 112 18 51 [some (.ref 999), some (.ref 0), some (.ref 81), some (.ref 82), some (.ref 83), some (.ref 84), some (.ref 85), some (.int x7), some (.int x8), o9, o10, o11, o12, o13] [] M cn K := by
  refine b112_51 ?_
  refine ⟨fun c1 => ?_, fun c1 => ?_⟩
  · have h1a := h.1 c1
    refine b112_403 ?_
    have g2 := h1a.1
    refine ⟨g2, ?_⟩
    have h2 := h1a.2
    exact h2
  · have h1a := h.2 c1
    refine b112_58 ?_
    refine ⟨fun c3 => ?_, fun c3 => ?_⟩
    · have h3a := h1a.1 c3
      refine b112_403 ?_
      have g4 := h3a.1
      refine ⟨g4, ?_⟩
      have h4 := h3a.2
      exact h4
    · have h3a := h1a.2 c3
      refine b112_63 ?_
      have g5 := h3a.1
      refine ⟨g5, ?_⟩
      have h5 := h3a.2
      exact h5

theorem t112_189 {M : mj_M} {K : mj_K} {x7 : Int32} {x8 : Int32} {x9 : Int32} {x10 : Int32} {x11 : Int32} {x12 : Int32} {x13 : Int32} {cn : Nat} (h : (x12 ≤ x13 → cn + 1 ≤ 30000 ∧ mj_Cm 73 7 [.ref 0, .int x12] (mj_v M 0) (mj_k2 9 112 18 219 [some (.ref 999), some (.ref 0), some (.ref 81), some (.ref 82), some (.ref 83), some (.ref 84), some (.ref 85), some (.int x7), some (.int x8), some (.int x9), some (.int x10), some (.int x11), some (.int x12), some (.int x13)] [] M 0 81 (cn + 1) (some .int) K)) ∧ (¬ x12 ≤ x13 → cn + 1 ≤ 30000 ∧ mj_Cm 102 4 [.ref 0, .ref 1, .ref 2, .ref 3, .ref 4] (mj_v M 81) (mj_k2 9 112 18 207 [some (.ref 999), some (.ref 0), some (.ref 81), some (.ref 82), some (.ref 83), some (.ref 84), some (.ref 85), some (.int x7), some (.int x8), some (.int x9), some (.int x10), some (.int x11), some (.int x12), some (.int x13)] [] M 81 5 (cn + 1) none K))) : mj_W 9 112 18 189 [some (.ref 999), some (.ref 0), some (.ref 81), some (.ref 82), some (.ref 83), some (.ref 84), some (.ref 85), some (.int x7), some (.int x8), some (.int x9), some (.int x10), some (.int x11), some (.int x12), some (.int x13)] [] M cn K := by
  refine b112_189 ?_
  refine ⟨fun c1 => ?_, fun c1 => ?_⟩
  · have h1a := h.1 c1
    refine b112_213 ?_
    have g2 := h1a.1
    refine ⟨g2, ?_⟩
    have h2 := h1a.2
    exact h2
  · have h1a := h.2 c1
    refine b112_196 ?_
    have g3 := h1a.1
    refine ⟨g3, ?_⟩
    have h3 := h1a.2
    exact h3

theorem t112_365 {M : mj_M} {K : mj_K} {x7 : Int32} {x8 : Int32} {x9 : Int32} {x10 : Int32} {x11 : Int32} {o12 : Option Value} {o13 : Option Value} {cn : Nat} (h : (x7 = 0 → mj_W 9 112 18 395 [some (.ref 999), some (.ref 0), some (.ref 81), some (.ref 82), some (.ref 83), some (.ref 84), some (.ref 85), some (.int x7), some (.int x8), some (.int x9), some (.int x10), some (.int x11), o12, o13] [.int 0] M cn K) ∧ (¬ x7 = 0 → cn + 400 ≤ 30000 ∧ mj_Cm 107 17 [.ref 0, .ref 81, .ref 82, .ref 83, .ref 84, .ref 85, .int (x10 / 7)] M (mj_k 9 112 18 387 [some (.ref 999), some (.ref 0), some (.ref 81), some (.ref 82), some (.ref 83), some (.ref 84), some (.ref 85), some (.int x7), some (.int x8), some (.int x9), some (.int x10), some (.int x11), o12, o13] [] (cn + 400) (some .boolean) K))) : mj_W 9 112 18 365 [some (.ref 999), some (.ref 0), some (.ref 81), some (.ref 82), some (.ref 83), some (.ref 84), some (.ref 85), some (.int x7), some (.int x8), some (.int x9), some (.int x10), some (.int x11), o12, o13] [] M cn K := by
  refine b112_365 ?_
  refine ⟨fun c1 => ?_, fun c1 => ?_⟩
  · have h1a := h.1 c1
    refine b112_394 ?_
    exact h1a
  · have h1a := h.2 c1
    refine b112_370 ?_
    have g2 := h1a.1
    refine ⟨g2, ?_⟩
    have h2 := h1a.2
    exact h2

theorem t112_119 {M : mj_M} {K : mj_K} {x7 : Int32} {x8 : Int32} {x9 : Int32} {x10 : Int32} {x11 : Int32} {o12 : Option Value} {o13 : Option Value} {s0 : Int32} {cn : Nat} (h : (x8 < 4 → cn + 20 ≤ 30000 ∧ mj_Cm 108 6 [.ref 0, .ref 81, .ref 83, .ref 85, .int (x10 - x10 / 2 * 2), .int s0, .int (x10 / 10)] M (mj_k 9 112 18 154 [some (.ref 999), some (.ref 0), some (.ref 81), some (.ref 82), some (.ref 83), some (.ref 84), some (.ref 85), some (.int x7), some (.int x8), some (.int x9), some (.int x10), some (.int s0), o12, o13] [] (cn + 20) (some .boolean) K)) ∧ (¬ x8 < 4 → (8 ≤ x9 → (20 ≤ x9 → (23 ≤ x9 → (31 ≤ x9 → cn + 0 ≤ 30000 ∧ mj_Cm 103 3 [.ref 0, .ref 1, .ref 2, .ref 4] (mj_v M 81) (mj_k2 9 112 18 347 [some (.ref 999), some (.ref 0), some (.ref 81), some (.ref 82), some (.ref 83), some (.ref 84), some (.ref 85), some (.int x7), some (.int x8), some (.int x9), some (.int x10), some (.int s0), o12, o13] [] M 81 5 cn (some .int) K)) ∧ (¬ 31 ≤ x9 → (25 ≤ x9 → (27 ≤ x9 → (29 ≤ x9 → mj_W 9 112 18 328 [some (.ref 999), some (.ref 0), some (.ref 81), some (.ref 82), some (.ref 83), some (.ref 84), some (.ref 85), some (.int x7), some (.int x8), some (.int x9), some (.int x10), some (.int s0), o12, o13] [.int (x9 - 26), .ref 85, .ref 82, .ref 0] M cn K) ∧ (¬ 29 ≤ x9 → mj_W 9 112 18 328 [some (.ref 999), some (.ref 0), some (.ref 81), some (.ref 82), some (.ref 83), some (.ref 84), some (.ref 85), some (.int x7), some (.int x8), some (.int x9), some (.int x10), some (.int s0), o12, o13] [.int 2, .ref 85, .ref 82, .ref 0] M cn K)) ∧ (¬ 27 ≤ x9 → mj_W 9 112 18 328 [some (.ref 999), some (.ref 0), some (.ref 81), some (.ref 82), some (.ref 83), some (.ref 84), some (.ref 85), some (.int x7), some (.int x8), some (.int x9), some (.int x10), some (.int s0), o12, o13] [.int (x9 - 24), .ref 85, .ref 82, .ref 0] M cn K)) ∧ (¬ 25 ≤ x9 → mj_W 9 112 18 328 [some (.ref 999), some (.ref 0), some (.ref 81), some (.ref 82), some (.ref 83), some (.ref 84), some (.ref 85), some (.int x7), some (.int x8), some (.int x9), some (.int x10), some (.int s0), o12, o13] [.int 0, .ref 85, .ref 82, .ref 0] M cn K))) ∧ (¬ 23 ≤ x9 → cn + 20 ≤ 30000 ∧ mj_Cm 109 7 [.ref 0, .ref 81, .ref 83, .ref 84, .ref 85, .int (4 + (x10 - x10 / 2 * 2)), .int (x10 / 2 - x10 / 2 / 2 * 2), .int (x10 / 4)] M (mj_k 9 112 18 270 [some (.ref 999), some (.ref 0), some (.ref 81), some (.ref 82), some (.ref 83), some (.ref 84), some (.ref 85), some (.int x7), some (.int x8), some (.int x9), some (.int x10), some (.int s0), o12, o13] [] (cn + 20) (some .boolean) K))) ∧ (¬ 20 ≤ x9 → (18 ≤ x9 → mj_W 9 112 18 184 [some (.ref 999), some (.ref 0), some (.ref 81), some (.ref 82), some (.ref 83), some (.ref 84), some (.ref 85), some (.int x7), some (.int x8), some (.int x9), some (.int x10), some (.int s0), o12, o13] [.int (1 + (x10 - x10 / 7 * 7))] M cn K) ∧ (¬ 18 ≤ x9 → mj_W 9 112 18 184 [some (.ref 999), some (.ref 0), some (.ref 81), some (.ref 82), some (.ref 83), some (.ref 84), some (.ref 85), some (.int x7), some (.int x8), some (.int x9), some (.int x10), some (.int s0), o12, o13] [.int 1] M cn K))) ∧ (¬ 8 ≤ x9 → cn + 20 ≤ 30000 ∧ mj_Cm 108 6 [.ref 0, .ref 81, .ref 83, .ref 85, .int (x10 - x10 / 2 * 2), .int s0, .int (x10 / 10)] M (mj_k 9 112 18 154 [some (.ref 999), some (.ref 0), some (.ref 81), some (.ref 82), some (.ref 83), some (.ref 84), some (.ref 85), some (.int x7), some (.int x8), some (.int x9), some (.int x10), some (.int s0), o12, o13] [] (cn + 20) (some .boolean) K)))) : mj_W 9 112 18 119 [some (.ref 999), some (.ref 0), some (.ref 81), some (.ref 82), some (.ref 83), some (.ref 84), some (.ref 85), some (.int x7), some (.int x8), some (.int x9), some (.int x10), some (.int x11), o12, o13] [.int s0] M cn K := by
  refine b112_119 ?_
  refine ⟨fun c1 => ?_, fun c1 => ?_⟩
  · have h1a := h.1 c1
    refine b112_134 ?_
    have g2 := h1a.1
    refine ⟨g2, ?_⟩
    have h2 := h1a.2
    exact h2
  · have h1a := h.2 c1
    refine b112_127 ?_
    refine ⟨fun c3 => ?_, fun c3 => ?_⟩
    · have h3a := h1a.1 c3
      refine b112_159 ?_
      refine ⟨fun c4 => ?_, fun c4 => ?_⟩
      · have h4a := h3a.1 c4
        refine b112_236 ?_
        refine ⟨fun c5 => ?_, fun c5 => ?_⟩
        · have h5a := h4a.1 c5
          refine b112_275 ?_
          refine ⟨fun c6 => ?_, fun c6 => ?_⟩
          · have h6a := h5a.1 c6
            refine b112_338 ?_
            have g7 := h6a.1
            refine ⟨g7, ?_⟩
            have h7 := h6a.2
            exact h7
          · have h6a := h5a.2 c6
            refine b112_282 ?_
            refine ⟨fun c8 => ?_, fun c8 => ?_⟩
            · have h8a := h6a.1 c8
              refine b112_297 ?_
              refine ⟨fun c9 => ?_, fun c9 => ?_⟩
              · have h9a := h8a.1 c9
                refine b112_312 ?_
                refine ⟨fun c10 => ?_, fun c10 => ?_⟩
                · have h10a := h9a.1 c10
                  refine b112_323 ?_
                  exact h10a
                · have h10a := h9a.2 c10
                  refine b112_319 ?_
                  exact h10a
              · have h9a := h8a.2 c9
                refine b112_304 ?_
                exact h9a
            · have h8a := h6a.2 c8
              refine b112_293 ?_
              exact h8a
        · have h5a := h4a.2 c5
          refine b112_243 ?_
          have g11 := h5a.1
          refine ⟨g11, ?_⟩
          have h11 := h5a.2
          exact h11
      · have h4a := h3a.2 c4
        refine b112_166 ?_
        refine ⟨fun c12 => ?_, fun c12 => ?_⟩
        · have h12a := h4a.1 c12
          refine b112_177 ?_
          exact h12a
        · have h12a := h4a.2 c12
          refine b112_173 ?_
          exact h12a
    · have h3a := h1a.2 c3
      refine b112_134 ?_
      have g13 := h3a.1
      refine ⟨g13, ?_⟩
      have h13 := h3a.2
      exact h13

theorem t112_184 {M : mj_M} {K : mj_K} {x7 : Int32} {x8 : Int32} {x9 : Int32} {x10 : Int32} {x11 : Int32} {o12 : Option Value} {o13 : Option Value} {s0 : Int32} {cn : Nat} (h : mj_W 9 112 18 189 [some (.ref 999), some (.ref 0), some (.ref 81), some (.ref 82), some (.ref 83), some (.ref 84), some (.ref 85), some (.int x7), some (.int x8), some (.int x9), some (.int x10), some (.int x11), some (.int s0), some (.int 0)] [] M cn K) : mj_W 9 112 18 184 [some (.ref 999), some (.ref 0), some (.ref 81), some (.ref 82), some (.ref 83), some (.ref 84), some (.ref 85), some (.int x7), some (.int x8), some (.int x9), some (.int x10), some (.int x11), o12, o13] [.int s0] M cn K := by
  refine b112_184 ?_
  exact h

theorem t112_231 {M : mj_M} {K : mj_K} {x7 : Int32} {x8 : Int32} {x9 : Int32} {x10 : Int32} {x11 : Int32} {x12 : Int32} {x13 : Int32} {s0 : Int32} {cn : Nat} (h : mj_W 9 112 18 365 [some (.ref 999), some (.ref 0), some (.ref 81), some (.ref 82), some (.ref 83), some (.ref 84), some (.ref 85), some (.int s0), some (.int x8), some (.int x9), some (.int x10), some (.int x11), some (.int x12), some (.int x13)] [] M cn K) : mj_W 9 112 18 231 [some (.ref 999), some (.ref 0), some (.ref 81), some (.ref 82), some (.ref 83), some (.ref 84), some (.ref 85), some (.int x7), some (.int x8), some (.int x9), some (.int x10), some (.int x11), some (.int x12), some (.int x13)] [.int s0] M cn K := by
  refine b112_231 ?_
  exact h

theorem t112_328 {M : mj_M} {K : mj_K} {x7 : Int32} {x8 : Int32} {x9 : Int32} {x10 : Int32} {x11 : Int32} {o12 : Option Value} {o13 : Option Value} {s3 : Int32} {cn : Nat} (h : cn + 40 ≤ 30000 ∧ mj_Cm 110 7 [.ref 0, .ref 82, .ref 85, .int s3, .int x10] M (mj_k 9 112 18 333 [some (.ref 999), some (.ref 0), some (.ref 81), some (.ref 82), some (.ref 83), some (.ref 84), some (.ref 85), some (.int x7), some (.int x8), some (.int x9), some (.int x10), some (.int x11), o12, o13] [] (cn + 40) (some .boolean) K)) : mj_W 9 112 18 328 [some (.ref 999), some (.ref 0), some (.ref 81), some (.ref 82), some (.ref 83), some (.ref 84), some (.ref 85), some (.int x7), some (.int x8), some (.int x9), some (.int x10), some (.int x11), o12, o13] [.int s3, .ref 85, .ref 82, .ref 0] M cn K := by
  refine b112_328 ?_
  have g1 := h.1
  refine ⟨g1, ?_⟩
  have h1 := h.2
  exact h1

theorem t112_363 {M : mj_M} {K : mj_K} {x7 : Int32} {x8 : Int32} {x9 : Int32} {x10 : Int32} {x11 : Int32} {x12 : Int32} {o13 : Option Value} {s0 : Int32} {cn : Nat} (h : mj_W 9 112 18 365 [some (.ref 999), some (.ref 0), some (.ref 81), some (.ref 82), some (.ref 83), some (.ref 84), some (.ref 85), some (.int s0), some (.int x8), some (.int x9), some (.int x10), some (.int x11), some (.int x12), o13] [] M cn K) : mj_W 9 112 18 363 [some (.ref 999), some (.ref 0), some (.ref 81), some (.ref 82), some (.ref 83), some (.ref 84), some (.ref 85), some (.int x7), some (.int x8), some (.int x9), some (.int x10), some (.int x11), some (.int x12), o13] [.int s0] M cn K := by
  refine b112_363 ?_
  exact h

theorem t112_395 {M : mj_M} {K : mj_K} {x7 : Int32} {x8 : Int32} {x9 : Int32} {x10 : Int32} {x11 : Int32} {o12 : Option Value} {o13 : Option Value} {s0 : Int32} {cn : Nat} (h : mj_W 9 112 18 51 [some (.ref 999), some (.ref 0), some (.ref 81), some (.ref 82), some (.ref 83), some (.ref 84), some (.ref 85), some (.int s0), some (.int (x8 + 1)), some (.int x9), some (.int x10), some (.int x11), o12, o13] [] M cn K) : mj_W 9 112 18 395 [some (.ref 999), some (.ref 0), some (.ref 81), some (.ref 82), some (.ref 83), some (.ref 84), some (.ref 85), some (.int x7), some (.int x8), some (.int x9), some (.int x10), some (.int x11), o12, o13] [.int s0] M cn K := by
  refine b112_395 ?_
  exact h

theorem t112_46 {M : mj_M} {K : mj_K} {o7 : Option Value} {o8 : Option Value} {o9 : Option Value} {o10 : Option Value} {o11 : Option Value} {o12 : Option Value} {o13 : Option Value} {s0 : Int32} {cn : Nat} (h : mj_W 9 112 18 51 [some (.ref 999), some (.ref 0), some (.ref 81), some (.ref 82), some (.ref 83), some (.ref 84), some (.ref 85), some (.int s0), some (.int 0), o9, o10, o11, o12, o13] [] M cn K) : mj_W 9 112 18 46 [some (.ref 999), some (.ref 0), some (.ref 81), some (.ref 82), some (.ref 83), some (.ref 84), some (.ref 85), o7, o8, o9, o10, o11, o12, o13] [.int s0] M cn K := by
  refine b112_46 ?_
  exact h

theorem t112_73 {M : mj_M} {K : mj_K} {x7 : Int32} {x8 : Int32} {o9 : Option Value} {o10 : Option Value} {o11 : Option Value} {o12 : Option Value} {o13 : Option Value} {s0 : Int32} {cn : Nat} (h : cn + 0 ≤ 30000 ∧ mj_Cm 91 1 [.ref 999, .int (2 * x8 + 1), .int 1000000000] M (mj_k 9 112 18 87 [some (.ref 999), some (.ref 0), some (.ref 81), some (.ref 82), some (.ref 83), some (.ref 84), some (.ref 85), some (.int x7), some (.int x8), some (.int s0), o10, o11, o12, o13] [] cn (some .int) K)) : mj_W 9 112 18 73 [some (.ref 999), some (.ref 0), some (.ref 81), some (.ref 82), some (.ref 83), some (.ref 84), some (.ref 85), some (.int x7), some (.int x8), o9, o10, o11, o12, o13] [.int s0] M cn K := by
  refine b112_73 ?_
  have g1 := h.1
  refine ⟨g1, ?_⟩
  have h1 := h.2
  exact h1

theorem t112_219 {M : mj_M} {K : mj_K} {x7 : Int32} {x8 : Int32} {x9 : Int32} {x10 : Int32} {x11 : Int32} {x12 : Int32} {x13 : Int32} {s0 : Int32} {cn : Nat} (h : (¬ s0 = M 85 0 → mj_W 9 112 18 231 [some (.ref 999), some (.ref 0), some (.ref 81), some (.ref 82), some (.ref 83), some (.ref 84), some (.ref 85), some (.int x7), some (.int x8), some (.int x9), some (.int x10), some (.int x11), some (.int x12), some (.int x13)] [.int 0] M cn K) ∧ (s0 = M 85 0 → mj_W 9 112 18 231 [some (.ref 999), some (.ref 0), some (.ref 81), some (.ref 82), some (.ref 83), some (.ref 84), some (.ref 85), some (.int x7), some (.int x8), some (.int x9), some (.int x10), some (.int x11), some (.int x12), some (.int x13)] [.int 1] M cn K)) : mj_W 9 112 18 219 [some (.ref 999), some (.ref 0), some (.ref 81), some (.ref 82), some (.ref 83), some (.ref 84), some (.ref 85), some (.int x7), some (.int x8), some (.int x9), some (.int x10), some (.int x11), some (.int x12), some (.int x13)] [.int s0] M cn K := by
  refine b112_219 ?_
  refine ⟨fun c1 => ?_, fun c1 => ?_⟩
  · have h1a := h.1 c1
    refine b112_230 ?_
    exact h1a
  · have h1a := h.2 c1
    refine b112_226 ?_
    exact h1a

theorem t112_207 {M : mj_M} {K : mj_K} {x7 : Int32} {x8 : Int32} {x9 : Int32} {x10 : Int32} {x11 : Int32} {x12 : Int32} {x13 : Int32} {cn : Nat} (h : mj_W 9 112 18 189 [some (.ref 999), some (.ref 0), some (.ref 81), some (.ref 82), some (.ref 83), some (.ref 84), some (.ref 85), some (.int x7), some (.int x8), some (.int x9), some (.int x10), some (.int x11), some (.int x12), some (.int (x13 + 1))] [] M cn K) : mj_W 9 112 18 207 [some (.ref 999), some (.ref 0), some (.ref 81), some (.ref 82), some (.ref 83), some (.ref 84), some (.ref 85), some (.int x7), some (.int x8), some (.int x9), some (.int x10), some (.int x11), some (.int x12), some (.int x13)] [] M cn K := by
  refine b112_207 ?_
  exact h

theorem t112_387 {M : mj_M} {K : mj_K} {x7 : Int32} {x8 : Int32} {x9 : Int32} {x10 : Int32} {x11 : Int32} {o12 : Option Value} {o13 : Option Value} {s0 : Int32} {cn : Nat} (h : (s0 = 0 → mj_W 9 112 18 395 [some (.ref 999), some (.ref 0), some (.ref 81), some (.ref 82), some (.ref 83), some (.ref 84), some (.ref 85), some (.int x7), some (.int x8), some (.int x9), some (.int x10), some (.int x11), o12, o13] [.int 0] M cn K) ∧ (¬ s0 = 0 → mj_W 9 112 18 395 [some (.ref 999), some (.ref 0), some (.ref 81), some (.ref 82), some (.ref 83), some (.ref 84), some (.ref 85), some (.int x7), some (.int x8), some (.int x9), some (.int x10), some (.int x11), o12, o13] [.int 1] M cn K)) : mj_W 9 112 18 387 [some (.ref 999), some (.ref 0), some (.ref 81), some (.ref 82), some (.ref 83), some (.ref 84), some (.ref 85), some (.int x7), some (.int x8), some (.int x9), some (.int x10), some (.int x11), o12, o13] [.int s0] M cn K := by
  refine b112_387 ?_
  refine ⟨fun c1 => ?_, fun c1 => ?_⟩
  · have h1a := h.1 c1
    refine b112_394 ?_
    exact h1a
  · have h1a := h.2 c1
    refine b112_390 ?_
    exact h1a

theorem t112_154 {M : mj_M} {K : mj_K} {x7 : Int32} {x8 : Int32} {x9 : Int32} {x10 : Int32} {x11 : Int32} {o12 : Option Value} {o13 : Option Value} {s0 : Int32} {cn : Nat} (h : mj_W 9 112 18 365 [some (.ref 999), some (.ref 0), some (.ref 81), some (.ref 82), some (.ref 83), some (.ref 84), some (.ref 85), some (.int s0), some (.int x8), some (.int x9), some (.int x10), some (.int x11), o12, o13] [] M cn K) : mj_W 9 112 18 154 [some (.ref 999), some (.ref 0), some (.ref 81), some (.ref 82), some (.ref 83), some (.ref 84), some (.ref 85), some (.int x7), some (.int x8), some (.int x9), some (.int x10), some (.int x11), o12, o13] [.int s0] M cn K := by
  refine b112_154 ?_
  exact h

theorem t112_347 {M : mj_M} {K : mj_K} {x7 : Int32} {x8 : Int32} {x9 : Int32} {x10 : Int32} {x11 : Int32} {o12 : Option Value} {o13 : Option Value} {s0 : Int32} {cn : Nat} (h : cn + 0 ≤ 30000 ∧ mj_Cm 72 7 [.ref 0] (mj_v M 0) (mj_k2 9 112 18 353 [some (.ref 999), some (.ref 0), some (.ref 81), some (.ref 82), some (.ref 83), some (.ref 84), some (.ref 85), some (.int x7), some (.int x8), some (.int x9), some (.int x10), some (.int x11), some (.int s0), o13] [] M 0 81 cn (some .int) K)) : mj_W 9 112 18 347 [some (.ref 999), some (.ref 0), some (.ref 81), some (.ref 82), some (.ref 83), some (.ref 84), some (.ref 85), some (.int x7), some (.int x8), some (.int x9), some (.int x10), some (.int x11), o12, o13] [.int s0] M cn K := by
  refine b112_347 ?_
  have g1 := h.1
  refine ⟨g1, ?_⟩
  have h1 := h.2
  exact h1

theorem t112_270 {M : mj_M} {K : mj_K} {x7 : Int32} {x8 : Int32} {x9 : Int32} {x10 : Int32} {x11 : Int32} {o12 : Option Value} {o13 : Option Value} {s0 : Int32} {cn : Nat} (h : mj_W 9 112 18 365 [some (.ref 999), some (.ref 0), some (.ref 81), some (.ref 82), some (.ref 83), some (.ref 84), some (.ref 85), some (.int s0), some (.int x8), some (.int x9), some (.int x10), some (.int x11), o12, o13] [] M cn K) : mj_W 9 112 18 270 [some (.ref 999), some (.ref 0), some (.ref 81), some (.ref 82), some (.ref 83), some (.ref 84), some (.ref 85), some (.int x7), some (.int x8), some (.int x9), some (.int x10), some (.int x11), o12, o13] [.int s0] M cn K := by
  refine b112_270 ?_
  exact h

theorem t112_333 {M : mj_M} {K : mj_K} {x7 : Int32} {x8 : Int32} {x9 : Int32} {x10 : Int32} {x11 : Int32} {o12 : Option Value} {o13 : Option Value} {s0 : Int32} {cn : Nat} (h : mj_W 9 112 18 365 [some (.ref 999), some (.ref 0), some (.ref 81), some (.ref 82), some (.ref 83), some (.ref 84), some (.ref 85), some (.int s0), some (.int x8), some (.int x9), some (.int x10), some (.int x11), o12, o13] [] M cn K) : mj_W 9 112 18 333 [some (.ref 999), some (.ref 0), some (.ref 81), some (.ref 82), some (.ref 83), some (.ref 84), some (.ref 85), some (.int x7), some (.int x8), some (.int x9), some (.int x10), some (.int x11), o12, o13] [.int s0] M cn K := by
  refine b112_333 ?_
  exact h

theorem t112_87 {M : mj_M} {K : mj_K} {x7 : Int32} {x8 : Int32} {x9 : Int32} {o10 : Option Value} {o11 : Option Value} {o12 : Option Value} {o13 : Option Value} {s0 : Int32} {cn : Nat} (h : (2 ≤ s0 / 2 - s0 / 2 / 5 * 5 → (4 ≤ s0 / 2 - s0 / 2 / 5 * 5 → mj_W 9 112 18 119 [some (.ref 999), some (.ref 0), some (.ref 81), some (.ref 82), some (.ref 83), some (.ref 84), some (.ref 85), some (.int x7), some (.int x8), some (.int x9), some (.int s0), some (.int (s0 / 2 - s0 / 2 / 5 * 5)), o12, o13] [.int 5] M cn K) ∧ (¬ 4 ≤ s0 / 2 - s0 / 2 / 5 * 5 → mj_W 9 112 18 119 [some (.ref 999), some (.ref 0), some (.ref 81), some (.ref 82), some (.ref 83), some (.ref 84), some (.ref 85), some (.int x7), some (.int x8), some (.int x9), some (.int s0), some (.int (s0 / 2 - s0 / 2 / 5 * 5)), o12, o13] [.int 4] M cn K)) ∧ (¬ 2 ≤ s0 / 2 - s0 / 2 / 5 * 5 → mj_W 9 112 18 119 [some (.ref 999), some (.ref 0), some (.ref 81), some (.ref 82), some (.ref 83), some (.ref 84), some (.ref 85), some (.int x7), some (.int x8), some (.int x9), some (.int s0), some (.int (s0 / 2 - s0 / 2 / 5 * 5)), o12, o13] [.int (s0 / 2 - s0 / 2 / 5 * 5)] M cn K)) : mj_W 9 112 18 87 [some (.ref 999), some (.ref 0), some (.ref 81), some (.ref 82), some (.ref 83), some (.ref 84), some (.ref 85), some (.int x7), some (.int x8), some (.int x9), o10, o11, o12, o13] [.int s0] M cn K := by
  refine b112_87 ?_
  refine ⟨fun c1 => ?_, fun c1 => ?_⟩
  · have h1a := h.1 c1
    refine b112_108 ?_
    refine ⟨fun c2 => ?_, fun c2 => ?_⟩
    · have h2a := h1a.1 c2
      refine b112_118 ?_
      exact h2a
    · have h2a := h1a.2 c2
      refine b112_114 ?_
      exact h2a
  · have h1a := h.2 c1
    refine b112_103 ?_
    exact h1a

theorem t112_353 {M : mj_M} {K : mj_K} {x7 : Int32} {x8 : Int32} {x9 : Int32} {x10 : Int32} {x11 : Int32} {x12 : Int32} {o13 : Option Value} {s0 : Int32} {cn : Nat} (h : (¬ s0 = x12 → mj_W 9 112 18 363 [some (.ref 999), some (.ref 0), some (.ref 81), some (.ref 82), some (.ref 83), some (.ref 84), some (.ref 85), some (.int x7), some (.int x8), some (.int x9), some (.int x10), some (.int x11), some (.int x12), o13] [.int 0] M cn K) ∧ (s0 = x12 → mj_W 9 112 18 363 [some (.ref 999), some (.ref 0), some (.ref 81), some (.ref 82), some (.ref 83), some (.ref 84), some (.ref 85), some (.int x7), some (.int x8), some (.int x9), some (.int x10), some (.int x11), some (.int x12), o13] [.int 1] M cn K)) : mj_W 9 112 18 353 [some (.ref 999), some (.ref 0), some (.ref 81), some (.ref 82), some (.ref 83), some (.ref 84), some (.ref 85), some (.int x7), some (.int x8), some (.int x9), some (.int x10), some (.int x11), some (.int x12), o13] [.int s0] M cn K := by
  refine b112_353 ?_
  refine ⟨fun c1 => ?_, fun c1 => ?_⟩
  · have h1a := h.1 c1
    refine b112_362 ?_
    exact h1a
  · have h1a := h.2 c1
    refine b112_358 ?_
    exact h1a

