-- THE LAW'S METHODS, B: to
section LWB
variable {Z X : mj_M} {K : mj_K} {p l r t : Nat}
abbrev mz_wA (Z : mj_M) (l : Nat) (a : Int32) : Prop := Z 10 l = a ∨ Z 11 l = a
abbrev mz_wB (Z : mj_M) (l : Nat) (a : Int32) : Prop := ¬ (Z 9 l = 3 ∧ Z 19 l = 0) ∨ (Z 18 l = 0 ↔ Z 10 l = a)
abbrev mz_wC (Z : mj_M) (l : Nat) (a : Int32) : Prop := ¬ Z 9 l = 4 ∨ Z 10 l = a ∨ Z 8 1 = 1
abbrev mz_wD (Z : mj_M) (l p : Nat) : Prop := mj_opn Z (Z 40 p) l ∧ mj_car Z (Z 24 p) l
theorem mz_beh_eq (h : mj_S Z) (hl : l < mj_nl Z) {a : Int32} : mj_beh Z l a = if mz_wA Z l a ∧ mz_wB Z l a ∧ mz_wC Z l a then (if Z 10 l = a then Z 11 l else Z 10 l) else -1 := by
  have hne : ¬ Z 10 l = Z 11 l := (h.1.2.2 l hl).2.2.1
  have ho : mj_bit (Z 8 1) := h.2.2.2.2.2.2.2
  have ho1 := mj_bit1 ho
  unfold mj_beh
  by_cases F : Z 10 l = a
  · have iff : (mz_wA Z l a ∧ mz_wB Z l a ∧ mz_wC Z l a) ↔ mj_fwd Z l := by
      refine ⟨fun z => ?_, fun z => ⟨Or.inl F, ?_, Or.inr (Or.inl F)⟩⟩
      · rcases z.2.1 with y | y
        · by_cases q : Z 9 l = 3
          · exact Or.inr (Or.inl (fun w => y ⟨q, w⟩))
          · exact Or.inl q
        · exact Or.inr (Or.inr (y.mpr F))
      · rcases z with y | y | y
        · exact Or.inl (fun w => y w.1)
        · exact Or.inl (fun w => y w.2)
        · exact Or.inr ⟨fun _ => F, fun _ => y⟩
    by_cases q : mj_fwd Z l
    · rw [if_pos ⟨F.symm, q⟩, if_pos (iff.mpr q), if_pos F]
    · rw [if_neg (fun z => q z.2), if_neg (fun z => hne (F.trans z.1)), if_neg (fun z => q (iff.mp z))]
  · by_cases G : Z 11 l = a
    · have iff : (mz_wA Z l a ∧ mz_wB Z l a ∧ mz_wC Z l a) ↔ mj_bwd Z l := by
        refine ⟨fun z => ?_, fun z => ⟨Or.inr G, ?_, ?_⟩⟩
        · by_cases q : Z 9 l = 3
          · refine Or.inr ⟨q, ?_⟩
            rcases z.2.1 with y | y
            · exact Or.inl (fun w => y ⟨q, w⟩)
            · exact Or.inr (fun w => F (y.mp w))
          · refine Or.inl ⟨q, ?_⟩
            rcases z.2.2 with y | y | y
            · exact Or.inl y
            · exact absurd y F
            · exact Or.inr (ho1.mp y)
        · rcases z with y | y
          · exact Or.inl (fun w => y.1 w.1)
          · rcases y.2 with w | w
            · exact Or.inl (fun v => w v.2)
            · exact Or.inr ⟨fun v => absurd v w, fun v => absurd v F⟩
        · rcases z with y | y
          · rcases y.2 with w | w
            · exact Or.inl w
            · exact Or.inr (Or.inr (ho1.mpr w))
          · exact Or.inl (by rw [y.1]; decide)
      by_cases q : mj_bwd Z l
      · rw [if_neg (fun z => F z.1.symm), if_pos ⟨G.symm, q⟩, if_pos (iff.mpr q), if_neg F]
      · rw [if_neg (fun z => F z.1.symm), if_neg (fun z => q z.2), if_neg (fun z => q (iff.mp z))]
    · rw [if_neg (fun z => F z.1.symm), if_neg (fun z => G z.1.symm), if_neg (fun z => z.1.elim F G)]
theorem sp92 (h : mj_S Z) (hB : mz_B Z) (hl : l < mj_nl Z) (hp : p < mj_np Z) (hk : mj_bit (Z 40 p)) {a : Int32} (hK : K 0 (mj_rb Z (Z 24 p) (Z 40 p) l a) (mz Z X)) : mj_Cm 92 1 [.ref 0, .ref 1, .ref 4, .int (nI p), .int (nI l), .int a] (mz Z X) K := by
  have hp8 := mz_p8 hB hp
  have hl5 := mz_l5 hB hl
  have hk1 := mj_bit1 hk
  unfold mj_rb at hK
  rw [mz_beh_eq h hl] at hK
  have V1 : mz_wA Z l a ∧ mz_wB Z l a ∧ mz_wC Z l a → mz_wD Z l p → K 0 (if Z 10 l = a then Z 11 l else Z 10 l) (mz Z X) := fun u v => by
    rw [if_pos v, if_pos u] at hK; exact hK
  have V0 : ¬ ((mz_wA Z l a ∧ mz_wB Z l a ∧ mz_wC Z l a) ∧ mz_wD Z l p) → K 0 (-1) (mz Z X) := fun u => by
    by_cases v : mz_wD Z l p
    · rw [if_pos v, if_neg (fun z => u ⟨z, v⟩)] at hK; exact hK
    · rw [if_neg v] at hK; exact hK
  clear hK
  have q200a : ∀ x9 : Int32, mz_wA Z l a ∧ mz_wB Z l a ∧ mz_wC Z l a → mz_wD Z l p → ∀ x8 : Int32, mj_W 1 92 1 200 [some (.ref 0), some (.ref 1), some (.ref 4), some (.int (nI p)), some (.int (nI l)), some (.int a), some (.int (11 * nI l)), some (.int (mj_bi (Z 10 l = a))), some (.int x8), some (.int x9)] [.int 1] (mz Z X) 0 K := by
    intro x9 u v x8
    have v1 := V1 u v
    refine t92_200 ⟨fun _ => ⟨fun c => ?_, fun c => ?_⟩, fun c => absurd c (by decide)⟩
    · rw [mj_bi0] at c
      rw [if_neg c] at v1
      simp only [mz_rL0 hl5, mz_wL0 hl5, eq_true (mz_vL0 hl5), mz_rL1 hl5, mz_wL1 hl5, eq_true (mz_vL1 hl5), mz_rL2 hl5, mz_wL2 hl5, eq_true (mz_vL2 hl5), mz_rL3 hl5, mz_wL3 hl5, eq_true (mz_vL3 hl5), mz_rL4 hl5, mz_wL4 hl5, eq_true (mz_vL4 hl5), mz_rL5 hl5, mz_wL5 hl5, eq_true (mz_vL5 hl5), mz_rL6 hl5, mz_wL6 hl5, eq_true (mz_vL6 hl5), mz_rL7 hl5, mz_wL7 hl5, eq_true (mz_vL7 hl5), mz_rL8 hl5, mz_wL8 hl5, eq_true (mz_vL8 hl5), mz_rL9 hl5, mz_wL9 hl5, eq_true (mz_vL9 hl5), mz_rL10 hl5, mz_wL10 hl5, eq_true (mz_vL10 hl5), true_and]
      exact t92_231 v1
    · rw [mj_bi1] at c
      rw [if_pos c] at v1
      simp only [mz_rL0 hl5, mz_wL0 hl5, eq_true (mz_vL0 hl5), mz_rL1 hl5, mz_wL1 hl5, eq_true (mz_vL1 hl5), mz_rL2 hl5, mz_wL2 hl5, eq_true (mz_vL2 hl5), mz_rL3 hl5, mz_wL3 hl5, eq_true (mz_vL3 hl5), mz_rL4 hl5, mz_wL4 hl5, eq_true (mz_vL4 hl5), mz_rL5 hl5, mz_wL5 hl5, eq_true (mz_vL5 hl5), mz_rL6 hl5, mz_wL6 hl5, eq_true (mz_vL6 hl5), mz_rL7 hl5, mz_wL7 hl5, eq_true (mz_vL7 hl5), mz_rL8 hl5, mz_wL8 hl5, eq_true (mz_vL8 hl5), mz_rL9 hl5, mz_wL9 hl5, eq_true (mz_vL9 hl5), mz_rL10 hl5, mz_wL10 hl5, eq_true (mz_vL10 hl5), true_and]
      exact t92_231 v1
  have q200b : ∀ x9 : Int32, ¬ ((mz_wA Z l a ∧ mz_wB Z l a ∧ mz_wC Z l a) ∧ mz_wD Z l p) → ∀ x8 : Int32, mj_W 1 92 1 200 [some (.ref 0), some (.ref 1), some (.ref 4), some (.int (nI p)), some (.int (nI l)), some (.int a), some (.int (11 * nI l)), some (.int (mj_bi (Z 10 l = a))), some (.int x8), some (.int x9)] [.int 0] (mz Z X) 0 K := by
    intro x9 u x8
    exact t92_200 ⟨fun c => absurd rfl c, fun _ => t92_231 (V0 u)⟩
  have q128 : ∀ (x8 x9 s0 : Int32), (mz_wA Z l a ∧ mz_wB Z l a ∧ mz_wC Z l a) → mj_W 1 92 1 128 [some (.ref 0), some (.ref 1), some (.ref 4), some (.int (nI p)), some (.int (nI l)), some (.int a), some (.int (11 * nI l)), some (.int (mj_bi (Z 10 l = a))), some (.int x8), some (.int x9)] [.int 1] (mz Z X) 0 K := by
    intro x8 x9 s0 u
    have opn : mj_car Z (Z 24 p) l → (¬ Z 40 p = 1 → mj_W 1 92 1 190 [some (.ref 0), some (.ref 1), some (.ref 4), some (.int (nI p)), some (.int (nI l)), some (.int a), some (.int (11 * nI l)), some (.int (mj_bi (Z 10 l = a))), some (.int 1), some (.int x9)] [.int 6, .int (11 * nI l), .ref 1] (mz Z X) 0 K) ∧ (Z 40 p = 1 → mj_W 1 92 1 190 [some (.ref 0), some (.ref 1), some (.ref 4), some (.int (nI p)), some (.int (nI l)), some (.int a), some (.int (11 * nI l)), some (.int (mj_bi (Z 10 l = a))), some (.int 1), some (.int x9)] [.int 5, .int (11 * nI l), .ref 1] (mz Z X) 0 K) := by
      intro hc
      refine ⟨fun c => t92_190 ?_, fun c => t92_190 ?_⟩
      · simp only [mz_rL0 hl5, mz_wL0 hl5, eq_true (mz_vL0 hl5), mz_rL1 hl5, mz_wL1 hl5, eq_true (mz_vL1 hl5), mz_rL2 hl5, mz_wL2 hl5, eq_true (mz_vL2 hl5), mz_rL3 hl5, mz_wL3 hl5, eq_true (mz_vL3 hl5), mz_rL4 hl5, mz_wL4 hl5, eq_true (mz_vL4 hl5), mz_rL5 hl5, mz_wL5 hl5, eq_true (mz_vL5 hl5), mz_rL6 hl5, mz_wL6 hl5, eq_true (mz_vL6 hl5), mz_rL7 hl5, mz_wL7 hl5, eq_true (mz_vL7 hl5), mz_rL8 hl5, mz_wL8 hl5, eq_true (mz_vL8 hl5), mz_rL9 hl5, mz_wL9 hl5, eq_true (mz_vL9 hl5), mz_rL10 hl5, mz_wL10 hl5, eq_true (mz_vL10 hl5), true_and]
        rw [hk1] at c
        have c0 := Decidable.not_not.mp c
        refine ⟨fun c2 => q200b x9 (fun z => ?_) 1, fun c2 => q200a x9 u ⟨Or.inl ⟨c0, c2⟩, hc⟩ 1⟩
        rcases z.2.1 with y | y
        · exact c2 y.2
        · exact y.1 c0
      · simp only [mz_rL0 hl5, mz_wL0 hl5, eq_true (mz_vL0 hl5), mz_rL1 hl5, mz_wL1 hl5, eq_true (mz_vL1 hl5), mz_rL2 hl5, mz_wL2 hl5, eq_true (mz_vL2 hl5), mz_rL3 hl5, mz_wL3 hl5, eq_true (mz_vL3 hl5), mz_rL4 hl5, mz_wL4 hl5, eq_true (mz_vL4 hl5), mz_rL5 hl5, mz_wL5 hl5, eq_true (mz_vL5 hl5), mz_rL6 hl5, mz_wL6 hl5, eq_true (mz_vL6 hl5), mz_rL7 hl5, mz_wL7 hl5, eq_true (mz_vL7 hl5), mz_rL8 hl5, mz_wL8 hl5, eq_true (mz_vL8 hl5), mz_rL9 hl5, mz_wL9 hl5, eq_true (mz_vL9 hl5), mz_rL10 hl5, mz_wL10 hl5, eq_true (mz_vL10 hl5), true_and]
        rw [hk1] at c
        refine ⟨fun c2 => q200b x9 (fun z => ?_) 1, fun c2 => q200a x9 u ⟨Or.inr ⟨c, c2⟩, hc⟩ 1⟩
        rcases z.2.1 with y | y
        · exact c y.1
        · exact c2 y.2
    refine t92_128 ⟨fun c => absurd c (by decide), fun _ => ?_⟩
    simp only [mz_rP0 hp8, mz_wP0 hp8, eq_true (mz_vP0 hp8), mz_rP1 hp8, mz_wP1 hp8, eq_true (mz_vP1 hp8), mz_rP2 hp8, mz_wP2 hp8, eq_true (mz_vP2 hp8), mz_rP3 hp8, mz_wP3 hp8, eq_true (mz_vP3 hp8), mz_rP4 hp8, mz_wP4 hp8, eq_true (mz_vP4 hp8), mz_rP5 hp8, mz_wP5 hp8, eq_true (mz_vP5 hp8), mz_rP6 hp8, mz_wP6 hp8, eq_true (mz_vP6 hp8), mz_rP7 hp8, mz_wP7 hp8, eq_true (mz_vP7 hp8), mz_rL0 hl5, mz_wL0 hl5, eq_true (mz_vL0 hl5), mz_rL1 hl5, mz_wL1 hl5, eq_true (mz_vL1 hl5), mz_rL2 hl5, mz_wL2 hl5, eq_true (mz_vL2 hl5), mz_rL3 hl5, mz_wL3 hl5, eq_true (mz_vL3 hl5), mz_rL4 hl5, mz_wL4 hl5, eq_true (mz_vL4 hl5), mz_rL5 hl5, mz_wL5 hl5, eq_true (mz_vL5 hl5), mz_rL6 hl5, mz_wL6 hl5, eq_true (mz_vL6 hl5), mz_rL7 hl5, mz_wL7 hl5, eq_true (mz_vL7 hl5), mz_rL8 hl5, mz_wL8 hl5, eq_true (mz_vL8 hl5), mz_rL9 hl5, mz_wL9 hl5, eq_true (mz_vL9 hl5), mz_rL10 hl5, mz_wL10 hl5, eq_true (mz_vL10 hl5), true_and]
    refine ⟨fun c => opn (Or.inl c), fun c => ⟨fun c2 => opn (Or.inr (Or.inl c2)), fun c2 => ⟨fun c3 => opn (Or.inr (Or.inr (Or.inl c3))), fun c3 => ⟨fun c4 => q200b x9 (fun z => ?_) 1, fun c4 => opn (Or.inr (Or.inr (Or.inr c4)))⟩⟩⟩⟩
    rcases z.2.2 with y | y | y | y
    · exact c y
    · exact c2 y
    · exact c3 y
    · exact c4 y
  have n128 : ∀ (x8 x9 : Int32), ¬ (mz_wA Z l a ∧ mz_wB Z l a ∧ mz_wC Z l a) → mj_W 1 92 1 128 [some (.ref 0), some (.ref 1), some (.ref 4), some (.int (nI p)), some (.int (nI l)), some (.int a), some (.int (11 * nI l)), some (.int (mj_bi (Z 10 l = a))), some (.int x8), some (.int x9)] [.int 0] (mz Z X) 0 K := by
    intro x8 x9 u
    exact t92_128 ⟨fun _ => q200b x9 (fun z => u z.1) 0, fun c => absurd rfl c⟩
  -- behind the moving stairs
  have qC : ∀ x9 : Int32, mz_wA Z l a → mz_wB Z l a → (¬ Z 9 l = 4 → mj_W 1 92 1 128 [some (.ref 0), some (.ref 1), some (.ref 4), some (.int (nI p)), some (.int (nI l)), some (.int a), some (.int (11 * nI l)), some (.int (mj_bi (Z 10 l = a))), some (.int 1), some (.int x9)] [.int 1] (mz Z X) 0 K) ∧ (Z 9 l = 4 → (¬ mj_bi (Z 10 l = a) = 0 → mj_W 1 92 1 128 [some (.ref 0), some (.ref 1), some (.ref 4), some (.int (nI p)), some (.int (nI l)), some (.int a), some (.int (11 * nI l)), some (.int (mj_bi (Z 10 l = a))), some (.int 1), some (.int x9)] [.int 1] (mz Z X) 0 K) ∧ (mj_bi (Z 10 l = a) = 0 → (¬ Z 8 1 = 1 → mj_W 1 92 1 128 [some (.ref 0), some (.ref 1), some (.ref 4), some (.int (nI p)), some (.int (nI l)), some (.int a), some (.int (11 * nI l)), some (.int (mj_bi (Z 10 l = a))), some (.int 1), some (.int x9)] [.int 0] (mz Z X) 0 K) ∧ (Z 8 1 = 1 → mj_W 1 92 1 128 [some (.ref 0), some (.ref 1), some (.ref 4), some (.int (nI p)), some (.int (nI l)), some (.int a), some (.int (11 * nI l)), some (.int (mj_bi (Z 10 l = a))), some (.int 1), some (.int x9)] [.int 1] (mz Z X) 0 K))) := by
    intro x9 u v
    refine ⟨fun c => q128 1 x9 0 ⟨u, v, Or.inl c⟩, fun c => ⟨fun c2 => q128 1 x9 0 ⟨u, v, Or.inr (Or.inl (mj_bi1.mp c2))⟩, fun c2 => ⟨fun c3 => n128 1 x9 (fun z => ?_), fun c3 => q128 1 x9 0 ⟨u, v, Or.inr (Or.inr c3)⟩⟩⟩⟩
    rcases z.2.2 with y | y | y
    · exact y c
    · exact (mj_bi0.mp c2) y
    · exact c3 y
  have q71 : ∀ o9 : Option Value, mz_wA Z l a → ∀ s0 : Int32, s0 = mj_bi (Z 9 l = 3 ∧ Z 19 l = 0) → mj_W 1 92 1 71 [some (.ref 0), some (.ref 1), some (.ref 4), some (.int (nI p)), some (.int (nI l)), some (.int a), some (.int (11 * nI l)), some (.int (mj_bi (Z 10 l = a))), some (.int 1), o9] [.int s0] (mz Z X) 0 K := by
    intro o9 u s0 hs
    refine t92_71 ⟨fun c => absurd c (by decide), fun _ => ⟨fun c => ?_, fun c => ?_⟩⟩
    · rw [hs, mj_bi0] at c
      simp only [mz_rL0 hl5, mz_wL0 hl5, eq_true (mz_vL0 hl5), mz_rL1 hl5, mz_wL1 hl5, eq_true (mz_vL1 hl5), mz_rL2 hl5, mz_wL2 hl5, eq_true (mz_vL2 hl5), mz_rL3 hl5, mz_wL3 hl5, eq_true (mz_vL3 hl5), mz_rL4 hl5, mz_wL4 hl5, eq_true (mz_vL4 hl5), mz_rL5 hl5, mz_wL5 hl5, eq_true (mz_vL5 hl5), mz_rL6 hl5, mz_wL6 hl5, eq_true (mz_vL6 hl5), mz_rL7 hl5, mz_wL7 hl5, eq_true (mz_vL7 hl5), mz_rL8 hl5, mz_wL8 hl5, eq_true (mz_vL8 hl5), mz_rL9 hl5, mz_wL9 hl5, eq_true (mz_vL9 hl5), mz_rL10 hl5, mz_wL10 hl5, eq_true (mz_vL10 hl5), mz_rS0, mz_wS0, mz_rS1, mz_wS1, mz_rS2, mz_wS2, mz_rS3, mz_wS3, mz_rS4, mz_wS4, mz_rS5, mz_wS5, true_and]
      exact qC s0 u (Or.inl c)
    · rw [hs, mj_bi1] at c
      simp only [mz_rL0 hl5, mz_wL0 hl5, eq_true (mz_vL0 hl5), mz_rL1 hl5, mz_wL1 hl5, eq_true (mz_vL1 hl5), mz_rL2 hl5, mz_wL2 hl5, eq_true (mz_vL2 hl5), mz_rL3 hl5, mz_wL3 hl5, eq_true (mz_vL3 hl5), mz_rL4 hl5, mz_wL4 hl5, eq_true (mz_vL4 hl5), mz_rL5 hl5, mz_wL5 hl5, eq_true (mz_vL5 hl5), mz_rL6 hl5, mz_wL6 hl5, eq_true (mz_vL6 hl5), mz_rL7 hl5, mz_wL7 hl5, eq_true (mz_vL7 hl5), mz_rL8 hl5, mz_wL8 hl5, eq_true (mz_vL8 hl5), mz_rL9 hl5, mz_wL9 hl5, eq_true (mz_vL9 hl5), mz_rL10 hl5, mz_wL10 hl5, eq_true (mz_vL10 hl5), mz_rS0, mz_wS0, mz_rS1, mz_wS1, mz_rS2, mz_wS2, mz_rS3, mz_wS3, mz_rS4, mz_wS4, mz_rS5, mz_wS5, true_and]
      have q98 : ∀ x : Int32, x = mj_bi (Z 18 l = 0) → mj_W 1 92 1 98 [some (.ref 0), some (.ref 1), some (.ref 4), some (.int (nI p)), some (.int (nI l)), some (.int a), some (.int (11 * nI l)), some (.int (mj_bi (Z 10 l = a))), some (.int 1), some (.int s0)] [.int x] (mz Z X) 0 K := by
        intro x hx
        have eqv : x = mj_bi (Z 10 l = a) ↔ (Z 18 l = 0 ↔ Z 10 l = a) := by
          rw [hx]
          by_cases q1 : Z 18 l = 0
          · rw [mj_bi_t q1]
            by_cases q2 : Z 10 l = a
            · rw [mj_bi_t q2]; exact ⟨fun _ => ⟨fun _ => q2, fun _ => q1⟩, fun _ => rfl⟩
            · rw [mj_bi_f q2]; exact ⟨fun z => absurd z (by decide), fun z => absurd (z.mp q1) q2⟩
          · rw [mj_bi_f q1]
            by_cases q2 : Z 10 l = a
            · rw [mj_bi_t q2]; exact ⟨fun z => absurd z (by decide), fun z => absurd (z.mpr q2) q1⟩
            · rw [mj_bi_f q2]; exact ⟨fun _ => ⟨fun z => absurd z q1, fun z => absurd z q2⟩, fun _ => rfl⟩
        refine t92_98 ⟨fun d => n128 1 s0 (fun z => ?_), fun d => ?_⟩
        · rcases z.2.1 with y | y
          · exact y c
          · exact d (eqv.mpr y)
        · simp only [mz_rL0 hl5, mz_wL0 hl5, eq_true (mz_vL0 hl5), mz_rL1 hl5, mz_wL1 hl5, eq_true (mz_vL1 hl5), mz_rL2 hl5, mz_wL2 hl5, eq_true (mz_vL2 hl5), mz_rL3 hl5, mz_wL3 hl5, eq_true (mz_vL3 hl5), mz_rL4 hl5, mz_wL4 hl5, eq_true (mz_vL4 hl5), mz_rL5 hl5, mz_wL5 hl5, eq_true (mz_vL5 hl5), mz_rL6 hl5, mz_wL6 hl5, eq_true (mz_vL6 hl5), mz_rL7 hl5, mz_wL7 hl5, eq_true (mz_vL7 hl5), mz_rL8 hl5, mz_wL8 hl5, eq_true (mz_vL8 hl5), mz_rL9 hl5, mz_wL9 hl5, eq_true (mz_vL9 hl5), mz_rL10 hl5, mz_wL10 hl5, eq_true (mz_vL10 hl5), mz_rS0, mz_wS0, mz_rS1, mz_wS1, mz_rS2, mz_wS2, mz_rS3, mz_wS3, mz_rS4, mz_wS4, mz_rS5, mz_wS5, true_and]
          exact qC s0 u (Or.inr (eqv.mp d))
      exact ⟨fun d => q98 0 (mj_bi_f d).symm, fun d => q98 1 (mj_bi_t d).symm⟩
  have n71 : ∀ o9 : Option Value, ¬ mz_wA Z l a → ∀ s0 : Int32, mj_W 1 92 1 71 [some (.ref 0), some (.ref 1), some (.ref 4), some (.int (nI p)), some (.int (nI l)), some (.int a), some (.int (11 * nI l)), some (.int (mj_bi (Z 10 l = a))), some (.int 0), o9] [.int s0] (mz Z X) 0 K := by
    intro o9 u s0
    exact t92_71 ⟨fun _ => n128 0 s0 (fun z => u z.1), fun c => absurd rfl c⟩
  have q46 : ∀ (o8 o9 : Option Value) (x : Int32), x = mj_bi (mz_wA Z l a) → mj_W 1 92 1 46 [some (.ref 0), some (.ref 1), some (.ref 4), some (.int (nI p)), some (.int (nI l)), some (.int a), some (.int (11 * nI l)), some (.int (mj_bi (Z 10 l = a))), o8, o9] [.int x] (mz Z X) 0 K := by
    intro o8 o9 x hx
    have go : ∀ s0 : Int32, s0 = mj_bi (Z 9 l = 3 ∧ Z 19 l = 0) → mj_W 1 92 1 71 [some (.ref 0), some (.ref 1), some (.ref 4), some (.int (nI p)), some (.int (nI l)), some (.int a), some (.int (11 * nI l)), some (.int (mj_bi (Z 10 l = a))), some (.int x), o9] [.int s0] (mz Z X) 0 K := by
      intro s0 hs
      by_cases u : mz_wA Z l a
      · rw [hx, mj_bi_t u]; exact q71 o9 u s0 hs
      · rw [hx, mj_bi_f u]; exact n71 o9 u s0
    refine t92_46 ?_
    simp only [mz_rL0 hl5, mz_wL0 hl5, eq_true (mz_vL0 hl5), mz_rL1 hl5, mz_wL1 hl5, eq_true (mz_vL1 hl5), mz_rL2 hl5, mz_wL2 hl5, eq_true (mz_vL2 hl5), mz_rL3 hl5, mz_wL3 hl5, eq_true (mz_vL3 hl5), mz_rL4 hl5, mz_wL4 hl5, eq_true (mz_vL4 hl5), mz_rL5 hl5, mz_wL5 hl5, eq_true (mz_vL5 hl5), mz_rL6 hl5, mz_wL6 hl5, eq_true (mz_vL6 hl5), mz_rL7 hl5, mz_wL7 hl5, eq_true (mz_vL7 hl5), mz_rL8 hl5, mz_wL8 hl5, eq_true (mz_vL8 hl5), mz_rL9 hl5, mz_wL9 hl5, eq_true (mz_vL9 hl5), mz_rL10 hl5, mz_wL10 hl5, eq_true (mz_vL10 hl5), true_and]
    refine ⟨fun c => go 0 (mj_bi_f (fun z => c z.1)).symm, fun c => ⟨fun c2 => go 0 (mj_bi_f (fun z => c2 z.2)).symm, fun c2 => go 1 (mj_bi_t ⟨c, c2⟩).symm⟩⟩
  refine e92 ?_
  simp only [mz_rL0 hl5, mz_wL0 hl5, eq_true (mz_vL0 hl5), mz_rL1 hl5, mz_wL1 hl5, eq_true (mz_vL1 hl5), mz_rL2 hl5, mz_wL2 hl5, eq_true (mz_vL2 hl5), mz_rL3 hl5, mz_wL3 hl5, eq_true (mz_vL3 hl5), mz_rL4 hl5, mz_wL4 hl5, eq_true (mz_vL4 hl5), mz_rL5 hl5, mz_wL5 hl5, eq_true (mz_vL5 hl5), mz_rL6 hl5, mz_wL6 hl5, eq_true (mz_vL6 hl5), mz_rL7 hl5, mz_wL7 hl5, eq_true (mz_vL7 hl5), mz_rL8 hl5, mz_wL8 hl5, eq_true (mz_vL8 hl5), mz_rL9 hl5, mz_wL9 hl5, eq_true (mz_vL9 hl5), mz_rL10 hl5, mz_wL10 hl5, eq_true (mz_vL10 hl5), true_and]
  have q23 : ∀ x : Int32, x = mj_bi (Z 10 l = a) → mj_W 1 92 1 23 [some (.ref 0), some (.ref 1), some (.ref 4), some (.int (nI p)), some (.int (nI l)), some (.int a), some (.int (11 * nI l)), none, none, none] [.int x] (mz Z X) 0 K := by
    intro x hx
    refine t92_23 ?_
    simp only [mz_rL0 hl5, mz_wL0 hl5, eq_true (mz_vL0 hl5), mz_rL1 hl5, mz_wL1 hl5, eq_true (mz_vL1 hl5), mz_rL2 hl5, mz_wL2 hl5, eq_true (mz_vL2 hl5), mz_rL3 hl5, mz_wL3 hl5, eq_true (mz_vL3 hl5), mz_rL4 hl5, mz_wL4 hl5, eq_true (mz_vL4 hl5), mz_rL5 hl5, mz_wL5 hl5, eq_true (mz_vL5 hl5), mz_rL6 hl5, mz_wL6 hl5, eq_true (mz_vL6 hl5), mz_rL7 hl5, mz_wL7 hl5, eq_true (mz_vL7 hl5), mz_rL8 hl5, mz_wL8 hl5, eq_true (mz_vL8 hl5), mz_rL9 hl5, mz_wL9 hl5, eq_true (mz_vL9 hl5), mz_rL10 hl5, mz_wL10 hl5, eq_true (mz_vL10 hl5), true_and]
    rw [hx]
    refine ⟨fun c => q46 _ _ 1 (mj_bi_t (Or.inl (mj_bi1.mp c))).symm, fun c => ⟨fun c2 => q46 _ _ 0 (mj_bi_f (fun z => z.elim (mj_bi0.mp c) c2)).symm, fun c2 => q46 _ _ 1 (mj_bi_t (Or.inr c2)).symm⟩⟩
  exact ⟨fun c => q23 0 (mj_bi_f c).symm, fun c => q23 1 (mj_bi_t c).symm⟩
end LWB
