-- THE LAW'S METHODS, K: the order to clear
section LWL
variable {Z Z' X : mj_M} {K : mj_K} {p l r t a b i : Nat}
/-- a street that can be reached -/
def mz_sr (Z : mj_M) (p j : Nat) : Prop := Z 2 j = 0 ∧ mj_di Z (Z 24 p) (Z 40 p) (Z 22 p).toNatClampNeg j < 1000
noncomputable def mz_sk (Z : mj_M) (p j : Nat) : Nat := mj_di Z (Z 24 p) (Z 40 p) (Z 22 p).toNatClampNeg j
theorem mz_ne (h : mj_S Z) (p : Nat) : ∀ n, n < 1000 → mz_gf (mz_sr Z p) (mz_sk Z p) 0 n (md_ne Z p n).1 ∧ (((md_ne Z p n).1 = -1 ∧ (md_ne Z p n).2 = 1000000) ∨ ∃ i, i < n ∧ (md_ne Z p n).1 = nI i ∧ (md_ne Z p n).2 = mz_sk Z p i ∧ (md_ne Z p n).2 < 1000)
  | 0, _ => ⟨Or.inl ⟨rfl, fun j _ hj => absurd hj (Nat.not_lt_zero j)⟩, Or.inl ⟨rfl, rfl⟩⟩
  | n + 1, hn => by
    obtain ⟨ih, ih2⟩ := mz_ne h p n (by omega)
    have cs := mj_D_cases h.1 (c := Z 24 p) (k := Z 40 p) (Z 22 p).toNatClampNeg n
    have e : md_ne Z p (n + 1) = if Z 2 n = 0 ∧ mj_di Z (Z 24 p) (Z 40 p) (Z 22 p).toNatClampNeg n < (md_ne Z p n).2 then (nI n, mj_di Z (Z 24 p) (Z 40 p) (Z 22 p).toNatClampNeg n) else md_ne Z p n := rfl
    rw [e]
    by_cases c : Z 2 n = 0 ∧ mj_di Z (Z 24 p) (Z 40 p) (Z 22 p).toNatClampNeg n < (md_ne Z p n).2
    · rw [if_pos c]
      have hlt : mz_sk Z p n < (md_ne Z p n).2 := c.2
      have h1000 : mz_sk Z p n < 1000 := by
        unfold mz_sk
        unfold mz_sk at hlt
        rcases ih2 with z | ⟨i, -, -, -, z⟩
        · rw [z.2] at hlt
          omega
        · omega
      refine ⟨Or.inr ⟨n, rfl, Nat.zero_le _, by omega, ⟨c.1, h1000⟩, fun j hj hj2 hw => ?_⟩, Or.inr ⟨n, by omega, rfl, rfl, h1000⟩⟩
      by_cases q : j = n
      · exact Or.inr ⟨by rw [q], by omega⟩
      · rcases ih with ⟨-, g⟩ | ⟨i, g1, g2, g3, g4, g5⟩
        · exact absurd hw (g j hj (by omega))
        · rcases ih2 with z | ⟨i', z1, z2, z3, z4⟩
          · rw [z.1] at g1
            exact absurd g1.symm (mj_nI_m1 (by omega))
          · have : i' = i := (nI_eq (by omega) (by omega)).mp (z2.symm.trans g1)
            subst this
            have := g5 j hj (by omega) hw
            exact Or.inl (by omega)
    · rw [if_neg c]
      refine ⟨?_, ?_⟩
      · rcases ih with ⟨g0, g⟩ | ⟨i, g1, g2, g3, g4, g5⟩
        · refine Or.inl ⟨g0, fun j hj hj2 hw => ?_⟩
          by_cases q : j = n
          · rw [q] at hw
            rcases ih2 with z | ⟨i, z1, z2, -⟩
            · refine c ⟨hw.1, ?_⟩
              have := hw.2
              rw [z.2]; omega
            · rw [g0] at z2
              exact absurd z2.symm (mj_nI_m1 (by omega))
          · exact g j hj (by omega) hw
        · refine Or.inr ⟨i, g1, g2, by omega, g4, fun j hj hj2 hw => ?_⟩
          by_cases q : j = n
          · rw [q] at hw ⊢
            rcases ih2 with z | ⟨i', z1, z2, z3, z4⟩
            · rw [z.1] at g1
              exact absurd g1.symm (mj_nI_m1 (by omega))
            · have : i' = i := (nI_eq (by omega) (by omega)).mp (z2.symm.trans g1)
              subst this
              have nl : ¬ mj_di Z (Z 24 p) (Z 40 p) (Z 22 p).toNatClampNeg n < (md_ne Z p n).2 := fun w => c ⟨hw.1, w⟩
              have : mz_sk Z p n = mj_di Z (Z 24 p) (Z 40 p) (Z 22 p).toNatClampNeg n := rfl
              by_cases q2 : mz_sk Z p i' = mz_sk Z p n
              · exact Or.inr ⟨q2, by omega⟩
              · exact Or.inl (by omega)
          · exact g5 j hj (by omega) hw
      · rcases ih2 with z | ⟨i, z1, z2⟩
        · exact Or.inl z
        · exact Or.inr ⟨i, by omega, z2⟩
/-- the nearest street is looked for, downwards -/
theorem mz_near {X0 : mj_M} (h : mj_S Z) (hB : mz_B Z) (hD : mj_Da Z) (hp : p < mj_np Z) {x4 : Int32} (hK : ∀ X' x6 x8 o9, mz_X4 X0 X' → x8 < 0 → mj_W 1 103 3 44 [some (.ref 0), some (.ref 1), some (.ref 2), some (.ref 4), some (.int x4), some (.int (nI p)), some (.int x6), some (.int (md_g Z p)), some (.int x8), o9] [] (mz Z X') 0 K) : ∀ (j : Nat), j ≤ mj_nr Z → ∀ X' g x6 o9, mz_X4 X0 X' → mz_gf (mz_sr Z p) (mz_sk Z p) j (mj_nr Z) g → ((g = -1 ∧ x6 = -1) ∨ ∃ i, i < 6 ∧ g = nI i ∧ x6 = nI (mz_sk Z p i) ∧ mz_sk Z p i ≤ 50) → mj_W 1 103 3 44 [some (.ref 0), some (.ref 1), some (.ref 2), some (.ref 4), some (.int x4), some (.int (nI p)), some (.int x6), some (.int g), some (.int (nI j - 1)), o9] [] (mz Z X') 0 K := by
  have hp8 := mz_p8 hB hp
  have hR : mj_nr Z ≤ 6 := hB.1
  obtain ⟨-, v22, hk, -⟩ := hD p hp
  obtain ⟨a, ea, ha, ca⟩ := mz_rm h v22
  intro j
  induction j with
  | zero =>
    intro hj X' g x6 o9 hX hg hgx
    have e : g = md_g Z p := mz_gf_u (by omega) hg (mz_ne h p (mj_nr Z) (by omega)).1
    rw [e]
    exact hK X' x6 _ o9 hX (by decide)
  | succ j ih =>
    intro hj X' g x6 o9 hX hg hgx
    have hj2 : j < mj_nr Z := by omega
    have hj6 := mz_r6 hB hj2
    have e1 : nI (j + 1) - 1 = nI j := by rw [← nI_1]; grind
    have e2 : nI j + (-1) = nI j - 1 := by grind
    have cj : (nI j).toNatClampNeg = j := nI_clamp (by omega)
    obtain ⟨sA, sB, sC⟩ := mz_gf_s hj2 (by omega) hg
    rw [e1]
    have skip : ¬ mz_sr Z p j → ∀ X' o9, mz_X4 X0 X' → mj_W 1 103 3 79 [some (.ref 0), some (.ref 1), some (.ref 2), some (.ref 4), some (.int x4), some (.int (nI p)), some (.int x6), some (.int g), some (.int (nI j)), o9] [.int (-1)] (mz Z X') 0 K := by
      intro w X' o9 hX
      refine t103_79 ⟨fun _ => t103_105 ⟨fun _ => t103_131 ?_, fun z => absurd (by decide) z⟩, fun z => absurd (by decide) z⟩
      rw [e2]
      exact ih (by omega) X' g x6 _ hX (sA w) hgx
    refine t103_44 ⟨fun c => absurd c (nI_pos (by omega)), fun _ => ?_⟩
    simp only [mz_rR0 hj6, mz_wR0 hj6, eq_true (mz_vR0 hj6), mz_rR1 hj6, mz_wR1 hj6, eq_true (mz_vR1 hj6), mz_rR2 hj6, mz_wR2 hj6, eq_true (mz_vR2 hj6), mz_rR3 hj6, mz_wR3 hj6, eq_true (mz_vR3 hj6), mz_rR4 hj6, mz_wR4 hj6, eq_true (mz_vR4 hj6), mz_rP0 hp8, mz_wP0 hp8, eq_true (mz_vP0 hp8), mz_rP1 hp8, mz_wP1 hp8, eq_true (mz_vP1 hp8), mz_rP2 hp8, mz_wP2 hp8, eq_true (mz_vP2 hp8), mz_rP3 hp8, mz_wP3 hp8, eq_true (mz_vP3 hp8), mz_rP4 hp8, mz_wP4 hp8, eq_true (mz_vP4 hp8), mz_rP5 hp8, mz_wP5 hp8, eq_true (mz_vP5 hp8), mz_rP6 hp8, mz_wP6 hp8, eq_true (mz_vP6 hp8), mz_rP7 hp8, mz_wP7 hp8, eq_true (mz_vP7 hp8), true_and]
    refine ⟨fun c => skip (fun z => c z.1) _ _ hX, fun c => ?_⟩
    rw [ea]
    refine sp93 h hB hp hk ha hj2 (fun X2 hX2 => t103_75 ?_)
    have hX3 : mz_X4 X0 X2 := fun c hc => by rw [hX2 c hc]; exact hX c hc
    have hsk : mz_sk Z p j = mj_di Z (Z 24 p) (Z 40 p) a j := by unfold mz_sk; rw [ca]
    rcases mz_dv1 h (c := Z 24 p) (k := Z 40 p) (a := a) (g := j) with ⟨d1, d2⟩ | ⟨d1, d2⟩
    · rw [d2, ← hsk]
      rw [← hsk] at d1
      have w : mz_sr Z p j := ⟨c, by
        have : mz_sk Z p j < 1000 := by omega
        exact this⟩
      have pos : ¬ nI (mz_sk Z p j) < 0 := nI_pos (by omega)
      have nej : ¬ nI j = -1 := mj_nI_m1 (by omega)
      refine t103_79 ⟨fun z => absurd z pos, fun _ => ?_⟩
      rcases hgx with ⟨g1, g2⟩ | ⟨i, gi, g1, g2, g3⟩
      · subst g2
        refine ⟨fun _ => t103_105 ⟨fun z => absurd z pos, fun _ => ⟨fun _ => t103_131 ?_, fun z => absurd (by decide) z⟩⟩, fun z => absurd (by decide) z⟩
        rw [e2]
        exact ih (by omega) X2 (nI j) _ _ hX3 (sB w (Or.inl g1)) (Or.inr ⟨j, hj6, rfl, rfl, d1⟩)
      · subst g2
        have pos2 : ¬ nI (mz_sk Z p i) < 0 := nI_pos (by omega)
        refine ⟨fun z => absurd z pos2, fun _ => ⟨fun z => t103_105 ⟨fun z2 => absurd z2 pos, fun _ => ⟨fun z2 => absurd z2 pos2, fun _ => ⟨fun _ => t103_131 ?_, fun z2 => absurd z z2⟩⟩⟩, fun z => t103_105 ⟨fun z2 => absurd z2 pos, fun _ => ⟨fun z2 => absurd z2 pos2, fun _ => ⟨fun z2 => absurd z2 z, fun _ => t103_131 ?_⟩⟩⟩⟩⟩
        · rw [nI_ltI (by omega) (by omega)] at z
          rw [e2]
          exact ih (by omega) X2 g _ _ hX3 (sC w ⟨i, g1, by omega, z⟩) (Or.inr ⟨i, gi, g1, rfl, g3⟩)
        · rw [nI_ltI (by omega) (by omega)] at z
          rw [e2]
          exact ih (by omega) X2 (nI j) _ _ hX3 (sB w (Or.inr ⟨i, g1, by omega, by omega⟩)) (Or.inr ⟨j, hj6, rfl, rfl, d1⟩)
    · rw [d2]
      refine skip (fun z => ?_) _ _ hX3
      have : mz_sk Z p j < 1000 := z.2
      omega
theorem mz_B_od (hB : mz_B Z) : mz_B (md_od p Z) := by
  unfold md_od
  refine mz_B_pr (mj_oA_pr p _) ?_
  split
  · unfold md_tk
    split
    · exact hB
    · exact hB
  · exact hB
theorem mz_B_on (hB : mz_B Z) : ∀ k, mz_B (md_on Z k)
  | 0 => hB
  | k + 1 => mz_B_od (mz_B_on hB k)
theorem mz_oA_27 (x : Int32) (q : Nat) : mj_u (mj_oA p Z) 27 q x = mj_oA p (mj_u Z 27 q x) := by
  unfold mj_oA
  have e : (mj_u Z 27 q x 21 p = 0 ∧ mj_u Z 27 q x 22 p = mj_u Z 27 q x 23 p ∧ mj_u Z 27 q x 2 (mj_u Z 27 q x 22 p).toNatClampNeg = 0) = (Z 21 p = 0 ∧ Z 22 p = Z 23 p ∧ Z 2 (Z 22 p).toNatClampNeg = 0) := rfl
  by_cases c : Z 21 p = 0 ∧ Z 22 p = Z 23 p ∧ Z 2 (Z 22 p).toNatClampNeg = 0
  · rw [if_pos c, if_pos (show mj_u Z 27 q x 21 p = 0 ∧ mj_u Z 27 q x 22 p = mj_u Z 27 q x 23 p ∧ mj_u Z 27 q x 2 (mj_u Z 27 q x 22 p).toNatClampNeg = 0 from c)]
    show _ = mj_u (mj_u (mj_u Z 27 q x) 21 p 3) 6 (Z 22 p).toNatClampNeg (Z 6 (Z 22 p).toNatClampNeg + 1)
    rw [mz_uc (Z := mj_u Z 21 p 3) (show 6 ≠ 27 by decide), mz_uc (Z := Z) (show 21 ≠ 27 by decide)]
  · rw [if_neg c, if_neg (show ¬ (mj_u Z 27 q x 21 p = 0 ∧ mj_u Z 27 q x 22 p = mj_u Z 27 q x 23 p ∧ mj_u Z 27 q x 2 (mj_u Z 27 q x 22 p).toNatClampNeg = 0) from c)]
theorem sp103 (h : mj_Ia Z) (hB : mz_B Z) (hK : ∀ X', mz_X4 X X' → K 0 (md_oc Z (mj_np Z)) (mz (md_ord Z) X')) : mj_Cm 103 3 [.ref 0, .ref 1, .ref 2, .ref 4] (mz Z X) K := by
  refine e103 ?_
  simp only [mz_rS0, mz_wS0, mz_rS1, mz_wS1, mz_rS2, mz_wS2, mz_rS3, mz_wS3, mz_rS4, mz_wS4, mz_rS5, mz_wS5]
  refine mj_down (P := fun k => ∀ X' o6 o7 o8 o9, mz_X4 X X' → mj_W 1 103 3 10 [some (.ref 0), some (.ref 1), some (.ref 2), some (.ref 4), some (.int (md_oc Z k)), some (.int (nI k)), o6, o7, o8, o9] [] (mz (md_on Z k) X') 0 K) (mj_np Z) ?_ ?_ X none none none none (fun _ _ => rfl)
  · intro X' o6 o7 o8 o9 hX
    obtain ⟨i1, i2, -, -⟩ := md_on_I h (mj_np Z) (Nat.le_refl _)
    exact t103_10 ⟨fun _ => hK X' hX, fun c => absurd (mj_pe i1.1.1.s i2.symm) c⟩
  · intro k hk ih X' o6 o7 o8 o9 hX
    obtain ⟨i1, i2, -, -⟩ := md_on_I h k (by omega)
    have hB' := mz_B_on hB k
    have ec : md_oc Z (k + 1) = if md_on Z k 21 k = 0 ∨ md_on Z k 21 k = 1 then md_oc Z k + md_cg (md_on Z k) k else md_oc Z k := rfl
    have eo : md_on Z (k + 1) = md_od k (md_on Z k) := rfl
    rw [ec, eo] at ih
    generalize md_on Z k = A at i1 i2 hB' ih ⊢
    generalize md_oc Z k = n at ih ⊢
    have hS := i1.1.1.s
    have hD := i1.1.1.a
    have hkA : k < mj_np A := by omega
    have hk8 := mz_p8 hB' hkA
    have hR : mj_nr A ≤ 6 := hB'.1
    have s21 : 2 ≤ A 21 k ↔ ¬ (A 21 k = 0 ∨ A 21 k = 1) := by
      rcases (hD k hkA).1 with z | z | z | z <;> rw [z] <;> decide
    rw [← nI_1] at ih
    unfold md_od at ih
    refine t103_10 ⟨fun c => (mj_ps hS hkA c).elim, fun _ => ?_⟩
    simp only [mz_rP0 hk8, mz_wP0 hk8, eq_true (mz_vP0 hk8), mz_rP1 hk8, mz_wP1 hk8, eq_true (mz_vP1 hk8), mz_rP2 hk8, mz_wP2 hk8, eq_true (mz_vP2 hk8), mz_rP3 hk8, mz_wP3 hk8, eq_true (mz_vP3 hk8), mz_rP4 hk8, mz_wP4 hk8, eq_true (mz_vP4 hk8), mz_rP5 hk8, mz_wP5 hk8, eq_true (mz_vP5 hk8), mz_rP6 hk8, mz_wP6 hk8, eq_true (mz_vP6 hk8), mz_rP7 hk8, mz_wP7 hk8, eq_true (mz_vP7 hk8), mz_rS0, mz_wS0, mz_rS1, mz_wS1, mz_rS2, mz_wS2, mz_rS3, mz_wS3, mz_rS4, mz_wS4, mz_rS5, mz_wS5, true_and]
    rw [s21]
    refine ⟨fun c => ?_, fun c => ?_⟩
    · rw [if_neg c, if_neg c] at ih
      have e : mj_oA k (mj_u A 27 k 0) = mj_u A 27 k 0 := by
        unfold mj_oA
        rw [if_neg]
        intro z
        exact c (Or.inl z.1)
      rw [e] at ih
      exact ih X' _ _ _ _ hX
    · have c' := Decidable.not_not.mp c
      rw [if_pos c', if_pos c'] at ih
      rw [show A 1 0 = nI (mj_nr A) from mj_toN hS.1.1.1]
      refine mz_near (X0 := X) hS hB' hD hkA (fun X2 x6 x8 o9 hX2 hx8 => ?_) (mj_nr A) (Nat.le_refl _) X' (-1) (-1) _ hX (Or.inl ⟨rfl, fun j h1 h2 => by omega⟩) (Or.inl ⟨rfl, rfl⟩)
      have hgo : ∀ (x7 : Int32) (y : Int32), mj_W 1 103 3 203 [some (.ref 0), some (.ref 1), some (.ref 2), some (.ref 4), some (.int (n + md_cg A k)), some (.int (nI k)), some (.int x6), some (.int x7), some (.int x8), o9] [] (mz (mj_oA k (md_tk k A)) X2) 0 K := by
        intro x7 y
        have hk8' : k < 8 := hk8
        refine t103_203 ?_
        simp only [mz_rP0 hk8', mz_wP0 hk8', eq_true (mz_vP0 hk8'), mz_rP1 hk8', mz_wP1 hk8', eq_true (mz_vP1 hk8'), mz_rP2 hk8', mz_wP2 hk8', eq_true (mz_vP2 hk8'), mz_rP3 hk8', mz_wP3 hk8', eq_true (mz_vP3 hk8'), mz_rP4 hk8', mz_wP4 hk8', eq_true (mz_vP4 hk8'), mz_rP5 hk8', mz_wP5 hk8', eq_true (mz_vP5 hk8'), mz_rP6 hk8', mz_wP6 hk8', eq_true (mz_vP6 hk8'), mz_rP7 hk8', mz_wP7 hk8', eq_true (mz_vP7 hk8'), true_and]
        rw [mz_oA_27]
        have e27 : mj_u (md_tk k A) 27 k 0 = md_tk k (mj_u A 27 k 0) := by
          unfold md_tk
          rw [md_g_27]
          split
          · rfl
          · exact mz_uc (by decide)
        rw [e27]
        exact ih X2 _ _ _ _ hX2
      have v22 := (hD k hkA).2.1
      -- from the count on
      have w165 : ∀ (m : Int32), n + m = n + md_cg A k → mj_W 1 103 3 165 [some (.ref 0), some (.ref 1), some (.ref 2), some (.ref 4), some (.int n), some (.int (nI k)), some (.int x6), some (.int (md_g A k)), some (.int x8), o9] [.int m, .int n] (mz A X2) 0 K := by
        intro m hm
        refine t103_165 ⟨fun z => ?_, fun z => ?_⟩
        · have eg : md_g A k = -1 := by
            rcases md_g_in hS.1 k with w | w
            · exact w
            · exfalso
              rw [mj_lt] at z
              rw [mj_vi] at w
              have i0 : (0 : Int32).toInt = 0 := by decide
              omega
          have et : md_tk k A = A := by unfold md_tk; rw [if_pos eg]
          simp only [mz_rP0 hk8, mz_wP0 hk8, eq_true (mz_vP0 hk8), mz_rP1 hk8, mz_wP1 hk8, eq_true (mz_vP1 hk8), mz_rP2 hk8, mz_wP2 hk8, eq_true (mz_vP2 hk8), mz_rP3 hk8, mz_wP3 hk8, eq_true (mz_vP3 hk8), mz_rP4 hk8, mz_wP4 hk8, eq_true (mz_vP4 hk8), mz_rP5 hk8, mz_wP5 hk8, eq_true (mz_vP5 hk8), mz_rP6 hk8, mz_wP6 hk8, eq_true (mz_vP6 hk8), mz_rP7 hk8, mz_wP7 hk8, eq_true (mz_vP7 hk8), true_and]
          rw [hm]
          refine t103_195 ?_
          simp only [mz_rP0 hk8, mz_wP0 hk8, eq_true (mz_vP0 hk8), mz_rP1 hk8, mz_wP1 hk8, eq_true (mz_vP1 hk8), mz_rP2 hk8, mz_wP2 hk8, eq_true (mz_vP2 hk8), mz_rP3 hk8, mz_wP3 hk8, eq_true (mz_vP3 hk8), mz_rP4 hk8, mz_wP4 hk8, eq_true (mz_vP4 hk8), mz_rP5 hk8, mz_wP5 hk8, eq_true (mz_vP5 hk8), mz_rP6 hk8, mz_wP6 hk8, eq_true (mz_vP6 hk8), mz_rP7 hk8, mz_wP7 hk8, eq_true (mz_vP7 hk8), true_and]
          rw [mz_uid]
          refine sp97 hS hB' hkA v22 ?_
          have := hgo (md_g A k) 0
          rw [et] at this
          exact this
        · have eg : ¬ md_g A k = -1 := fun w => by
            rw [w] at z
            exact z (by decide)
          have et : md_tk k A = mj_u A 23 k (md_g A k) := by unfold md_tk; rw [if_neg eg]
          rw [hm]
          refine t103_195 ?_
          simp only [mz_rP0 hk8, mz_wP0 hk8, eq_true (mz_vP0 hk8), mz_rP1 hk8, mz_wP1 hk8, eq_true (mz_vP1 hk8), mz_rP2 hk8, mz_wP2 hk8, eq_true (mz_vP2 hk8), mz_rP3 hk8, mz_wP3 hk8, eq_true (mz_vP3 hk8), mz_rP4 hk8, mz_wP4 hk8, eq_true (mz_vP4 hk8), mz_rP5 hk8, mz_wP5 hk8, eq_true (mz_vP5 hk8), mz_rP6 hk8, mz_wP6 hk8, eq_true (mz_vP6 hk8), mz_rP7 hk8, mz_wP7 hk8, eq_true (mz_vP7 hk8), true_and]
          have := hgo (md_g A k) 0
          rw [et] at this
          exact sp97 (Z := mj_u A 23 k (md_g A k)) (md_goal_I i1 hkA ((md_g_in hS.1 k).resolve_left eg)).1.1.s hB' hkA v22 this
      refine t103_44 ⟨fun _ => ⟨fun z => t103_164 (w165 0 ?_), fun z => ?_⟩, fun z => absurd hx8 z⟩
      · have eg : md_g A k = -1 := by
          rcases md_g_in hS.1 k with w | w
          · exact w
          · exfalso
            rw [mj_lt] at z
            rw [mj_vi] at w
            have i0 : (0 : Int32).toInt = 0 := by decide
            omega
        unfold md_cg
        rw [if_pos eg]
      · have eg : ¬ md_g A k = -1 := fun w => by
          rw [w] at z
          exact z (by decide)
        simp only [mz_rP0 hk8, mz_wP0 hk8, eq_true (mz_vP0 hk8), mz_rP1 hk8, mz_wP1 hk8, eq_true (mz_vP1 hk8), mz_rP2 hk8, mz_wP2 hk8, eq_true (mz_vP2 hk8), mz_rP3 hk8, mz_wP3 hk8, eq_true (mz_vP3 hk8), mz_rP4 hk8, mz_wP4 hk8, eq_true (mz_vP4 hk8), mz_rP5 hk8, mz_wP5 hk8, eq_true (mz_vP5 hk8), mz_rP6 hk8, mz_wP6 hk8, eq_true (mz_vP6 hk8), mz_rP7 hk8, mz_wP7 hk8, eq_true (mz_vP7 hk8), true_and]
        refine ⟨fun y => t103_164 (w165 0 ?_), fun y => w165 1 ?_⟩
        · unfold md_cg
          rw [if_neg eg, if_pos y.symm]
        · unfold md_cg
          rw [if_neg eg, if_neg (fun w => y w.symm)]
end LWL
