-- ONE COMES FROM OUTSIDE, A TRAIN ARRIVES: THE LAW'S SIDE
section LWO
variable {Z Z' X X' C C' L L' : mj_M} {K : mj_K} {p l r t a b i n s : Nat} {v g ch kn gr w : Int32}
/-- what the law writes of one who comes -/
def mz_en (n : Nat) (r g ch kn gr w : Int32) (Z : mj_M) : mj_M := mj_u (mj_u (mj_u (mj_u (mj_u (mj_u (mj_u Z 22 n r) 23 n g) 24 n ch) 25 n gr) 40 n kn) 27 n w) 20 0 (Z 20 0 + 1)
theorem mz_en_22 {r : Int32} : mz_en n r g ch kn gr w Z 22 n = r := by
  show mj_u Z 22 n r 22 n = r
  rw [mj_u_at, if_pos ⟨rfl, rfl⟩]
theorem mz_en_a6 {r : Int32} (hn : n = mj_np Z) (hw : w = md_wt g Z) : mz_cm n (mz_en n r g ch kn gr w Z) = md_a6 r g ch kn gr Z := by
  subst hn
  subst hw
  unfold mz_cm
  rw [mz_en_22]
  funext c
  by_cases e5 : c = 5
  · subst e5; rfl
  · by_cases e21 : c = 21
    · subst e21; rfl
    · by_cases e22 : c = 22
      · subst e22; rfl
      · by_cases e23 : c = 23
        · subst e23; rfl
        · by_cases e24 : c = 24
          · subst e24; rfl
          · by_cases e25 : c = 25
            · subst e25; rfl
            · by_cases e26 : c = 26
              · subst e26; rfl
              · by_cases e27 : c = 27
                · subst e27; rfl
                · by_cases e20 : c = 20
                  · subst e20; rfl
                  · by_cases e40 : c = 40
                    · subst e40; rfl
                    · rw [md_a6_at _ _ _ _ _ _ c e21 e22 e23 e24 e40 e25 e26 e20 e27 e5]
                      unfold mz_en
                      rw [mj_u_ne _ _ _ e5, mj_u_ne _ _ _ e26, mj_u_ne _ _ _ e21, mj_u_ne _ _ _ e20, mj_u_ne _ _ _ e27, mj_u_ne _ _ _ e40, mj_u_ne _ _ _ e25, mj_u_ne _ _ _ e24, mj_u_ne _ _ _ e23, mj_u_ne _ _ _ e22]
theorem mz_come (h : mj_Ia Z) (hB : mz_B Z) (hn : n = mj_np Z) (hn8 : n < 8) (hs : s < mj_nr Z) (hg : vp_in g (mj_nr Z)) (hch : mj_bit ch) (hkn : mj_bit kn) (hgr : -1 ≤ gr.toInt) (hcap : Z 2 s = 0 ∨ ((mj_ct Z s 0 + mj_ct Z s 1 + 1 : Nat) : Int) ≤ (Z 3 s).toInt) (hw : w = md_wt g Z) (hK : K 0 0 (mz (md_add (nI s) g ch kn gr Z) X)) : mj_Cm 98 2 [.ref 0, .ref 2, .ref 4, .int (nI n)] (mz (mz_en n (nI s) g ch kn gr w Z) X) K := by
  have he := mz_en_a6 (r := nI s) (ch := ch) (kn := kn) (gr := gr) hn hw
  obtain ⟨a1, a2⟩ := md_a6_I (gr := gr) (kn := kn) (ch := ch) (g := g) h (by omega) rfl hs hg hch hkn hcap
  have hpr : mj_pr mj_s1 (mz_en n (nI s) g ch kn gr w Z) = mj_pr mj_s1 (md_a6 (nI s) g ch kn gr Z) := by
    rw [← he, mz_cm_pr]
  have hBa : mz_B (md_a6 (nI s) g ch kn gr Z) := by
    refine ⟨hB.1, hB.2.1, by omega, hB.2.2.2.1, fun p hp => ?_, hB.2.2.2.2.2⟩
    have e25 : md_a6 (nI s) g ch kn gr Z 25 p = if p = mj_np Z then gr else Z 25 p := by
      show mj_u Z 25 (mj_np Z) gr 25 p = _
      rw [mj_u_at]
      simp only [true_and]
    rw [e25]
    split
    · exact hgr
    · exact hB.2.2.2.2.1 p (by omega)
  have hS := mj_S_pr hpr a1.1.1.s
  have hB' := mz_B_pr hpr hBa
  have hnp : mj_np (mz_en n (nI s) g ch kn gr w Z) = mj_np Z + 1 := by rw [(mj_n_pr hpr).1, a2]
  have hnr : mj_nr (mz_en n (nI s) g ch kn gr w Z) = mj_nr Z := rfl
  refine sp98 hS hB' (by rw [hnp]; omega) ?_ ?_
  · rw [mz_en_22, hnr]
    exact vp_in_nI hs (by have := mj_S_R h.1.1.s; omega)
  · rw [he, hn]
    exact hK
theorem mz_add_B (hB : mz_B Z) (h : mj_Ia Z) (hn8 : mj_np Z < 8) (hgr : -1 ≤ gr.toInt) (hs : s < mj_nr Z) (hg : vp_in g (mj_nr Z)) (hch : mj_bit ch) (hkn : mj_bit kn) (hcap : Z 2 s = 0 ∨ ((mj_ct Z s 0 + mj_ct Z s 1 + 1 : Nat) : Int) ≤ (Z 3 s).toInt) : mz_B (md_add (nI s) g ch kn gr Z) := by
  obtain ⟨a1, a2⟩ := md_a6_I (gr := gr) (kn := kn) (ch := ch) (g := g) h (by omega) rfl hs hg hch hkn hcap
  refine mz_B_pr (mj_oA_pr _ _) ⟨hB.1, hB.2.1, by omega, hB.2.2.2.1, fun p hp => ?_, hB.2.2.2.2.2⟩
  have e25 : md_a6 (nI s) g ch kn gr Z 25 p = if p = mj_np Z then gr else Z 25 p := by
    show mj_u Z 25 (mj_np Z) gr 25 p = _
    rw [mj_u_at]
    simp only [true_and]
  rw [e25]
  split
  · exact hgr
  · exact hB.2.2.2.2.1 p (by omega)
theorem mz_oA_u28 : mj_oA p (mj_u Z 28 i v) = mj_u (mj_oA p Z) 28 i v := by
  unfold mj_oA
  by_cases c : Z 21 p = 0 ∧ Z 22 p = Z 23 p ∧ Z 2 (Z 22 p).toNatClampNeg = 0
  · rw [if_pos c, if_pos (show mj_u Z 28 i v 21 p = 0 ∧ mj_u Z 28 i v 22 p = mj_u Z 28 i v 23 p ∧ mj_u Z 28 i v 2 (mj_u Z 28 i v 22 p).toNatClampNeg = 0 from c)]
    show mj_u (mj_u (mj_u Z 28 i v) 21 p 3) 6 (Z 22 p).toNatClampNeg (Z 6 (Z 22 p).toNatClampNeg + 1) = _
    rw [mz_uc (Z := Z) (show 28 ≠ 21 by decide), mz_uc (Z := mj_u Z 21 p 3) (show 28 ≠ 6 by decide)]
  · rw [if_neg c, if_neg (show ¬ (mj_u Z 28 i v 21 p = 0 ∧ mj_u Z 28 i v 22 p = mj_u Z 28 i v 23 p ∧ mj_u Z 28 i v 2 (mj_u Z 28 i v 22 p).toNatClampNeg = 0) from c)]
theorem mz_add_u28 {r : Int32} : md_add r g ch kn gr (mj_u Z 28 i v) = mj_u (md_add r g ch kn gr Z) 28 i v := by
  unfold md_add
  have e : md_a6 r g ch kn gr (mj_u Z 28 i v) = mj_u (md_a6 r g ch kn gr Z) 28 i v := by
    show md_a5 (mj_np Z) r g ch kn gr (Z 0 5) (md_wt g Z) (Z 20 0 + 1) (Z 5 r.toNatClampNeg + 1) (mj_u Z 28 i v) = mj_u (md_a5 (mj_np Z) r g ch kn gr (Z 0 5) (md_wt g Z) (Z 20 0 + 1) (Z 5 r.toNatClampNeg + 1) Z) 28 i v
    unfold md_a5
    rw [mz_uc (show 28 ≠ 21 by decide), mz_uc (show 28 ≠ 22 by decide), mz_uc (show 28 ≠ 23 by decide), mz_uc (show 28 ≠ 24 by decide), mz_uc (show 28 ≠ 40 by decide), mz_uc (show 28 ≠ 25 by decide), mz_uc (show 28 ≠ 26 by decide), mz_uc (show 28 ≠ 20 by decide), mz_uc (show 28 ≠ 27 by decide), mz_uc (show 28 ≠ 5 by decide)]
  rw [e]
  exact mz_oA_u28
theorem mz_oA_u29 : mj_oA p (mj_u Z 29 i v) = mj_u (mj_oA p Z) 29 i v := by
  unfold mj_oA
  by_cases c : Z 21 p = 0 ∧ Z 22 p = Z 23 p ∧ Z 2 (Z 22 p).toNatClampNeg = 0
  · rw [if_pos c, if_pos (show mj_u Z 29 i v 21 p = 0 ∧ mj_u Z 29 i v 22 p = mj_u Z 29 i v 23 p ∧ mj_u Z 29 i v 2 (mj_u Z 29 i v 22 p).toNatClampNeg = 0 from c)]
    show mj_u (mj_u (mj_u Z 29 i v) 21 p 3) 6 (Z 22 p).toNatClampNeg (Z 6 (Z 22 p).toNatClampNeg + 1) = _
    rw [mz_uc (Z := Z) (show 29 ≠ 21 by decide), mz_uc (Z := mj_u Z 21 p 3) (show 29 ≠ 6 by decide)]
  · rw [if_neg c, if_neg (show ¬ (mj_u Z 29 i v 21 p = 0 ∧ mj_u Z 29 i v 22 p = mj_u Z 29 i v 23 p ∧ mj_u Z 29 i v 2 (mj_u Z 29 i v 22 p).toNatClampNeg = 0) from c)]
theorem mz_add_u29 {r : Int32} : md_add r g ch kn gr (mj_u Z 29 i v) = mj_u (md_add r g ch kn gr Z) 29 i v := by
  unfold md_add
  have e : md_a6 r g ch kn gr (mj_u Z 29 i v) = mj_u (md_a6 r g ch kn gr Z) 29 i v := by
    show md_a5 (mj_np Z) r g ch kn gr (Z 0 5) (md_wt g Z) (Z 20 0 + 1) (Z 5 r.toNatClampNeg + 1) (mj_u Z 29 i v) = mj_u (md_a5 (mj_np Z) r g ch kn gr (Z 0 5) (md_wt g Z) (Z 20 0 + 1) (Z 5 r.toNatClampNeg + 1) Z) 29 i v
    unfold md_a5
    rw [mz_uc (show 29 ≠ 21 by decide), mz_uc (show 29 ≠ 22 by decide), mz_uc (show 29 ≠ 23 by decide), mz_uc (show 29 ≠ 24 by decide), mz_uc (show 29 ≠ 40 by decide), mz_uc (show 29 ≠ 25 by decide), mz_uc (show 29 ≠ 26 by decide), mz_uc (show 29 ≠ 20 by decide), mz_uc (show 29 ≠ 27 by decide), mz_uc (show 29 ≠ 5 by decide)]
  rw [e]
  exact mz_oA_u29
theorem mz_oA_u30 : mj_oA p (mj_u Z 30 i v) = mj_u (mj_oA p Z) 30 i v := by
  unfold mj_oA
  by_cases c : Z 21 p = 0 ∧ Z 22 p = Z 23 p ∧ Z 2 (Z 22 p).toNatClampNeg = 0
  · rw [if_pos c, if_pos (show mj_u Z 30 i v 21 p = 0 ∧ mj_u Z 30 i v 22 p = mj_u Z 30 i v 23 p ∧ mj_u Z 30 i v 2 (mj_u Z 30 i v 22 p).toNatClampNeg = 0 from c)]
    show mj_u (mj_u (mj_u Z 30 i v) 21 p 3) 6 (Z 22 p).toNatClampNeg (Z 6 (Z 22 p).toNatClampNeg + 1) = _
    rw [mz_uc (Z := Z) (show 30 ≠ 21 by decide), mz_uc (Z := mj_u Z 21 p 3) (show 30 ≠ 6 by decide)]
  · rw [if_neg c, if_neg (show ¬ (mj_u Z 30 i v 21 p = 0 ∧ mj_u Z 30 i v 22 p = mj_u Z 30 i v 23 p ∧ mj_u Z 30 i v 2 (mj_u Z 30 i v 22 p).toNatClampNeg = 0) from c)]
theorem mz_add_u30 {r : Int32} : md_add r g ch kn gr (mj_u Z 30 i v) = mj_u (md_add r g ch kn gr Z) 30 i v := by
  unfold md_add
  have e : md_a6 r g ch kn gr (mj_u Z 30 i v) = mj_u (md_a6 r g ch kn gr Z) 30 i v := by
    show md_a5 (mj_np Z) r g ch kn gr (Z 0 5) (md_wt g Z) (Z 20 0 + 1) (Z 5 r.toNatClampNeg + 1) (mj_u Z 30 i v) = mj_u (md_a5 (mj_np Z) r g ch kn gr (Z 0 5) (md_wt g Z) (Z 20 0 + 1) (Z 5 r.toNatClampNeg + 1) Z) 30 i v
    unfold md_a5
    rw [mz_uc (show 30 ≠ 21 by decide), mz_uc (show 30 ≠ 22 by decide), mz_uc (show 30 ≠ 23 by decide), mz_uc (show 30 ≠ 24 by decide), mz_uc (show 30 ≠ 40 by decide), mz_uc (show 30 ≠ 25 by decide), mz_uc (show 30 ≠ 26 by decide), mz_uc (show 30 ≠ 20 by decide), mz_uc (show 30 ≠ 27 by decide), mz_uc (show 30 ≠ 5 by decide)]
  rw [e]
  exact mz_oA_u30
theorem mz_oA_u31 : mj_oA p (mj_u Z 31 i v) = mj_u (mj_oA p Z) 31 i v := by
  unfold mj_oA
  by_cases c : Z 21 p = 0 ∧ Z 22 p = Z 23 p ∧ Z 2 (Z 22 p).toNatClampNeg = 0
  · rw [if_pos c, if_pos (show mj_u Z 31 i v 21 p = 0 ∧ mj_u Z 31 i v 22 p = mj_u Z 31 i v 23 p ∧ mj_u Z 31 i v 2 (mj_u Z 31 i v 22 p).toNatClampNeg = 0 from c)]
    show mj_u (mj_u (mj_u Z 31 i v) 21 p 3) 6 (Z 22 p).toNatClampNeg (Z 6 (Z 22 p).toNatClampNeg + 1) = _
    rw [mz_uc (Z := Z) (show 31 ≠ 21 by decide), mz_uc (Z := mj_u Z 21 p 3) (show 31 ≠ 6 by decide)]
  · rw [if_neg c, if_neg (show ¬ (mj_u Z 31 i v 21 p = 0 ∧ mj_u Z 31 i v 22 p = mj_u Z 31 i v 23 p ∧ mj_u Z 31 i v 2 (mj_u Z 31 i v 22 p).toNatClampNeg = 0) from c)]
theorem mz_add_u31 {r : Int32} : md_add r g ch kn gr (mj_u Z 31 i v) = mj_u (md_add r g ch kn gr Z) 31 i v := by
  unfold md_add
  have e : md_a6 r g ch kn gr (mj_u Z 31 i v) = mj_u (md_a6 r g ch kn gr Z) 31 i v := by
    show md_a5 (mj_np Z) r g ch kn gr (Z 0 5) (md_wt g Z) (Z 20 0 + 1) (Z 5 r.toNatClampNeg + 1) (mj_u Z 31 i v) = mj_u (md_a5 (mj_np Z) r g ch kn gr (Z 0 5) (md_wt g Z) (Z 20 0 + 1) (Z 5 r.toNatClampNeg + 1) Z) 31 i v
    unfold md_a5
    rw [mz_uc (show 31 ≠ 21 by decide), mz_uc (show 31 ≠ 22 by decide), mz_uc (show 31 ≠ 23 by decide), mz_uc (show 31 ≠ 24 by decide), mz_uc (show 31 ≠ 40 by decide), mz_uc (show 31 ≠ 25 by decide), mz_uc (show 31 ≠ 26 by decide), mz_uc (show 31 ≠ 20 by decide), mz_uc (show 31 ≠ 27 by decide), mz_uc (show 31 ≠ 5 by decide)]
  rw [e]
  exact mz_oA_u31
theorem mz_oA_u34 : mj_oA p (mj_u Z 34 i v) = mj_u (mj_oA p Z) 34 i v := by
  unfold mj_oA
  by_cases c : Z 21 p = 0 ∧ Z 22 p = Z 23 p ∧ Z 2 (Z 22 p).toNatClampNeg = 0
  · rw [if_pos c, if_pos (show mj_u Z 34 i v 21 p = 0 ∧ mj_u Z 34 i v 22 p = mj_u Z 34 i v 23 p ∧ mj_u Z 34 i v 2 (mj_u Z 34 i v 22 p).toNatClampNeg = 0 from c)]
    show mj_u (mj_u (mj_u Z 34 i v) 21 p 3) 6 (Z 22 p).toNatClampNeg (Z 6 (Z 22 p).toNatClampNeg + 1) = _
    rw [mz_uc (Z := Z) (show 34 ≠ 21 by decide), mz_uc (Z := mj_u Z 21 p 3) (show 34 ≠ 6 by decide)]
  · rw [if_neg c, if_neg (show ¬ (mj_u Z 34 i v 21 p = 0 ∧ mj_u Z 34 i v 22 p = mj_u Z 34 i v 23 p ∧ mj_u Z 34 i v 2 (mj_u Z 34 i v 22 p).toNatClampNeg = 0) from c)]
theorem mz_add_u34 {r : Int32} : md_add r g ch kn gr (mj_u Z 34 i v) = mj_u (md_add r g ch kn gr Z) 34 i v := by
  unfold md_add
  have e : md_a6 r g ch kn gr (mj_u Z 34 i v) = mj_u (md_a6 r g ch kn gr Z) 34 i v := by
    show md_a5 (mj_np Z) r g ch kn gr (Z 0 5) (md_wt g Z) (Z 20 0 + 1) (Z 5 r.toNatClampNeg + 1) (mj_u Z 34 i v) = mj_u (md_a5 (mj_np Z) r g ch kn gr (Z 0 5) (md_wt g Z) (Z 20 0 + 1) (Z 5 r.toNatClampNeg + 1) Z) 34 i v
    unfold md_a5
    rw [mz_uc (show 34 ≠ 21 by decide), mz_uc (show 34 ≠ 22 by decide), mz_uc (show 34 ≠ 23 by decide), mz_uc (show 34 ≠ 24 by decide), mz_uc (show 34 ≠ 40 by decide), mz_uc (show 34 ≠ 25 by decide), mz_uc (show 34 ≠ 26 by decide), mz_uc (show 34 ≠ 20 by decide), mz_uc (show 34 ≠ 27 by decide), mz_uc (show 34 ≠ 5 by decide)]
  rw [e]
  exact mz_oA_u34
theorem mz_add_tr {r g ch kn gr : Int32} {r2 al sp st : Int32} : md_train r2 al sp st (md_add r g ch kn gr Z) = md_add r g ch kn gr (md_train r2 al sp st Z) := by
  have e1 : mj_nt (md_add r g ch kn gr Z) = mj_nt Z := by
    unfold mj_nt md_add
    rw [mj_oA_c _ _ (by decide) (by decide)]
    rfl
  have e2 : md_add r g ch kn gr Z 28 0 = Z 28 0 := by
    unfold md_add
    rw [mj_oA_c _ _ (by decide) (by decide)]
    rfl
  unfold md_train
  rw [e1, e2, mz_add_u28, mz_add_u31, mz_add_u30, mz_add_u34, mz_add_u29]
theorem mz_als_tr {r g : Int32} {r2 al sp st : Int32} : ∀ k, md_train r2 al sp st (md_als r g k Z) = md_als r g k (md_train r2 al sp st Z)
  | 0 => rfl
  | k + 1 => by
    show md_train r2 al sp st (md_add r g 0 0 (-1) (md_als r g k Z)) = md_add r g 0 0 (-1) (md_als r g k (md_train r2 al sp st Z))
    rw [mz_add_tr, mz_als_tr k]
abbrev mz_LE (x4 x5 x6 x7 : Int32) : List (Option Value) := [some (.ref 0), some (.ref 81), some (.ref 83), some (.ref 85), some (.int x4), some (.int x5), some (.int x6), some (.int x7)]
theorem mz_bd {x : Int32} (h : mj_bit x) : md_b x = x := by
  rcases h with rfl | rfl <;> decide
theorem sp108 (h : mz_H Z) (hc : mk_CL Z C) {g0 : Nat} (hs : s < 2) (hg : g0 < 6) (hg1 : g0 ≠ 2 ∧ g0 ≠ 3) {z : Int32} (hz : 0 ≤ z.toInt) (hK : ∀ Z' C' X', mz_H Z' → Z' 0 5 = Z 0 5 → mk_CL Z' C' → K 0 1 (mz_j C' (mz Z' X'))) : mj_Cm 108 6 [.ref 0, .ref 81, .ref 83, .ref 85, .int (nI s), .int (nI g0), .int z] (mz_j C (mz Z X)) K := by
  have hI := h.1
  have hB := h.2.1
  have hS := hI.1.1.s
  obtain ⟨n, hn⟩ : ∃ n, n = mj_np Z := ⟨_, rfl⟩
  have e4 : Z 20 0 = nI n := by rw [hn]; exact (mj_S_P hS).2
  have n8 : n ≤ 8 := by rw [hn]; exact hB.2.2.1
  have hzq := fb_rng z
  have zn : z = nI z.toNatClampNeg := mj_toN hz
  have zlt : z.toNatClampNeg < 2 ^ 31 := by rw [mj_clN]; omega
  have z4 : 0 ≤ (z / 4).toInt ∧ 0 ≤ (z / 12).toInt := by
    rw [zn, show (4 : Int32) = nI 4 from rfl, show (12 : Int32) = nI 12 from rfl, pk_div zlt (by decide) (by decide), pk_div zlt (by decide) (by decide), nI_toInt (by omega), nI_toInt (by omega)]
    omega
  -- the three numbers
  obtain ⟨ch, hch, hchb⟩ : ∃ ch : Int32, ch = (if z - z / 4 * 4 = 0 then 1 else 0) ∧ mj_bit ch := ⟨_, rfl, by split; exact Or.inr rfl; exact Or.inl rfl⟩
  obtain ⟨gr, hgr, hgr1, hgr2⟩ : ∃ gr : Int32, gr = z / 4 - z / 4 / 3 * 3 - 1 ∧ -1 ≤ gr.toInt ∧ gr.toInt ≤ 9 := by
    refine ⟨_, rfl, ?_⟩
    have e := mz_rem z4.1 (show 0 < (nI 3).toInt by decide)
    have hm : (z / 4).toNatClampNeg % (nI 3).toNatClampNeg < 3 := Nat.mod_lt _ (by decide)
    have e' : z / 4 - z / 4 / 3 * 3 = nI ((z / 4).toNatClampNeg % (nI 3).toNatClampNeg) := e
    rw [e']
    generalize (z / 4).toNatClampNeg % (nI 3).toNatClampNeg = m at hm
    have t := nI_toInt (show m < 2 ^ 31 by omega)
    have i1 : (1 : Int32).toInt = 1 := by decide
    rw [fb_subI (by rw [t, i1]; omega) (by rw [t, i1]; omega), t, i1]
    omega
  obtain ⟨kn, hkn, hknb⟩ : ∃ kn : Int32, kn = z / 12 - z / 12 / 2 * 2 ∧ mj_bit kn := by
    refine ⟨_, rfl, ?_⟩
    have e : z / 12 - z / 12 / 2 * 2 = nI ((z / 12).toNatClampNeg % (nI 2).toNatClampNeg) := mz_rem z4.2 (show 0 < (nI 2).toInt by decide)
    rw [e]
    have hm : (z / 12).toNatClampNeg % (nI 2).toNatClampNeg < 2 := Nat.mod_lt _ (by decide)
    generalize (z / 12).toNatClampNeg % (nI 2).toNatClampNeg = m at hm
    have : m = 0 ∨ m = 1 := by omega
    rcases this with q | q <;> rw [q]
    · exact Or.inl rfl
    · exact Or.inr rfl
  have hs6 : s < mj_nr Z := by rw [h.2.2.1]; omega
  have hg6 : g0 < mj_nr Z := by rw [h.2.2.1]; omega
  have vg : vp_in (nI g0) (mj_nr Z) := vp_in_nI hg6 (by rw [h.2.2.1]; omega)
  have vs : vp_in (nI s) (mj_nr Z) := vp_in_nI hs6 (by rw [h.2.2.1]; omega)
  have cs : (nI s).toNatClampNeg = s := nI_clamp (by omega)
  have cg : (nI g0).toNatClampNeg = g0 := nI_clamp (by omega)
  have k2s : Z 2 s = 0 := by rw [h.2.2.2.2 s (by omega), show s / 2 = 0 by omega]; rfl
  have k2g : ¬ Z 2 g0 = 1 := by
    rw [h.2.2.2.2 g0 hg]
    have : g0 / 2 = 0 ∨ g0 / 2 = 2 := by omega
    rcases this with q | q <;> rw [q] <;> decide
  refine e108 ⟨fun c => ?_, fun _ => ⟨by decide, hK Z C X h rfl hc⟩⟩
  have hne : n ≠ 8 := by
    intro e
    apply c
    show Z 20 0 = 8
    rw [e4, e]; rfl
  have hn8 : n < 8 := by omega
  obtain ⟨w, hw⟩ : ∃ w, w = md_wt (nI g0) Z := ⟨_, rfl⟩
  have addI := md_add_I (gr := gr) hI (show mj_np Z < 120 by omega) rfl hs6 vg hchb hknb (Or.inl k2s)
  have addB := mz_add_B (gr := gr) hB hI (by omega) hgr1 hs6 vg hchb hknb (Or.inl k2s)
  have addH : mz_H (md_add (nI s) (nI g0) ch kn gr Z) := by
    refine ⟨addI, addB, ?_, ?_, fun r hr => ?_⟩
    · unfold mj_nr md_add
      rw [mj_oA_c _ _ (by decide) (by decide)]
      exact h.2.2.1
    · unfold mj_nl md_add
      rw [mj_oA_c _ _ (by decide) (by decide)]
      exact h.2.2.2.1
    · unfold md_add
      rw [mj_oA_c _ _ (by decide) (by decide)]
      exact h.2.2.2.2 r hr
  have add5 : md_add (nI s) (nI g0) ch kn gr Z 0 5 = Z 0 5 := by
    unfold md_add
    rw [mj_oA_c _ _ (by decide) (by decide)]
    rfl
  have ad24 : md_add (nI s) (nI g0) ch kn gr Z 24 n = ch := by
    unfold md_add
    rw [mj_oA_c _ _ (by decide) (by decide), hn]
    show mj_u Z 24 (mj_np Z) ch 24 (mj_np Z) = ch
    rw [mj_u_at, if_pos ⟨rfl, rfl⟩]
  have ad40 : md_add (nI s) (nI g0) ch kn gr Z 40 n = kn := by
    unfold md_add
    rw [mj_oA_c _ _ (by decide) (by decide), hn]
    show mj_u Z 40 (mj_np Z) kn 40 (mj_np Z) = kn
    rw [mj_u_at, if_pos ⟨rfl, rfl⟩]
  have ad25 : md_add (nI s) (nI g0) ch kn gr Z 25 n = gr := by
    unfold md_add
    rw [mj_oA_c _ _ (by decide) (by decide), hn]
    show mj_u Z 25 (mj_np Z) gr 25 (mj_np Z) = gr
    rw [mj_u_at, if_pos ⟨rfl, rfl⟩]
  have ad20 : md_add (nI s) (nI g0) ch kn gr Z 20 0 = nI n + 1 := by
    unfold md_add
    rw [mj_oA_c _ _ (by decide) (by decide), ← e4]
    rfl
  have sub1 : nI n + 1 - 1 = nI n := by grind
  -- behind the law's own coming
  have w123 : ∀ X', mj_W 9 108 6 123 (mz_LE (nI s) (nI g0) z (8 * nI n)) [] (mz_j C (mz (md_add (nI s) (nI g0) ch kn gr Z) X')) 0 K := by
    intro X'
    have w158 : ∀ y : Int32, y = kn → mj_W 9 108 6 158 (mz_LE (nI s) (nI g0) z (8 * nI n)) [.int y, .int ch, .int (nI g0), .int (nI s), .ref 0] (mz_j C (mz (md_add (nI s) (nI g0) ch kn gr Z) X')) 0 K := by
      intro y hy
      rw [hy]
      refine t108_158 ?_
      simp only [mz_j81, mz_rP0 hn8, mz_wP0 hn8, eq_true (mz_vP0 hn8), mz_rP1 hn8, mz_wP1 hn8, eq_true (mz_vP1 hn8), mz_rP2 hn8, mz_wP2 hn8, eq_true (mz_vP2 hn8), mz_rP3 hn8, mz_wP3 hn8, eq_true (mz_vP3 hn8), mz_rP4 hn8, mz_wP4 hn8, eq_true (mz_vP4 hn8), mz_rP5 hn8, mz_wP5 hn8, eq_true (mz_vP5 hn8), mz_rP6 hn8, mz_wP6 hn8, eq_true (mz_vP6 hn8), mz_rP7 hn8, mz_wP7 hn8, eq_true (mz_vP7 hn8), true_and, ad25]
      refine ⟨by decide, ?_⟩
      rw [mz_v0]
      refine mk_enter hI (mz_jCL hc) (fun q => absurd ⟨vs, vg⟩ q) (fun _ q => absurd ?_ q) (fun _ _ q => absurd ?_ q) (fun _ _ _ M' hM => mz_jk ?_)
      · refine ⟨by rw [cs]; exact k2s, by rw [cg]; exact k2g, ?_, ?_⟩
        · rw [mj_lt, show (-1 : Int32).toInt = -1 by decide]; omega
        · rw [mj_lt, show (9 : Int32).toInt = 9 by decide]; omega
      · show mj_np Z < 120
        omega
      · rw [mz_bd hchb, mz_bd hknb] at hM
        refine t108_167 ?_
        simp only [mz_j85, mz_rS0, mz_wS0, mz_rS1, mz_wS1, mz_rS2, mz_wS2, mz_rS3, mz_wS3, mz_rS4, mz_wS4, mz_rS5, mz_wS5]
        rw [ad20, sub1, ← hn]
        refine ⟨fun q => absurd rfl q, fun _ => t108_180 ⟨by decide, ?_⟩⟩
        rw [mj_nb1]
        exact hK _ _ _ addH add5 hM
    have w143 : ∀ y : Int32, y = ch → mj_W 9 108 6 143 (mz_LE (nI s) (nI g0) z (8 * nI n)) [.int y, .int (nI g0), .int (nI s), .ref 0] (mz_j C (mz (md_add (nI s) (nI g0) ch kn gr Z) X')) 0 K := by
      intro y hy
      rw [hy]
      refine t108_143 ?_
      simp only [mz_j81, mz_rP0 hn8, mz_wP0 hn8, eq_true (mz_vP0 hn8), mz_rP1 hn8, mz_wP1 hn8, eq_true (mz_vP1 hn8), mz_rP2 hn8, mz_wP2 hn8, eq_true (mz_vP2 hn8), mz_rP3 hn8, mz_wP3 hn8, eq_true (mz_vP3 hn8), mz_rP4 hn8, mz_wP4 hn8, eq_true (mz_vP4 hn8), mz_rP5 hn8, mz_wP5 hn8, eq_true (mz_vP5 hn8), mz_rP6 hn8, mz_wP6 hn8, eq_true (mz_vP6 hn8), mz_rP7 hn8, mz_wP7 hn8, eq_true (mz_vP7 hn8), true_and, ad40]
      refine ⟨fun q => w158 0 ?_, fun q => w158 1 q.symm⟩
      exact ((mz_and2 _ hknb).mp q).symm
    refine t108_123 ?_
    simp only [mz_j81, mz_rP0 hn8, mz_wP0 hn8, eq_true (mz_vP0 hn8), mz_rP1 hn8, mz_wP1 hn8, eq_true (mz_vP1 hn8), mz_rP2 hn8, mz_wP2 hn8, eq_true (mz_vP2 hn8), mz_rP3 hn8, mz_wP3 hn8, eq_true (mz_vP3 hn8), mz_rP4 hn8, mz_wP4 hn8, eq_true (mz_vP4 hn8), mz_rP5 hn8, mz_wP5 hn8, eq_true (mz_vP5 hn8), mz_rP6 hn8, mz_wP6 hn8, eq_true (mz_vP6 hn8), mz_rP7 hn8, mz_wP7 hn8, eq_true (mz_vP7 hn8), true_and, ad24]
    refine ⟨fun q => w143 0 ?_, fun q => w143 1 q.symm⟩
    exact ((mz_and2 _ hchb).mp q).symm
  have w104 : ∀ y : Int32, y = w → mj_W 9 108 6 104 (mz_LE (nI s) (nI g0) z (8 * nI n)) [.int y, .int (8 * nI n + 6), .ref 81] (mz_j C (mz (mj_u (mj_u (mj_u (mj_u (mj_u Z 22 n (nI s)) 23 n (nI g0)) 24 n ch) 25 n gr) 40 n kn) X)) 0 K := by
    intro y hy
    rw [hy]
    refine t108_104 ?_
    simp only [mz_j81, mz_j85, mz_ju81, mz_ju85, mz_rP0 hn8, mz_wP0 hn8, eq_true (mz_vP0 hn8), mz_rP1 hn8, mz_wP1 hn8, eq_true (mz_vP1 hn8), mz_rP2 hn8, mz_wP2 hn8, eq_true (mz_vP2 hn8), mz_rP3 hn8, mz_wP3 hn8, eq_true (mz_vP3 hn8), mz_rP4 hn8, mz_wP4 hn8, eq_true (mz_vP4 hn8), mz_rP5 hn8, mz_wP5 hn8, eq_true (mz_vP5 hn8), mz_rP6 hn8, mz_wP6 hn8, eq_true (mz_vP6 hn8), mz_rP7 hn8, mz_wP7 hn8, eq_true (mz_vP7 hn8), mz_rS0, mz_wS0, mz_rS1, mz_wS1, mz_rS2, mz_wS2, mz_rS3, mz_wS3, mz_rS4, mz_wS4, mz_rS5, mz_wS5, true_and, mz_jv]
    refine ⟨by decide, ?_⟩
    have x1 : mj_u (mj_u (mj_u (mj_u (mj_u (mj_u (mj_u Z 22 n (nI s)) 23 n (nI g0)) 24 n ch) 25 n gr) 40 n kn) 27 n w) 20 0 (mj_u (mj_u (mj_u (mj_u (mj_u Z 22 n (nI s)) 23 n (nI g0)) 24 n ch) 25 n gr) 40 n kn 20 0 + 1) = mz_en n (nI s) (nI g0) ch kn gr w Z := rfl
    have x2 : mz_en n (nI s) (nI g0) ch kn gr w Z 20 0 - 1 = nI n := by
      show Z 20 0 + 1 - 1 = nI n
      rw [e4]; exact sub1
    rw [x1, x2]
    refine mz_come hI hB hn hn8 hs6 vg hchb hknb hgr1 (Or.inl k2s) hw (mz_jl ?_)
    exact w123 _
  have k12 : Z 2 g0 = 2 ∨ ¬ Z 2 g0 = 2 := by
    by_cases q : Z 2 g0 = 2
    · exact Or.inl q
    · exact Or.inr q
  have w49 : ∀ y : Int32, y = ch → mj_W 9 108 6 49 (mz_LE (nI s) (nI g0) z (8 * nI n)) [.int y, .int (8 * nI n + 3), .ref 81] (mz_j C (mz (mj_u (mj_u Z 22 n (nI s)) 23 n (nI g0)) X)) 0 K := by
    intro y hy
    rw [hy]
    refine t108_49 ?_
    simp only [mz_j81, mz_j83, mz_j85, mz_ju81, mz_rP0 hn8, mz_wP0 hn8, eq_true (mz_vP0 hn8), mz_rP1 hn8, mz_wP1 hn8, eq_true (mz_vP1 hn8), mz_rP2 hn8, mz_wP2 hn8, eq_true (mz_vP2 hn8), mz_rP3 hn8, mz_wP3 hn8, eq_true (mz_vP3 hn8), mz_rP4 hn8, mz_wP4 hn8, eq_true (mz_vP4 hn8), mz_rP5 hn8, mz_wP5 hn8, eq_true (mz_vP5 hn8), mz_rP6 hn8, mz_wP6 hn8, eq_true (mz_vP6 hn8), mz_rP7 hn8, mz_wP7 hn8, eq_true (mz_vP7 hn8), mz_rR0 hg, mz_wR0 hg, eq_true (mz_vR0 hg), mz_rR1 hg, mz_wR1 hg, eq_true (mz_vR1 hg), mz_rR2 hg, mz_wR2 hg, eq_true (mz_vR2 hg), mz_rR3 hg, mz_wR3 hg, eq_true (mz_vR3 hg), mz_rR4 hg, mz_wR4 hg, eq_true (mz_vR4 hg), mz_rS0, mz_wS0, mz_rS1, mz_wS1, mz_rS2, mz_wS2, mz_rS3, mz_wS3, mz_rS4, mz_wS4, mz_rS5, mz_wS5, true_and]
    rw [← hgr, ← hkn]
    have e2 : mj_u (mj_u (mj_u (mj_u (mj_u Z 22 n (nI s)) 23 n (nI g0)) 24 n ch) 25 n gr) 40 n kn 2 g0 = Z 2 g0 := rfl
    have e81 : mj_u (mj_u (mj_u (mj_u (mj_u Z 22 n (nI s)) 23 n (nI g0)) 24 n ch) 25 n gr) 40 n kn 8 1 = Z 8 1 := rfl
    have wy : Z 2 g0 = 2 → Z 8 1 = 0 → 1 = w := fun q1 q2 => by
      rw [hw]; unfold md_wt
      rw [cg, if_pos ⟨q1, q2⟩]
    have wn : ¬ (Z 2 g0 = 2 ∧ Z 8 1 = 0) → 0 = w := fun q => by
      rw [hw]; unfold md_wt
      rw [cg, if_neg q]
    refine ⟨fun q => t108_103 (w104 0 (wn (fun y => q y.1))), fun q => ⟨fun q2 => t108_103 (w104 0 (wn (fun y => q2 y.2))), fun q2 => w104 1 (wy q q2)⟩⟩
  simp only [mz_j81, mz_j85, mz_ju81, mz_rS0, mz_wS0, mz_rS1, mz_wS1, mz_rS2, mz_wS2, mz_rS3, mz_wS3, mz_rS4, mz_wS4, mz_rS5, mz_wS5, e4, mz_rP0 hn8, mz_wP0 hn8, eq_true (mz_vP0 hn8), mz_rP1 hn8, mz_wP1 hn8, eq_true (mz_vP1 hn8), mz_rP2 hn8, mz_wP2 hn8, eq_true (mz_vP2 hn8), mz_rP3 hn8, mz_wP3 hn8, eq_true (mz_vP3 hn8), mz_rP4 hn8, mz_wP4 hn8, eq_true (mz_vP4 hn8), mz_rP5 hn8, mz_wP5 hn8, eq_true (mz_vP5 hn8), mz_rP6 hn8, mz_wP6 hn8, eq_true (mz_vP6 hn8), mz_rP7 hn8, mz_wP7 hn8, eq_true (mz_vP7 hn8), true_and]
  refine ⟨fun q => w49 0 ?_, fun q => w49 1 ?_⟩
  · rw [hch, if_neg q]
  · rw [hch, if_pos q]
end LWO
