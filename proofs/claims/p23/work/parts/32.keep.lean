-- what a second keeps
section KEEP
variable {Z Z' : mj_M}
theorem mj_S_R (h : mj_S Z) : mj_nr Z ≤ 10 := mj_nrle h.1
theorem mj_S_L (h : mj_S Z) : mj_nl Z ≤ 14 := mj_nlle h.1
theorem mj_S_P (h : mj_S Z) : mj_np Z ≤ 120 ∧ Z 20 0 = nI (mj_np Z) := by
  have := h.2.1
  refine ⟨?_, mj_toN this.1⟩
  unfold mj_np; rw [mj_clN]; omega
theorem mj_S_T (h : mj_S Z) : mj_nt Z ≤ 12 ∧ Z 28 0 = nI (mj_nt Z) := by
  have := h.2.2.1
  refine ⟨?_, mj_toN this.1⟩
  unfold mj_nt; rw [mj_clN]; omega
theorem mj_m0 (m : Nat) : (if (0 : Int32) = 0 then m else 0) = m := if_pos rfl
theorem mj_ring5 {a b c : Int32} (m : Int32) (h : a - b = c + m) : a - (b + m) = c := by grind
/-- they leave room r0 -/
theorem mj_Db_lv {S : Nat → Bool} {r0 : Nat} {s1 : Int32} (hR : mj_nr Z ≤ 10) (hr0 : r0 < mj_nr Z) (hpr : mj_pr mj_s1 Z' = mj_pr mj_s1 Z) (hb : mj_Db Z) (n1 : ¬ s1 = 0) (n2 : ¬ s1 = 1) (hS : ∀ p, p < mj_np Z → S p = true → Z 22 p = nI r0 ∧ Z 21 p = 0 ∧ Z' 22 p = nI r0 ∧ Z' 21 p = s1) (ho : ∀ p, p < mj_np Z → S p = false → Z' 22 p = Z 22 p ∧ Z' 21 p = Z 21 p) (h5 : Z' 5 = Z 5) (h4 : Z' 4 = Z 4) (h6 : ∀ r, Z' 6 r = if r = r0 then Z 6 r + nI (mj_cb S (mj_np Z)) else Z 6 r) : mj_Db Z' := by
  obtain ⟨e1, e2, -, -⟩ := mj_n_pr hpr
  intro r hr
  rw [e2] at hr
  obtain ⟨b1, b2, b3⟩ := hb r hr
  have c0 := mj_ct_mv (by omega) (by omega) e1 hS ho (show r < 10 by omega) 0
  have c1 := mj_ct_mv (by omega) (by omega) e1 hS ho (show r < 10 by omega) 1
  rw [if_neg (fun z : r = r0 ∧ (0 : Int32) = s1 => n1 z.2.symm)] at c0
  rw [if_neg (fun z : r = r0 ∧ (1 : Int32) = s1 => n2 z.2.symm), if_neg (fun z : r = r0 ∧ (1 : Int32) = 0 => absurd z.2 (by decide))] at c1
  rw [h5, h4, h6, mj_pr_at hpr (show mj_s1 2 = true from rfl), mj_pr_at hpr (show mj_s1 3 = true from rfl)]
  by_cases e : r = r0
  · rw [if_pos ⟨e, rfl⟩] at c0
    rw [if_pos e]
    refine ⟨mj_ring5 _ ?_, ?_, fun h => ?_⟩
    · rw [b1, nI_add]; congr 1; omega
    · rw [b2]; congr 1; omega
    · have := b3 h
      omega
  · rw [if_neg (fun z => e z.1)] at c0
    rw [if_neg e]
    refine ⟨?_, ?_, fun h => ?_⟩
    · rw [b1]; congr 1; omega
    · rw [b2]; congr 1; omega
    · have := b3 h
      omega
/-- one arrives at room r0 -/
theorem mj_Db_ar {S : Nat → Bool} {r0 : Nat} (hR : mj_nr Z ≤ 10) (hr0 : r0 < mj_nr Z) (hpr : mj_pr mj_s1 Z' = mj_pr mj_s1 Z) (hb : mj_Db Z) (hm : mj_cb S (mj_np Z) = 1) (hS : ∀ p, p < mj_np Z → S p = true → Z 22 p = nI r0 ∧ Z 21 p = 1 ∧ Z' 22 p = nI r0 ∧ Z' 21 p = 0) (ho : ∀ p, p < mj_np Z → S p = false → Z' 22 p = Z 22 p ∧ Z' 21 p = Z 21 p) (h6 : Z' 6 = Z 6) (h4 : ∀ r, Z' 4 r = if r = r0 then Z 4 r - 1 else Z 4 r) (h5 : ∀ r, Z' 5 r = if r = r0 then Z 5 r + 1 else Z 5 r) : mj_Db Z' := by
  obtain ⟨e1, e2, -, -⟩ := mj_n_pr hpr
  intro r hr
  rw [e2] at hr
  obtain ⟨b1, b2, b3⟩ := hb r hr
  have c0 := mj_ct_mv (by omega) (by omega) e1 hS ho (show r < 10 by omega) 0
  have c1 := mj_ct_mv (by omega) (by omega) e1 hS ho (show r < 10 by omega) 1
  rw [hm, if_neg (fun z : r = r0 ∧ (0 : Int32) = 1 => absurd z.2 (by decide))] at c0
  rw [hm, if_neg (fun z : r = r0 ∧ (1 : Int32) = 0 => absurd z.2 (by decide))] at c1
  rw [h5, h4, h6, mj_pr_at hpr (show mj_s1 2 = true from rfl), mj_pr_at hpr (show mj_s1 3 = true from rfl)]
  by_cases e : r = r0
  · rw [if_pos ⟨e, rfl⟩] at c0 c1
    rw [if_pos e, if_pos e]
    refine ⟨?_, ?_, fun h => ?_⟩
    · rw [mj_ring1, b1, nI_1]; congr 1; omega
    · rw [b2, show mj_ct Z r 1 = mj_ct Z' r 1 + 1 by omega, nI_pred]
    · have := b3 h
      omega
  · rw [if_neg (fun z => e z.1)] at c0 c1
    rw [if_neg e, if_neg e]
    refine ⟨?_, ?_, fun h => ?_⟩
    · rw [b1]; congr 1; omega
    · rw [b2]; congr 1; omega
    · have := b3 h
      omega
/-- they begin from room r0 to room r1 -/
theorem mj_Db_bg {S : Nat → Bool} {r0 r1 : Nat} (hR : mj_nr Z ≤ 10) (hr0 : r0 < mj_nr Z) (hr1 : r1 < mj_nr Z) (h01 : r0 ≠ r1) (hpr : mj_pr mj_s1 Z' = mj_pr mj_s1 Z) (hb : mj_Db Z) (hS : ∀ p, p < mj_np Z → S p = true → Z 22 p = nI r0 ∧ Z 21 p = 0 ∧ Z' 22 p = nI r1 ∧ Z' 21 p = 1) (ho : ∀ p, p < mj_np Z → S p = false → Z' 22 p = Z 22 p ∧ Z' 21 p = Z 21 p) (h5 : Z' 5 = Z 5) (h4 : ∀ r, Z' 4 r = if r = r1 then Z 4 r + nI (mj_cb S (mj_np Z)) else Z 4 r) (h6 : ∀ r, Z' 6 r = if r = r0 then Z 6 r + nI (mj_cb S (mj_np Z)) else Z 6 r) (hc : Z 2 r1 = 0 ∨ ((mj_ct Z r1 0 + mj_ct Z r1 1 + mj_cb S (mj_np Z) : Nat) : Int) ≤ (Z 3 r1).toInt) : mj_Db Z' := by
  obtain ⟨e1, e2, -, -⟩ := mj_n_pr hpr
  intro r hr
  rw [e2] at hr
  obtain ⟨b1, b2, b3⟩ := hb r hr
  have c0 := mj_ct_mv (by omega) (by omega) e1 hS ho (show r < 10 by omega) 0
  have c1 := mj_ct_mv (by omega) (by omega) e1 hS ho (show r < 10 by omega) 1
  rw [if_neg (fun z : r = r1 ∧ (0 : Int32) = 1 => absurd z.2 (by decide))] at c0
  rw [if_neg (fun z : r = r0 ∧ (1 : Int32) = 0 => absurd z.2 (by decide))] at c1
  rw [h5, h4, h6, mj_pr_at hpr (show mj_s1 2 = true from rfl), mj_pr_at hpr (show mj_s1 3 = true from rfl)]
  by_cases e : r = r0
  · have ne : ¬ r = r1 := by omega
    rw [if_pos ⟨e, rfl⟩] at c0
    rw [if_neg (fun z => ne z.1)] at c1
    rw [if_pos e, if_neg ne]
    refine ⟨mj_ring5 _ ?_, ?_, fun h => ?_⟩
    · rw [b1, nI_add]; congr 1; omega
    · rw [b2]; congr 1; omega
    · have := b3 h
      omega
  · rw [if_neg (fun z => e z.1)] at c0
    rw [if_neg e]
    by_cases f : r = r1
    · rw [if_pos ⟨f, rfl⟩] at c1
      rw [if_pos f]
      refine ⟨?_, ?_, fun h => ?_⟩
      · rw [b1]; congr 1; omega
      · rw [b2, nI_add]; congr 1; omega
      · subst f
        rcases hc with hc | hc
        · exact absurd hc h
        · omega
    · rw [if_neg (fun z => f z.1)] at c1
      rw [if_neg f]
      refine ⟨?_, ?_, fun h => ?_⟩
      · rw [b1]; congr 1; omega
      · rw [b2]; congr 1; omega
      · have := b3 h
        omega
-- out
theorem mj_oA_pr (p : Nat) (Z : mj_M) : mj_pr mj_s1 (mj_oA p Z) = mj_pr mj_s1 Z := by
  unfold mj_oA
  split
  · rw [mj_pr_u rfl, mj_pr_u rfl]
  · rfl
theorem mj_oA_c (p : Nat) (Z : mj_M) {c : Nat} (h1 : c ≠ 21) (h2 : c ≠ 6) : mj_oA p Z c = Z c := by
  unfold mj_oA
  split
  · rw [mj_u_ne _ _ _ h2, mj_u_ne _ _ _ h1]
  · rfl
theorem mj_oA_q (p : Nat) (Z : mj_M) {q : Nat} (h : q ≠ p) : mj_oA p Z 21 q = Z 21 q := by
  unfold mj_oA
  split
  · rw [mj_u_at, mj_u_at, if_neg (by omega), if_neg (by omega)]
  · rfl
theorem mj_st_ok {Z : mj_M} (hS : mj_S Z) {p : Nat} (hp : p < mj_np Z) (ha : mj_Da Z) : Z 22 p = nI (Z 22 p).toNatClampNeg ∧ (Z 22 p).toNatClampNeg < mj_nr Z := mj_vin (ha p hp).2.1
theorem mj_oA_Iv {p : Nat} (h : mj_Iv Z) (hp : p < mj_np Z) : mj_Iv (mj_oA p Z) := by
  have hpr := mj_oA_pr p Z
  obtain ⟨e1, e2, e3, e4⟩ := mj_n_pr hpr
  refine ⟨mj_S_pr hpr h.s, fun q hq => ?_, ?_, fun r hr => ?_, fun t ht => ?_, ?_⟩
  · rw [e1] at hq
    rw [mj_oA_c _ _ (show 22 ≠ 21 by decide) (by decide), mj_oA_c _ _ (show 40 ≠ 21 by decide) (by decide), mj_oA_c _ _ (show 26 ≠ 21 by decide) (by decide), mj_oA_c _ _ (show 0 ≠ 21 by decide) (by decide), e2]
    refine ⟨?_, (h.a q hq).2⟩
    unfold mj_oA
    split
    · rw [mj_u_at, if_neg (by omega), mj_u_at]
      split
      · exact Or.inr (Or.inr (Or.inr rfl))
      · exact (h.a q hq).1
    · exact (h.a q hq).1
  · unfold mj_oA
    split
    · rename_i c
      obtain ⟨r1, r2⟩ := mj_st_ok h.s hp h.a
      have hm := mj_cb_1 (mj_np Z) hp
      refine mj_Db_lv (S := fun q => decide (q = p)) (r0 := (Z 22 p).toNatClampNeg) (s1 := 3) (mj_S_R h.s) r2 ?_ h.b (by decide) (by decide) (fun q hq hs => ?_) (fun q hq hs => ?_) rfl rfl (fun r => ?_)
      · rw [mj_pr_u rfl, mj_pr_u rfl]
      · have e := of_decide_eq_true hs
        subst e
        refine ⟨r1, c.1, r1, ?_⟩
        rw [mj_u_at, if_neg (by omega), mj_u_at, if_pos ⟨rfl, rfl⟩]
      · have e := of_decide_eq_false hs
        refine ⟨rfl, ?_⟩
        rw [mj_u_at, if_neg (by omega), mj_u_at, if_neg (fun z => e z.2)]
      · rw [hm, mj_u_at]
        by_cases e : r = (Z 22 p).toNatClampNeg
        · rw [if_pos ⟨rfl, e⟩, if_pos e, e]; rfl
        · rw [if_neg (fun z => e z.2), if_neg e]; rfl
    · exact h.b
  · rw [e2] at hr
    rw [mj_oA_c _ _ (show 7 ≠ 21 by decide) (by decide), mj_oA_c _ _ (show 2 ≠ 21 by decide) (by decide)]
    exact h.c r hr
  · rw [e4] at ht
    rw [mj_oA_c _ _ (show 33 ≠ 21 by decide) (by decide), mj_oA_c _ _ (show 30 ≠ 21 by decide) (by decide)]
    exact h.d t ht
  · unfold mj_De
    rw [mj_oA_c _ _ (show 0 ≠ 21 by decide) (by decide)]
    exact h.e
-- arriving
theorem mj_a0_pr (p : Nat) (Z : mj_M) : mj_pr mj_s1 (mj_a0 p Z) = mj_pr mj_s1 Z := by
  unfold mj_a0
  rw [mj_pr_u rfl, mj_pr_u rfl, mj_pr_u rfl]
theorem mj_a0_Iv {p : Nat} (h : mj_Iv Z) (hp : p < mj_np Z) (c : Z 21 p = 1) : mj_Iv (mj_a0 p Z) := by
  have hpr := mj_a0_pr p Z
  obtain ⟨e1, e2, e3, e4⟩ := mj_n_pr hpr
  obtain ⟨r1, r2⟩ := mj_st_ok h.s hp h.a
  refine ⟨mj_S_pr hpr h.s, fun q hq => ?_, ?_, fun r hr => ?_, fun t ht => ?_, h.e⟩
  · rw [e1] at hq
    rw [e2]
    refine ⟨?_, (h.a q hq).2⟩
    show mj_u Z 21 p 0 21 q = 0 ∨ mj_u Z 21 p 0 21 q = 1 ∨ mj_u Z 21 p 0 21 q = 2 ∨ mj_u Z 21 p 0 21 q = 3
    rw [mj_u_at]
    split
    · exact Or.inl rfl
    · exact (h.a q hq).1
  · refine mj_Db_ar (S := fun q => decide (q = p)) (r0 := (Z 22 p).toNatClampNeg) (mj_S_R h.s) r2 hpr h.b (mj_cb_1 _ hp) (fun q hq hs => ?_) (fun q hq hs => ?_) rfl (fun r => ?_) (fun r => ?_)
    · have e := of_decide_eq_true hs
      subst e
      refine ⟨r1, c, r1, ?_⟩
      show mj_u Z 21 q 0 21 q = 0
      rw [mj_u_at, if_pos ⟨rfl, rfl⟩]
    · have e := of_decide_eq_false hs
      refine ⟨rfl, ?_⟩
      show mj_u Z 21 p 0 21 q = Z 21 q
      rw [mj_u_at, if_neg (fun z => e z.2)]
    · show mj_u (mj_u Z 21 p 0) 4 (Z 22 p).toNatClampNeg (Z 4 (Z 22 p).toNatClampNeg - 1) 4 r = _
      rw [mj_u_at]
      by_cases e : r = (Z 22 p).toNatClampNeg
      · rw [if_pos ⟨rfl, e⟩, if_pos e, e]
      · rw [if_neg (fun z => e z.2), if_neg e]; rfl
    · unfold mj_a0
      rw [mj_u_at]
      by_cases e : r = (Z 22 p).toNatClampNeg
      · rw [if_pos ⟨rfl, e⟩, if_pos e, e]
      · rw [if_neg (fun z => e z.2), if_neg e]; rfl
  · rw [e2] at hr
    exact h.c r hr
  · rw [e4] at ht
    exact h.d t ht
theorem mj_a1_pr (p : Nat) (Z : mj_M) : mj_pr mj_s1 (mj_a1 p Z) = mj_pr mj_s1 Z := by
  unfold mj_a1
  split
  · rw [mj_oA_pr, mj_a0_pr]
  · rfl
theorem mj_a1_Iv {p : Nat} (h : mj_Iv Z) (hp : p < mj_np Z) : mj_Iv (mj_a1 p Z) := by
  unfold mj_a1
  split
  · rename_i c
    refine mj_oA_Iv (mj_a0_Iv h hp c.1) ?_
    rw [(mj_n_pr (mj_a0_pr p Z)).1]
    exact hp
  · exact h
end KEEP
