-- THE LAW'S METHODS, A: many, places, out, come, isAhead, isClear, to
/-- how large the law's station is, and what its calls keep -/
def mz_B (Z : mj_M) : Prop := mj_nr Z ≤ 6 ∧ mj_nl Z ≤ 5 ∧ mj_np Z ≤ 8 ∧ mj_nt Z ≤ 3 ∧ (∀ p, p < mj_np Z → -1 ≤ (Z 25 p).toInt) ∧ ∀ l, l < mj_nl Z → ¬ Z 19 l = 0 → Z 9 l = 3
theorem mz_B_pr {Z Z' : mj_M} (h : mj_pr mj_s1 Z' = mj_pr mj_s1 Z) (hB : mz_B Z) : mz_B Z' := by
  have h1 : mz_B (mj_pr mj_s1 Z') := by rw [h]; exact hB
  exact h1
section LWA
variable {Z X : mj_M} {K : mj_K} {p l r t : Nat}
theorem mz_p8 (hB : mz_B Z) (hp : p < mj_np Z) : p < 8 := Nat.lt_of_lt_of_le hp hB.2.2.1
theorem mz_l5 (hB : mz_B Z) (hp : l < mj_nl Z) : l < 5 := Nat.lt_of_lt_of_le hp hB.2.1
theorem mz_r6 (hB : mz_B Z) (hp : r < mj_nr Z) : r < 6 := Nat.lt_of_lt_of_le hp hB.1
theorem mz_t3 (hB : mz_B Z) (hp : t < mj_nt Z) : t < 3 := Nat.lt_of_lt_of_le hp hB.2.2.2.1
theorem mz_a0 (x : Int32) : x + 0 = x := by grind
theorem sp95 (h : mj_S Z) (hB : mz_B Z) {s : Int32} (hr : r < mj_nr Z) (hK : K 0 (nI (mj_ct Z r s)) (mz Z X)) : mj_Cm 95 1 [.ref 0, .ref 4, .int (nI r), .int s] (mz Z X) K := by
  refine e95 ?_
  refine mj_down (P := fun k => mj_W 1 95 1 6 [some (.ref 0), some (.ref 4), some (.int (nI r)), some (.int s), some (.int (nI (mj_cb (fun p => decide (Z 22 p = nI r ∧ Z 21 p = s)) k))), some (.int (nI k))] [] (mz Z X) 0 K) (mj_np Z) ?_ ?_
  · exact t95_6 ⟨fun _ => hK, fun c => absurd (mj_pe h rfl) c⟩
  · intro k hk ih
    have hk8 := mz_p8 hB hk
    have e : mj_cb (fun p => decide (Z 22 p = nI r ∧ Z 21 p = s)) (k + 1) = mj_cb (fun p => decide (Z 22 p = nI r ∧ Z 21 p = s)) k + (if decide (Z 22 k = nI r ∧ Z 21 k = s) = true then 1 else 0) := rfl
    rw [e, ← nI_1 k] at ih
    have no : ¬ (Z 22 k = nI r ∧ Z 21 k = s) → mj_W 1 95 1 44 [some (.ref 0), some (.ref 4), some (.int (nI r)), some (.int s), some (.int (nI (mj_cb (fun p => decide (Z 22 p = nI r ∧ Z 21 p = s)) k))), some (.int (nI k))] [.int (nI (mj_cb (fun p => decide (Z 22 p = nI r ∧ Z 21 p = s)) k))] (mz Z X) 0 K := by
      intro c
      rw [if_neg (fun z => c (of_decide_eq_true z)), Nat.add_zero] at ih
      refine t95_44 (t95_45 ?_)
      rw [mz_a0]
      exact ih
    refine t95_6 ⟨fun c => (mj_ps h hk c).elim, fun _ => ?_⟩
    simp only [mz_rP0 hk8, mz_wP0 hk8, eq_true (mz_vP0 hk8), mz_rP1 hk8, mz_wP1 hk8, eq_true (mz_vP1 hk8), mz_rP2 hk8, mz_wP2 hk8, eq_true (mz_vP2 hk8), mz_rP3 hk8, mz_wP3 hk8, eq_true (mz_vP3 hk8), mz_rP4 hk8, mz_wP4 hk8, eq_true (mz_vP4 hk8), mz_rP5 hk8, mz_wP5 hk8, eq_true (mz_vP5 hk8), mz_rP6 hk8, mz_wP6 hk8, eq_true (mz_vP6 hk8), mz_rP7 hk8, mz_wP7 hk8, eq_true (mz_vP7 hk8), mz_rS0, mz_wS0, mz_rS1, mz_wS1, mz_rS2, mz_wS2, mz_rS3, mz_wS3, mz_rS4, mz_wS4, mz_rS5, mz_wS5, true_and]
    refine ⟨fun c => no (fun z => c z.1), fun c => ⟨fun c2 => no (fun z => c2 z.2), fun c2 => t95_45 ?_⟩⟩
    rw [if_pos (decide_eq_true ⟨c, c2⟩), ← nI_1] at ih
    exact ih
/-- how many more a room holds, as the law counts -/
def mz_pl (Z : mj_M) (r : Nat) : Int32 := if Z 2 r = 0 then 99 else Z 3 r - nI (mj_ct Z r 0) - nI (mj_ct Z r 1)
theorem sp96 (h : mj_S Z) (hB : mz_B Z) (hr : r < mj_nr Z) (hK : K 0 (mz_pl Z r) (mz Z X)) : mj_Cm 96 2 [.ref 0, .ref 2, .ref 4, .int (nI r)] (mz Z X) K := by
  have hr6 := mz_r6 hB hr
  unfold mz_pl at hK
  refine e96 ?_
  simp only [mz_rR0 hr6, mz_wR0 hr6, eq_true (mz_vR0 hr6), mz_rR1 hr6, mz_wR1 hr6, eq_true (mz_vR1 hr6), mz_rR2 hr6, mz_wR2 hr6, eq_true (mz_vR2 hr6), mz_rR3 hr6, mz_wR3 hr6, eq_true (mz_vR3 hr6), mz_rR4 hr6, mz_wR4 hr6, eq_true (mz_vR4 hr6), mz_rS0, mz_wS0, mz_rS1, mz_wS1, mz_rS2, mz_wS2, mz_rS3, mz_wS3, mz_rS4, mz_wS4, mz_rS5, mz_wS5, true_and]
  refine ⟨fun c => ?_, fun c => ?_⟩
  · rw [if_neg c] at hK
    refine sp95 h hB hr (t96_27 ?_)
    exact sp95 h hB hr (t96_35 (t96_36 hK))
  · rw [if_pos c] at hK
    exact t96_36 hK
theorem mz_rm (h : mj_S Z) {x : Int32} (hx : vp_in x (mj_nr Z)) : ∃ r, x = nI r ∧ r < mj_nr Z ∧ x.toNatClampNeg = r := ⟨x.toNatClampNeg, (mj_vin hx).1, (mj_vin hx).2, rfl⟩
theorem sp97 (h : mj_S Z) (hB : mz_B Z) (hp : p < mj_np Z) (hr : vp_in (Z 22 p) (mj_nr Z)) (hK : K 0 0 (mz (mj_oA p Z) X)) : mj_Cm 97 1 [.ref 0, .ref 2, .int (nI p)] (mz Z X) K := by
  have hp8 := mz_p8 hB hp
  obtain ⟨r, er, hr2, ec⟩ := mz_rm h hr
  have hr6 := mz_r6 hB hr2
  unfold mj_oA at hK
  refine e97 ?_
  simp only [mz_rP0 hp8, mz_wP0 hp8, eq_true (mz_vP0 hp8), mz_rP1 hp8, mz_wP1 hp8, eq_true (mz_vP1 hp8), mz_rP2 hp8, mz_wP2 hp8, eq_true (mz_vP2 hp8), mz_rP3 hp8, mz_wP3 hp8, eq_true (mz_vP3 hp8), mz_rP4 hp8, mz_wP4 hp8, eq_true (mz_vP4 hp8), mz_rP5 hp8, mz_wP5 hp8, eq_true (mz_vP5 hp8), mz_rP6 hp8, mz_wP6 hp8, eq_true (mz_vP6 hp8), mz_rP7 hp8, mz_wP7 hp8, eq_true (mz_vP7 hp8), mz_rS0, mz_wS0, mz_rS1, mz_wS1, mz_rS2, mz_wS2, mz_rS3, mz_wS3, mz_rS4, mz_wS4, mz_rS5, mz_wS5, true_and]
  simp only [er, mz_rR0 hr6, mz_wR0 hr6, eq_true (mz_vR0 hr6), mz_rR1 hr6, mz_wR1 hr6, eq_true (mz_vR1 hr6), mz_rR2 hr6, mz_wR2 hr6, eq_true (mz_vR2 hr6), mz_rR3 hr6, mz_wR3 hr6, eq_true (mz_vR3 hr6), mz_rR4 hr6, mz_wR4 hr6, eq_true (mz_vR4 hr6), true_and]
  rw [ec] at hK
  rw [er] at hK
  refine ⟨fun c => ?_, fun c => ⟨fun c2 => ?_, fun c2 => ⟨fun c3 => ?_, fun c3 => ?_⟩⟩⟩
  · rw [if_neg (fun z => c z.1)] at hK
    exact hK
  · rw [if_neg (fun z => c2 z.2.1.symm)] at hK
    exact hK
  · rw [if_neg (fun z => c3 z.2.2)] at hK
    exact hK
  · rw [if_pos ⟨c, c2.symm, c3⟩] at hK
    exact hK
/-- one comes to a room -/
def mz_cm (p : Nat) (Z : mj_M) : mj_M := mj_u (mj_u (mj_u Z 21 p 0) 26 p (Z 0 5)) 5 (Z 22 p).toNatClampNeg (Z 5 (Z 22 p).toNatClampNeg + 1)
theorem mz_cm_pr (p : Nat) (Z : mj_M) : mj_pr mj_s1 (mz_cm p Z) = mj_pr mj_s1 Z := by
  unfold mz_cm
  rw [mj_pr_u rfl, mj_pr_u rfl, mj_pr_u rfl]
theorem sp98 (h : mj_S Z) (hB : mz_B Z) (hp : p < mj_np Z) (hr : vp_in (Z 22 p) (mj_nr Z)) (hK : K 0 0 (mz (mj_oA p (mz_cm p Z)) X)) : mj_Cm 98 2 [.ref 0, .ref 2, .ref 4, .int (nI p)] (mz Z X) K := by
  have hp8 := mz_p8 hB hp
  obtain ⟨r, er, hr2, ec⟩ := mz_rm h hr
  have hr6 := mz_r6 hB hr2
  have hpr := mz_cm_pr p Z
  have e22 : mj_u (mj_u Z 21 p 0) 26 p (Z 0 5) 22 p = nI r := er
  have e5 : mj_u (mj_u Z 21 p 0) 26 p (Z 0 5) 5 r = Z 5 r := rfl
  refine e98 ?_
  simp only [mz_rP0 hp8, mz_wP0 hp8, eq_true (mz_vP0 hp8), mz_rP1 hp8, mz_wP1 hp8, eq_true (mz_vP1 hp8), mz_rP2 hp8, mz_wP2 hp8, eq_true (mz_vP2 hp8), mz_rP3 hp8, mz_wP3 hp8, eq_true (mz_vP3 hp8), mz_rP4 hp8, mz_wP4 hp8, eq_true (mz_vP4 hp8), mz_rP5 hp8, mz_wP5 hp8, eq_true (mz_vP5 hp8), mz_rP6 hp8, mz_wP6 hp8, eq_true (mz_vP6 hp8), mz_rP7 hp8, mz_wP7 hp8, eq_true (mz_vP7 hp8), mz_rS0, mz_wS0, mz_rS1, mz_wS1, mz_rS2, mz_wS2, mz_rS3, mz_wS3, mz_rS4, mz_wS4, mz_rS5, mz_wS5, true_and]
  simp only [e22, er, mz_rR0 hr6, mz_wR0 hr6, eq_true (mz_vR0 hr6), mz_rR1 hr6, mz_wR1 hr6, eq_true (mz_vR1 hr6), mz_rR2 hr6, mz_wR2 hr6, eq_true (mz_vR2 hr6), mz_rR3 hr6, mz_wR3 hr6, eq_true (mz_vR3 hr6), mz_rR4 hr6, mz_wR4 hr6, eq_true (mz_vR4 hr6), true_and]
  have hn := mj_n_pr hpr
  have hK2 : K 0 0 (mz (mj_oA p (mz_cm p Z)) X) := hK
  have em : mj_u (mj_u (mj_u Z 21 p 0) 26 p (Z 0 5)) 5 r (Z 5 r + 1) = mz_cm p Z := by
    unfold mz_cm
    rw [ec]
  have em2 : mj_u (mj_u (mj_u Z 21 p 0) 26 p (Z 0 5)) 5 r (mj_u (mj_u Z 21 p 0) 26 p (Z 0 5) 5 r + 1) = mz_cm p Z := em
  first
    | rw [em2]
    | rw [em]
  refine sp97 (mj_S_pr hpr h) (mz_B_pr hpr hB) (by rw [hn.1]; exact hp) ?_ (t98_43 hK)
  rw [hn.2.1]
  exact hr
theorem sp100 (hB : mz_B Z) {a b : Nat} (hl : l < mj_nl Z) (ha : a < mj_np Z) (hb : b < mj_np Z) (hbit : mj_bit (Z 24 a) ∧ mj_bit (Z 24 b)) (hK : K 0 (mj_bi (mj_ah Z l a b)) (mz Z X)) : mj_Cm 100 1 [.ref 0, .ref 1, .int (nI a), .int (nI b), .int (nI l)] (mz Z X) K := by
  have ha8 := mz_p8 hB ha
  have hb8 := mz_p8 hB hb
  have hl5 := mz_l5 hB hl
  have yes : mj_ah Z l a b → K 0 (mj_nb 1) (mz Z X) := fun z => by rw [mj_nb1]; rw [mj_bi_t z] at hK; exact hK
  have no : ¬ mj_ah Z l a b → K 0 (mj_nb 0) (mz Z X) := fun z => by rw [mj_nb0]; rw [mj_bi_f z] at hK; exact hK
  have eq : ¬ (Z 9 l = 2 ∧ ¬ Z 24 a = Z 24 b) → mj_W 1 100 1 32 [some (.ref 0), some (.ref 1), some (.int (nI a)), some (.int (nI b)), some (.int (nI l)), none] [.int 0] (mz Z X) 0 K := by
    intro c
    have iff : mj_ah Z l a b ↔ (Z 26 a < Z 26 b ∨ (Z 26 a = Z 26 b ∧ a < b)) := ⟨fun z => z.elim (fun y => absurd ⟨y.1, y.2.1⟩ c) (fun y => y.2), fun z => Or.inr ⟨c, z⟩⟩
    refine t100_32 ⟨fun _ => ?_, fun z => absurd rfl z⟩
    simp only [mz_rP0 ha8, mz_wP0 ha8, eq_true (mz_vP0 ha8), mz_rP1 ha8, mz_wP1 ha8, eq_true (mz_vP1 ha8), mz_rP2 ha8, mz_wP2 ha8, eq_true (mz_vP2 ha8), mz_rP3 ha8, mz_wP3 ha8, eq_true (mz_vP3 ha8), mz_rP4 ha8, mz_wP4 ha8, eq_true (mz_vP4 ha8), mz_rP5 ha8, mz_wP5 ha8, eq_true (mz_vP5 ha8), mz_rP6 ha8, mz_wP6 ha8, eq_true (mz_vP6 ha8), mz_rP7 ha8, mz_wP7 ha8, eq_true (mz_vP7 ha8), mz_rP0 hb8, mz_wP0 hb8, eq_true (mz_vP0 hb8), mz_rP1 hb8, mz_wP1 hb8, eq_true (mz_vP1 hb8), mz_rP2 hb8, mz_wP2 hb8, eq_true (mz_vP2 hb8), mz_rP3 hb8, mz_wP3 hb8, eq_true (mz_vP3 hb8), mz_rP4 hb8, mz_wP4 hb8, eq_true (mz_vP4 hb8), mz_rP5 hb8, mz_wP5 hb8, eq_true (mz_vP5 hb8), mz_rP6 hb8, mz_wP6 hb8, eq_true (mz_vP6 hb8), mz_rP7 hb8, mz_wP7 hb8, eq_true (mz_vP7 hb8), true_and]
    refine ⟨fun c2 => ⟨fun c3 => t100_112 (no ?_), fun c3 => t100_112 (yes ?_)⟩, fun c2 => ⟨fun c3 => t100_112 (no ?_), fun c3 => t100_112 (yes ?_)⟩⟩
    · rw [iff]
      rw [nI_leI (by omega) (by omega)] at c3
      rintro (z | z)
      · rw [mj_lt, c2] at z; omega
      · omega
    · rw [iff]
      rw [nI_leI (by omega) (by omega)] at c3
      exact Or.inr ⟨c2, by omega⟩
    · rw [iff]
      rintro (z | z)
      · exact absurd z (Int32.not_lt.mpr c3)
      · exact c2 z.1
    · rw [iff]
      exact Or.inl (Int32.not_le.mp c3)
  refine e100 ?_
  simp only [mz_rL0 hl5, mz_wL0 hl5, eq_true (mz_vL0 hl5), mz_rL1 hl5, mz_wL1 hl5, eq_true (mz_vL1 hl5), mz_rL2 hl5, mz_wL2 hl5, eq_true (mz_vL2 hl5), mz_rL3 hl5, mz_wL3 hl5, eq_true (mz_vL3 hl5), mz_rL4 hl5, mz_wL4 hl5, eq_true (mz_vL4 hl5), mz_rL5 hl5, mz_wL5 hl5, eq_true (mz_vL5 hl5), mz_rL6 hl5, mz_wL6 hl5, eq_true (mz_vL6 hl5), mz_rL7 hl5, mz_wL7 hl5, eq_true (mz_vL7 hl5), mz_rL8 hl5, mz_wL8 hl5, eq_true (mz_vL8 hl5), mz_rL9 hl5, mz_wL9 hl5, eq_true (mz_vL9 hl5), mz_rL10 hl5, mz_wL10 hl5, eq_true (mz_vL10 hl5), mz_rP0 ha8, mz_wP0 ha8, eq_true (mz_vP0 ha8), mz_rP1 ha8, mz_wP1 ha8, eq_true (mz_vP1 ha8), mz_rP2 ha8, mz_wP2 ha8, eq_true (mz_vP2 ha8), mz_rP3 ha8, mz_wP3 ha8, eq_true (mz_vP3 ha8), mz_rP4 ha8, mz_wP4 ha8, eq_true (mz_vP4 ha8), mz_rP5 ha8, mz_wP5 ha8, eq_true (mz_vP5 ha8), mz_rP6 ha8, mz_wP6 ha8, eq_true (mz_vP6 ha8), mz_rP7 ha8, mz_wP7 ha8, eq_true (mz_vP7 ha8), mz_rP0 hb8, mz_wP0 hb8, eq_true (mz_vP0 hb8), mz_rP1 hb8, mz_wP1 hb8, eq_true (mz_vP1 hb8), mz_rP2 hb8, mz_wP2 hb8, eq_true (mz_vP2 hb8), mz_rP3 hb8, mz_wP3 hb8, eq_true (mz_vP3 hb8), mz_rP4 hb8, mz_wP4 hb8, eq_true (mz_vP4 hb8), mz_rP5 hb8, mz_wP5 hb8, eq_true (mz_vP5 hb8), mz_rP6 hb8, mz_wP6 hb8, eq_true (mz_vP6 hb8), mz_rP7 hb8, mz_wP7 hb8, eq_true (mz_vP7 hb8), true_and]
  refine ⟨fun c => eq (fun z => c z.1), fun c => ?_⟩
  by_cases c2 : Z 24 a = Z 24 b
  · have e0 : Z 24 b - Z 24 a = 0 := by rw [c2]; grind
    rw [e0]
    exact eq (fun z => z.2 c2)
  · have ne : ¬ Z 24 b - Z 24 a = 0 := fun z => c2 (by grind)
    refine t100_32 ⟨fun z => absurd z ne, fun _ => ?_⟩
    have iff : mj_ah Z l a b ↔ ¬ Z 24 a = 0 := ⟨fun z => z.elim (fun y => y.2.2) (fun y => absurd ⟨c, c2⟩ y.1), fun z => Or.inl ⟨c, c2, z⟩⟩
    rcases hbit with ⟨h1 | h1, h2 | h2⟩
    · exact absurd (h1.trans h2.symm) c2
    · refine ⟨fun _ => t100_112 (no (fun z => (iff.mp z) h1)), fun z => absurd ?_ z⟩
      rw [h1, h2]; decide
    · refine ⟨fun z => absurd z ?_, fun _ => t100_112 (yes (iff.mpr ?_))⟩
      · rw [h1, h2]; decide
      · rw [h1]; decide
    · exact absurd (h1.trans h2.symm) c2
/-- nobody is inside -/
def mz_cl (Z : mj_M) (k : Nat) : Prop := ∀ p, p < k → ¬ Z 21 p ≤ 1
theorem sp106 (h : mj_S Z) (hB : mz_B Z) (hK : K 0 (@ite _ (mz_cl Z (mj_np Z)) (Classical.propDecidable _) 1 0) (mz Z X)) : mj_Cm 106 1 [.ref 0, .ref 4] (mz Z X) K := by
  refine e106 ?_
  have e0 : (1 : Int32) = @ite _ (mz_cl Z 0) (Classical.propDecidable _) 1 0 := by
    rw [if_pos (show mz_cl Z 0 from fun p hp => absurd hp (Nat.not_lt_zero p))]
  have h0 := mj_down (P := fun k => mj_W 1 106 1 4 [some (.ref 0), some (.ref 4), some (.int (@ite _ (mz_cl Z k) (Classical.propDecidable _) 1 0)), some (.int (nI k))] [] (mz Z X) 0 K) (mj_np Z) ?_ ?_
  · have h0' : mj_W 1 106 1 4 [some (.ref 0), some (.ref 4), some (.int (@ite _ (mz_cl Z 0) (Classical.propDecidable _) 1 0)), some (.int (nI 0))] [] (mz Z X) 0 K := h0
    rw [← e0] at h0'
    exact h0'
  · refine t106_4 ⟨fun _ => ?_, fun c => absurd (mj_pe h rfl) c⟩
    by_cases c : mz_cl Z (mj_np Z)
    · rw [if_pos c] at hK ⊢
      rw [mj_nb1]; exact hK
    · rw [if_neg c] at hK ⊢
      rw [mj_nb0]; exact hK
  · intro k hk ih
    have hk8 := mz_p8 hB hk
    have suc : mz_cl Z (k + 1) ↔ mz_cl Z k ∧ ¬ Z 21 k ≤ 1 := by
      refine ⟨fun z => ⟨fun p hp => z p (by omega), z k (by omega)⟩, fun z p hp => ?_⟩
      by_cases e : p = k
      · rw [e]; exact z.2
      · exact z.1 p (by omega)
    rw [← nI_1 k] at ih
    refine t106_4 ⟨fun c => (mj_ps h hk c).elim, fun _ => ?_⟩
    simp only [mz_rP0 hk8, mz_wP0 hk8, eq_true (mz_vP0 hk8), mz_rP1 hk8, mz_wP1 hk8, eq_true (mz_vP1 hk8), mz_rP2 hk8, mz_wP2 hk8, eq_true (mz_vP2 hk8), mz_rP3 hk8, mz_wP3 hk8, eq_true (mz_vP3 hk8), mz_rP4 hk8, mz_wP4 hk8, eq_true (mz_vP4 hk8), mz_rP5 hk8, mz_wP5 hk8, eq_true (mz_vP5 hk8), mz_rP6 hk8, mz_wP6 hk8, eq_true (mz_vP6 hk8), mz_rP7 hk8, mz_wP7 hk8, eq_true (mz_vP7 hk8), mz_rS0, mz_wS0, mz_rS1, mz_wS1, mz_rS2, mz_wS2, mz_rS3, mz_wS3, mz_rS4, mz_wS4, mz_rS5, mz_wS5, true_and]
    refine ⟨fun c => t106_32 ?_, fun c => ⟨fun c2 => t106_32 ?_, fun c2 => t106_32 ?_⟩⟩
    · have n1 : ¬ mz_cl Z k := fun z => by rw [if_pos z] at c; exact absurd c (by decide)
      rw [if_neg (fun z => n1 (suc.mp z).1)] at ih
      exact ih
    · rw [if_neg (fun z => (suc.mp z).2 c2)] at ih
      exact ih
    · have n1 : mz_cl Z k := by
        by_cases z : mz_cl Z k
        · exact z
        · rw [if_neg z] at c; exact absurd rfl c
      rw [if_pos (suc.mpr ⟨n1, c2⟩)] at ih
      exact ih
end LWA
