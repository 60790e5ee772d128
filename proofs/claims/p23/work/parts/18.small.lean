-- small methods of a station that only look: what they answer
theorem t0_0 {M : mj_M} {K : mj_K} {x1 : Int32} (h : (x1 < 0 → K 0 0 M) ∧ (¬ x1 < 0 → (M 1 0 ≤ x1 → K 0 0 M) ∧ (¬ M 1 0 ≤ x1 → K 0 1 M))) : mj_W 0 0 1 0 [some (.ref 1), some (.int x1)] [] M 0 K := by
  refine b0_0 ?_
  refine ⟨fun c1 => ?_, fun c1 => ?_⟩
  · have h1a := h.1 c1
    refine b0_16 ?_
    refine b0_17 ?_
    rw [mj_nb0]
    exact h1a
  · have h1a := h.2 c1
    refine b0_4 ?_
    refine ⟨fun c2 => ?_, fun c2 => ?_⟩
    · have h2a := h1a.1 c2
      refine b0_16 ?_
      refine b0_17 ?_
      rw [mj_nb0]
      exact h2a
    · have h2a := h1a.2 c2
      refine b0_12 ?_
      refine b0_17 ?_
      rw [mj_nb1]
      exact h2a
theorem e0 {M : mj_M} {K : mj_K} {x1 : Int32} (h : (x1 < 0 → K 0 0 M) ∧ (¬ x1 < 0 → (M 1 0 ≤ x1 → K 0 0 M) ∧ (¬ M 1 0 ≤ x1 → K 0 1 M))) : mj_Cm 0 1 [.ref 1, .int x1] M K := mj_en rfl rfl rfl (t0_0 h)
abbrev p0 (M : mj_M) (x1 : Int32) : Prop := (¬ x1 < 0 ∧ (¬ M 1 0 ≤ x1))
theorem sp0 {M : mj_M} {K : mj_K} {x1 : Int32}  (h : K 0 (mj_bi (p0 M x1)) M) : mj_Cm 0 1 [.ref 1, .int x1] M K := by
  refine e0 ?_
  refine ⟨fun c1 => ?_, fun c1 => ?_⟩
  · exact (show (mj_bi (p0 M x1)) = 0 from mj_bi_f (show ¬ p0 M x1 from by unfold p0; simp only [eq_true c1, not_true, not_false_eq_true, and_self, and_true, true_and, and_false, false_and, or_true, true_or, or_false, false_or, or_self])) ▸ h
  · refine ⟨fun c2 => ?_, fun c2 => ?_⟩
    · exact (show (mj_bi (p0 M x1)) = 0 from mj_bi_f (show ¬ p0 M x1 from by unfold p0; simp only [eq_false c1, eq_true c2, not_true, not_false_eq_true, and_self, and_true, true_and, and_false, false_and, or_true, true_or, or_false, false_or, or_self])) ▸ h
    · exact (show (mj_bi (p0 M x1)) = 1 from mj_bi_t (show p0 M x1 from by unfold p0; simp only [eq_false c1, eq_false c2, not_true, not_false_eq_true, and_self, and_true, true_and, and_false, false_and, or_true, true_or, or_false, false_or, or_self])) ▸ h

theorem t7_0 {M : mj_M} {K : mj_K} {x1 : Int32} (h : (x1 < 0 → K 0 0 M) ∧ (¬ x1 < 0 → (M 8 0 ≤ x1 → K 0 0 M) ∧ (¬ M 8 0 ≤ x1 → K 0 1 M))) : mj_W 0 7 1 0 [some (.ref 8), some (.int x1)] [] M 0 K := by
  refine b7_0 ?_
  refine ⟨fun c1 => ?_, fun c1 => ?_⟩
  · have h1a := h.1 c1
    refine b7_16 ?_
    refine b7_17 ?_
    rw [mj_nb0]
    exact h1a
  · have h1a := h.2 c1
    refine b7_4 ?_
    refine ⟨fun c2 => ?_, fun c2 => ?_⟩
    · have h2a := h1a.1 c2
      refine b7_16 ?_
      refine b7_17 ?_
      rw [mj_nb0]
      exact h2a
    · have h2a := h1a.2 c2
      refine b7_12 ?_
      refine b7_17 ?_
      rw [mj_nb1]
      exact h2a
theorem e7 {M : mj_M} {K : mj_K} {x1 : Int32} (h : (x1 < 0 → K 0 0 M) ∧ (¬ x1 < 0 → (M 8 0 ≤ x1 → K 0 0 M) ∧ (¬ M 8 0 ≤ x1 → K 0 1 M))) : mj_Cm 7 1 [.ref 8, .int x1] M K := mj_en rfl rfl rfl (t7_0 h)
abbrev p7 (M : mj_M) (x1 : Int32) : Prop := (¬ x1 < 0 ∧ (¬ M 8 0 ≤ x1))
theorem sp7 {M : mj_M} {K : mj_K} {x1 : Int32}  (h : K 0 (mj_bi (p7 M x1)) M) : mj_Cm 7 1 [.ref 8, .int x1] M K := by
  refine e7 ?_
  refine ⟨fun c1 => ?_, fun c1 => ?_⟩
  · exact (show (mj_bi (p7 M x1)) = 0 from mj_bi_f (show ¬ p7 M x1 from by unfold p7; simp only [eq_true c1, not_true, not_false_eq_true, and_self, and_true, true_and, and_false, false_and, or_true, true_or, or_false, false_or, or_self])) ▸ h
  · refine ⟨fun c2 => ?_, fun c2 => ?_⟩
    · exact (show (mj_bi (p7 M x1)) = 0 from mj_bi_f (show ¬ p7 M x1 from by unfold p7; simp only [eq_false c1, eq_true c2, not_true, not_false_eq_true, and_self, and_true, true_and, and_false, false_and, or_true, true_or, or_false, false_or, or_self])) ▸ h
    · exact (show (mj_bi (p7 M x1)) = 1 from mj_bi_t (show p7 M x1 from by unfold p7; simp only [eq_false c1, eq_false c2, not_true, not_false_eq_true, and_self, and_true, true_and, and_false, false_and, or_true, true_or, or_false, false_or, or_self])) ▸ h

theorem t18_0 {M : mj_M} {K : mj_K} {x1 : Int32} (h : (x1 < 0 → K 0 0 M) ∧ (¬ x1 < 0 → (M 20 0 ≤ x1 → K 0 0 M) ∧ (¬ M 20 0 ≤ x1 → K 0 1 M))) : mj_W 0 18 1 0 [some (.ref 20), some (.int x1)] [] M 0 K := by
  refine b18_0 ?_
  refine ⟨fun c1 => ?_, fun c1 => ?_⟩
  · have h1a := h.1 c1
    refine b18_16 ?_
    refine b18_17 ?_
    rw [mj_nb0]
    exact h1a
  · have h1a := h.2 c1
    refine b18_4 ?_
    refine ⟨fun c2 => ?_, fun c2 => ?_⟩
    · have h2a := h1a.1 c2
      refine b18_16 ?_
      refine b18_17 ?_
      rw [mj_nb0]
      exact h2a
    · have h2a := h1a.2 c2
      refine b18_12 ?_
      refine b18_17 ?_
      rw [mj_nb1]
      exact h2a
theorem e18 {M : mj_M} {K : mj_K} {x1 : Int32} (h : (x1 < 0 → K 0 0 M) ∧ (¬ x1 < 0 → (M 20 0 ≤ x1 → K 0 0 M) ∧ (¬ M 20 0 ≤ x1 → K 0 1 M))) : mj_Cm 18 1 [.ref 20, .int x1] M K := mj_en rfl rfl rfl (t18_0 h)
abbrev p18 (M : mj_M) (x1 : Int32) : Prop := (¬ x1 < 0 ∧ (¬ M 20 0 ≤ x1))
theorem sp18 {M : mj_M} {K : mj_K} {x1 : Int32}  (h : K 0 (mj_bi (p18 M x1)) M) : mj_Cm 18 1 [.ref 20, .int x1] M K := by
  refine e18 ?_
  refine ⟨fun c1 => ?_, fun c1 => ?_⟩
  · exact (show (mj_bi (p18 M x1)) = 0 from mj_bi_f (show ¬ p18 M x1 from by unfold p18; simp only [eq_true c1, not_true, not_false_eq_true, and_self, and_true, true_and, and_false, false_and, or_true, true_or, or_false, false_or, or_self])) ▸ h
  · refine ⟨fun c2 => ?_, fun c2 => ?_⟩
    · exact (show (mj_bi (p18 M x1)) = 0 from mj_bi_f (show ¬ p18 M x1 from by unfold p18; simp only [eq_false c1, eq_true c2, not_true, not_false_eq_true, and_self, and_true, true_and, and_false, false_and, or_true, true_or, or_false, false_or, or_self])) ▸ h
    · exact (show (mj_bi (p18 M x1)) = 1 from mj_bi_t (show p18 M x1 from by unfold p18; simp only [eq_false c1, eq_false c2, not_true, not_false_eq_true, and_self, and_true, true_and, and_false, false_and, or_true, true_or, or_false, false_or, or_self])) ▸ h

theorem t27_0 {M : mj_M} {K : mj_K} {x1 : Int32} (h : (x1 < 0 → K 0 0 M) ∧ (¬ x1 < 0 → (M 28 0 ≤ x1 → K 0 0 M) ∧ (¬ M 28 0 ≤ x1 → K 0 1 M))) : mj_W 0 27 1 0 [some (.ref 28), some (.int x1)] [] M 0 K := by
  refine b27_0 ?_
  refine ⟨fun c1 => ?_, fun c1 => ?_⟩
  · have h1a := h.1 c1
    refine b27_16 ?_
    refine b27_17 ?_
    rw [mj_nb0]
    exact h1a
  · have h1a := h.2 c1
    refine b27_4 ?_
    refine ⟨fun c2 => ?_, fun c2 => ?_⟩
    · have h2a := h1a.1 c2
      refine b27_16 ?_
      refine b27_17 ?_
      rw [mj_nb0]
      exact h2a
    · have h2a := h1a.2 c2
      refine b27_12 ?_
      refine b27_17 ?_
      rw [mj_nb1]
      exact h2a
theorem e27 {M : mj_M} {K : mj_K} {x1 : Int32} (h : (x1 < 0 → K 0 0 M) ∧ (¬ x1 < 0 → (M 28 0 ≤ x1 → K 0 0 M) ∧ (¬ M 28 0 ≤ x1 → K 0 1 M))) : mj_Cm 27 1 [.ref 28, .int x1] M K := mj_en rfl rfl rfl (t27_0 h)
abbrev p27 (M : mj_M) (x1 : Int32) : Prop := (¬ x1 < 0 ∧ (¬ M 28 0 ≤ x1))
theorem sp27 {M : mj_M} {K : mj_K} {x1 : Int32}  (h : K 0 (mj_bi (p27 M x1)) M) : mj_Cm 27 1 [.ref 28, .int x1] M K := by
  refine e27 ?_
  refine ⟨fun c1 => ?_, fun c1 => ?_⟩
  · exact (show (mj_bi (p27 M x1)) = 0 from mj_bi_f (show ¬ p27 M x1 from by unfold p27; simp only [eq_true c1, not_true, not_false_eq_true, and_self, and_true, true_and, and_false, false_and, or_true, true_or, or_false, false_or, or_self])) ▸ h
  · refine ⟨fun c2 => ?_, fun c2 => ?_⟩
    · exact (show (mj_bi (p27 M x1)) = 0 from mj_bi_f (show ¬ p27 M x1 from by unfold p27; simp only [eq_false c1, eq_true c2, not_true, not_false_eq_true, and_self, and_true, true_and, and_false, false_and, or_true, true_or, or_false, false_or, or_self])) ▸ h
    · exact (show (mj_bi (p27 M x1)) = 1 from mj_bi_t (show p27 M x1 from by unfold p27; simp only [eq_false c1, eq_false c2, not_true, not_false_eq_true, and_self, and_true, true_and, and_false, false_and, or_true, true_or, or_false, false_or, or_self])) ▸ h

theorem t2_0 {M : mj_M} {K : mj_K} {x1 : Int32} (h : (¬ (p0 M x1) → K 0 0 M) ∧ ((p0 M x1) → vp_in x1 10 ∧ ((¬ M 2 x1.toNatClampNeg = 0 → K 0 0 M) ∧ (M 2 x1.toNatClampNeg = 0 → K 0 1 M)))) : mj_W 0 2 2 0 [some (.ref 1), some (.int x1)] [] M 0 K := by
  refine b2_0 ?_
  refine sp0  ?_
  refine b2_5 ?_
  refine ⟨fun c1 => ?_, fun c1 => ?_⟩
  · have h1a := h.1 (mj_bi0.mp c1)
    refine b2_21 ?_
    refine b2_22 ?_
    rw [mj_nb0]
    exact h1a
  · have h1a := h.2 (mj_bi1.mp c1)
    refine b2_8 ?_
    have g2 := h1a.1
    refine ⟨g2, ?_⟩
    have h2 := h1a.2
    refine ⟨fun c3 => ?_, fun c3 => ?_⟩
    · have h3a := h2.1 c3
      refine b2_21 ?_
      refine b2_22 ?_
      rw [mj_nb0]
      exact h3a
    · have h3a := h2.2 c3
      refine b2_17 ?_
      refine b2_22 ?_
      rw [mj_nb1]
      exact h3a
theorem e2 {M : mj_M} {K : mj_K} {x1 : Int32} (h : (¬ (p0 M x1) → K 0 0 M) ∧ ((p0 M x1) → vp_in x1 10 ∧ ((¬ M 2 x1.toNatClampNeg = 0 → K 0 0 M) ∧ (M 2 x1.toNatClampNeg = 0 → K 0 1 M)))) : mj_Cm 2 2 [.ref 1, .int x1] M K := mj_en rfl rfl rfl (t2_0 h)
abbrev p2 (M : mj_M) (x1 : Int32) : Prop := ((p0 M x1) ∧ (M 2 x1.toNatClampNeg = 0))
theorem sp2 {M : mj_M} {K : mj_K} {x1 : Int32} (q0 : (M 1 0).toInt ≤ ((10 : Nat) : Int)) (h : K 0 (mj_bi (p2 M x1)) M) : mj_Cm 2 2 [.ref 1, .int x1] M K := by
  refine e2 ?_
  refine ⟨fun c1 => ?_, fun c1 => ?_⟩
  · exact (show (mj_bi (p2 M x1)) = 0 from mj_bi_f (show ¬ p2 M x1 from by unfold p2; simp only [eq_false c1, not_true, not_false_eq_true, and_self, and_true, true_and, and_false, false_and, or_true, true_or, or_false, false_or, or_self])) ▸ h
  · refine ⟨by first | assumption | exact mj_ix2 (by assumption) (by assumption) (by assumption) | exact mj_ix2 c1.1 c1.2 (by assumption) | exact mj_ix2 c1.1.1 c1.1.2 (by assumption), ?_⟩
    refine ⟨fun c2 => ?_, fun c2 => ?_⟩
    · exact (show (mj_bi (p2 M x1)) = 0 from mj_bi_f (show ¬ p2 M x1 from by unfold p2; simp only [eq_true c1, eq_false c2, not_true, not_false_eq_true, and_self, and_true, true_and, and_false, false_and, or_true, true_or, or_false, false_or, or_self])) ▸ h
    · exact (show (mj_bi (p2 M x1)) = 1 from mj_bi_t (show p2 M x1 from by unfold p2; simp only [eq_true c1, eq_true c2, not_true, not_false_eq_true, and_self, and_true, true_and, and_false, false_and, or_true, true_or, or_false, false_or, or_self])) ▸ h

theorem t3_0 {M : mj_M} {K : mj_K} {x1 : Int32} (h : (¬ (p0 M x1) → K 0 0 M) ∧ ((p0 M x1) → vp_in x1 10 ∧ K 0 (M 5 x1.toNatClampNeg - M 6 x1.toNatClampNeg) M)) : mj_W 0 3 2 0 [some (.ref 1), some (.int x1)] [] M 0 K := by
  refine b3_0 ?_
  refine sp0  ?_
  refine b3_5 ?_
  refine ⟨fun c1 => ?_, fun c1 => ?_⟩
  · have h1a := h.1 (mj_bi0.mp c1)
    refine b3_24 ?_
    refine b3_25 ?_
    exact h1a
  · have h1a := h.2 (mj_bi1.mp c1)
    refine b3_8 ?_
    have g2 := h1a.1
    refine ⟨g2, ?_⟩
    have h2 := h1a.2
    refine b3_25 ?_
    exact h2
theorem e3 {M : mj_M} {K : mj_K} {x1 : Int32} (h : (¬ (p0 M x1) → K 0 0 M) ∧ ((p0 M x1) → vp_in x1 10 ∧ K 0 (M 5 x1.toNatClampNeg - M 6 x1.toNatClampNeg) M)) : mj_Cm 3 2 [.ref 1, .int x1] M K := mj_en rfl rfl rfl (t3_0 h)
def f3 (M : mj_M) (x1 : Int32) : Int32 := if (p0 M x1) then M 5 x1.toNatClampNeg - M 6 x1.toNatClampNeg else 0
theorem sp3 {M : mj_M} {K : mj_K} {x1 : Int32} (q0 : (M 1 0).toInt ≤ ((10 : Nat) : Int)) (h : K 0 (f3 M x1) M) : mj_Cm 3 2 [.ref 1, .int x1] M K := by
  refine e3 ?_
  refine ⟨fun c1 => ?_, fun c1 => ?_⟩
  · exact (show f3 M x1 = 0 from by unfold f3; rw [if_neg c1]) ▸ h
  · refine ⟨by first | assumption | exact mj_ix2 (by assumption) (by assumption) (by assumption) | exact mj_ix2 c1.1 c1.2 (by assumption) | exact mj_ix2 c1.1.1 c1.1.2 (by assumption), ?_⟩
    exact (show f3 M x1 = M 5 x1.toNatClampNeg - M 6 x1.toNatClampNeg from by unfold f3; rw [if_pos c1]) ▸ h

theorem t10_0 {M : mj_M} {K : mj_K} {x1 : Int32} (h : ((p7 M x1) → vp_in x1 14 ∧ ((M 19 x1.toNatClampNeg = 0 → K 0 (M 13 x1.toNatClampNeg) M) ∧ (¬ M 19 x1.toNatClampNeg = 0 → K 0 ((M 13 x1.toNatClampNeg + 1) / 2) M))) ∧ (¬ (p7 M x1) → K 0 0 M)) : mj_W 0 10 2 0 [some (.ref 8), some (.int x1)] [] M 0 K := by
  refine b10_0 ?_
  refine sp7  ?_
  refine b10_5 ?_
  refine ⟨fun c1 => ?_, fun c1 => ?_⟩
  · have h1a := h.1 (mj_bi1.mp c1)
    refine b10_10 ?_
    have g2 := h1a.1
    refine ⟨g2, ?_⟩
    have h2 := h1a.2
    refine ⟨fun c3 => ?_, fun c3 => ?_⟩
    · have h3a := h2.1 c3
      refine b10_32 ?_
      refine ⟨g2, ?_⟩
      refine b10_38 ?_
      exact h3a
    · have h3a := h2.2 c3
      refine b10_19 ?_
      refine ⟨g2, ?_⟩
      refine b10_38 ?_
      exact h3a
  · have h1a := h.2 (mj_bi0.mp c1)
    refine b10_8 ?_
    exact h1a
theorem e10 {M : mj_M} {K : mj_K} {x1 : Int32} (h : ((p7 M x1) → vp_in x1 14 ∧ ((M 19 x1.toNatClampNeg = 0 → K 0 (M 13 x1.toNatClampNeg) M) ∧ (¬ M 19 x1.toNatClampNeg = 0 → K 0 ((M 13 x1.toNatClampNeg + 1) / 2) M))) ∧ (¬ (p7 M x1) → K 0 0 M)) : mj_Cm 10 2 [.ref 8, .int x1] M K := mj_en rfl rfl rfl (t10_0 h)
def f10 (M : mj_M) (x1 : Int32) : Int32 := if (p7 M x1) then (if M 19 x1.toNatClampNeg = 0 then M 13 x1.toNatClampNeg else (M 13 x1.toNatClampNeg + 1) / 2) else 0
theorem sp10 {M : mj_M} {K : mj_K} {x1 : Int32} (q0 : (M 8 0).toInt ≤ ((14 : Nat) : Int)) (h : K 0 (f10 M x1) M) : mj_Cm 10 2 [.ref 8, .int x1] M K := by
  refine e10 ?_
  refine ⟨fun c1 => ?_, fun c1 => ?_⟩
  · refine ⟨by first | assumption | exact mj_ix2 (by assumption) (by assumption) (by assumption) | exact mj_ix2 c1.1 c1.2 (by assumption) | exact mj_ix2 c1.1.1 c1.1.2 (by assumption), ?_⟩
    refine ⟨fun c2 => ?_, fun c2 => ?_⟩
    · exact (show f10 M x1 = M 13 x1.toNatClampNeg from by unfold f10; rw [if_pos c1, if_pos c2]) ▸ h
    · exact (show f10 M x1 = (M 13 x1.toNatClampNeg + 1) / 2 from by unfold f10; rw [if_pos c1, if_neg c2]) ▸ h
  · exact (show f10 M x1 = 0 from by unfold f10; rw [if_neg c1]) ▸ h

theorem t11_0 {M : mj_M} {K : mj_K} {x1 : Int32} (h : (¬ (p7 M x1) → K 0 0 M) ∧ ((p7 M x1) → vp_in x1 14 ∧ ((M 16 x1.toNatClampNeg = 0 → K 0 0 M) ∧ (¬ M 16 x1.toNatClampNeg = 0 → K 0 1 M)))) : mj_W 0 11 2 0 [some (.ref 8), some (.int x1)] [] M 0 K := by
  refine b11_0 ?_
  refine sp7  ?_
  refine b11_5 ?_
  refine ⟨fun c1 => ?_, fun c1 => ?_⟩
  · have h1a := h.1 (mj_bi0.mp c1)
    refine b11_21 ?_
    refine b11_22 ?_
    rw [mj_nb0]
    exact h1a
  · have h1a := h.2 (mj_bi1.mp c1)
    refine b11_8 ?_
    have g2 := h1a.1
    refine ⟨g2, ?_⟩
    have h2 := h1a.2
    refine ⟨fun c3 => ?_, fun c3 => ?_⟩
    · have h3a := h2.1 c3
      refine b11_21 ?_
      refine b11_22 ?_
      rw [mj_nb0]
      exact h3a
    · have h3a := h2.2 c3
      refine b11_17 ?_
      refine b11_22 ?_
      rw [mj_nb1]
      exact h3a
theorem e11 {M : mj_M} {K : mj_K} {x1 : Int32} (h : (¬ (p7 M x1) → K 0 0 M) ∧ ((p7 M x1) → vp_in x1 14 ∧ ((M 16 x1.toNatClampNeg = 0 → K 0 0 M) ∧ (¬ M 16 x1.toNatClampNeg = 0 → K 0 1 M)))) : mj_Cm 11 2 [.ref 8, .int x1] M K := mj_en rfl rfl rfl (t11_0 h)
abbrev p11 (M : mj_M) (x1 : Int32) : Prop := ((p7 M x1) ∧ (¬ M 16 x1.toNatClampNeg = 0))
theorem sp11 {M : mj_M} {K : mj_K} {x1 : Int32} (q0 : (M 8 0).toInt ≤ ((14 : Nat) : Int)) (h : K 0 (mj_bi (p11 M x1)) M) : mj_Cm 11 2 [.ref 8, .int x1] M K := by
  refine e11 ?_
  refine ⟨fun c1 => ?_, fun c1 => ?_⟩
  · exact (show (mj_bi (p11 M x1)) = 0 from mj_bi_f (show ¬ p11 M x1 from by unfold p11; simp only [eq_false c1, not_true, not_false_eq_true, and_self, and_true, true_and, and_false, false_and, or_true, true_or, or_false, false_or, or_self])) ▸ h
  · refine ⟨by first | assumption | exact mj_ix2 (by assumption) (by assumption) (by assumption) | exact mj_ix2 c1.1 c1.2 (by assumption) | exact mj_ix2 c1.1.1 c1.1.2 (by assumption), ?_⟩
    refine ⟨fun c2 => ?_, fun c2 => ?_⟩
    · exact (show (mj_bi (p11 M x1)) = 0 from mj_bi_f (show ¬ p11 M x1 from by unfold p11; simp only [eq_true c1, eq_true c2, not_true, not_false_eq_true, and_self, and_true, true_and, and_false, false_and, or_true, true_or, or_false, false_or, or_self])) ▸ h
    · exact (show (mj_bi (p11 M x1)) = 1 from mj_bi_t (show p11 M x1 from by unfold p11; simp only [eq_true c1, eq_false c2, not_true, not_false_eq_true, and_self, and_true, true_and, and_false, false_and, or_true, true_or, or_false, false_or, or_self])) ▸ h

theorem t13_0 {M : mj_M} {K : mj_K} {x1 : Int32} {x2 : Int32} (h : (x2 &&& 2 = 0 → vp_in x1 14 ∧ ((¬ M 17 x1.toNatClampNeg = 0 → K 0 0 M) ∧ (M 17 x1.toNatClampNeg = 0 → K 0 1 M))) ∧ (¬ x2 &&& 2 = 0 → vp_in x1 14 ∧ ((¬ M 16 x1.toNatClampNeg = 0 → K 0 0 M) ∧ (M 16 x1.toNatClampNeg = 0 → K 0 1 M)))) : mj_W 0 13 1 0 [some (.ref 8), some (.int x1), some (.int x2)] [] M 0 K := by
  refine b13_0 ?_
  refine ⟨fun c1 => ?_, fun c1 => ?_⟩
  · have h1a := h.1 c1
    refine b13_23 ?_
    have g2 := h1a.1
    refine ⟨g2, ?_⟩
    have h2 := h1a.2
    refine ⟨fun c3 => ?_, fun c3 => ?_⟩
    · have h3a := h2.1 c3
      refine b13_36 ?_
      refine b13_37 ?_
      rw [mj_nb0]
      exact h3a
    · have h3a := h2.2 c3
      refine b13_32 ?_
      refine b13_37 ?_
      rw [mj_nb1]
      exact h3a
  · have h1a := h.2 c1
    refine b13_6 ?_
    have g4 := h1a.1
    refine ⟨g4, ?_⟩
    have h4 := h1a.2
    refine ⟨fun c5 => ?_, fun c5 => ?_⟩
    · have h5a := h4.1 c5
      refine b13_19 ?_
      refine b13_37 ?_
      rw [mj_nb0]
      exact h5a
    · have h5a := h4.2 c5
      refine b13_15 ?_
      refine b13_37 ?_
      rw [mj_nb1]
      exact h5a
theorem e13 {M : mj_M} {K : mj_K} {x1 : Int32} {x2 : Int32} (h : (x2 &&& 2 = 0 → vp_in x1 14 ∧ ((¬ M 17 x1.toNatClampNeg = 0 → K 0 0 M) ∧ (M 17 x1.toNatClampNeg = 0 → K 0 1 M))) ∧ (¬ x2 &&& 2 = 0 → vp_in x1 14 ∧ ((¬ M 16 x1.toNatClampNeg = 0 → K 0 0 M) ∧ (M 16 x1.toNatClampNeg = 0 → K 0 1 M)))) : mj_Cm 13 1 [.ref 8, .int x1, .int x2] M K := mj_en rfl rfl rfl (t13_0 h)
abbrev p13 (M : mj_M) (x1 : Int32) (x2 : Int32) : Prop := ((x2 &&& 2 = 0 ∧ (M 17 x1.toNatClampNeg = 0)) ∨ (¬ x2 &&& 2 = 0 ∧ (M 16 x1.toNatClampNeg = 0)))
theorem sp13 {M : mj_M} {K : mj_K} {x1 : Int32} {x2 : Int32} (q0 : vp_in x1 14) (h : K 0 (mj_bi (p13 M x1 x2)) M) : mj_Cm 13 1 [.ref 8, .int x1, .int x2] M K := by
  refine e13 ?_
  refine ⟨fun c1 => ?_, fun c1 => ?_⟩
  · refine ⟨by first | assumption | exact mj_ix2 (by assumption) (by assumption) (by assumption) | exact mj_ix2 c1.1 c1.2 (by assumption) | exact mj_ix2 c1.1.1 c1.1.2 (by assumption), ?_⟩
    refine ⟨fun c2 => ?_, fun c2 => ?_⟩
    · exact (show (mj_bi (p13 M x1 x2)) = 0 from mj_bi_f (show ¬ p13 M x1 x2 from by unfold p13; simp only [eq_true c1, eq_false c2, not_true, not_false_eq_true, and_self, and_true, true_and, and_false, false_and, or_true, true_or, or_false, false_or, or_self])) ▸ h
    · exact (show (mj_bi (p13 M x1 x2)) = 1 from mj_bi_t (show p13 M x1 x2 from by unfold p13; simp only [eq_true c1, eq_true c2, not_true, not_false_eq_true, and_self, and_true, true_and, and_false, false_and, or_true, true_or, or_false, false_or, or_self])) ▸ h
  · refine ⟨by first | assumption | exact mj_ix2 (by assumption) (by assumption) (by assumption) | exact mj_ix2 c1.1 c1.2 (by assumption) | exact mj_ix2 c1.1.1 c1.1.2 (by assumption), ?_⟩
    refine ⟨fun c3 => ?_, fun c3 => ?_⟩
    · exact (show (mj_bi (p13 M x1 x2)) = 0 from mj_bi_f (show ¬ p13 M x1 x2 from by unfold p13; simp only [eq_false c1, eq_false c3, not_true, not_false_eq_true, and_self, and_true, true_and, and_false, false_and, or_true, true_or, or_false, false_or, or_self])) ▸ h
    · exact (show (mj_bi (p13 M x1 x2)) = 1 from mj_bi_t (show p13 M x1 x2 from by unfold p13; simp only [eq_false c1, eq_true c3, not_true, not_false_eq_true, and_self, and_true, true_and, and_false, false_and, or_true, true_or, or_false, false_or, or_self])) ▸ h

theorem t14_0 {M : mj_M} {K : mj_K} {x1 : Int32} {x2 : Int32} (h : (¬ x2 &&& 1 = 0 → vp_in x1 14 ∧ ((M 9 x1.toNatClampNeg = 0 → K 0 1 M) ∧ (¬ M 9 x1.toNatClampNeg = 0 → (M 9 x1.toNatClampNeg = 2 → K 0 1 M) ∧ (¬ M 9 x1.toNatClampNeg = 2 → (¬ M 9 x1.toNatClampNeg = 4 → K 0 0 M) ∧ (M 9 x1.toNatClampNeg = 4 → K 0 1 M))))) ∧ (x2 &&& 1 = 0 → K 0 1 M)) : mj_W 0 14 1 0 [some (.ref 8), some (.int x1), some (.int x2)] [] M 0 K := by
  refine b14_0 ?_
  refine ⟨fun c1 => ?_, fun c1 => ?_⟩
  · have h1a := h.1 c1
    refine b14_8 ?_
    have g2 := h1a.1
    refine ⟨g2, ?_⟩
    have h2 := h1a.2
    refine ⟨fun c3 => ?_, fun c3 => ?_⟩
    · have h3a := h2.1 c3
      refine b14_37 ?_
      refine b14_42 ?_
      rw [mj_nb1]
      exact h3a
    · have h3a := h2.2 c3
      refine b14_17 ?_
      refine ⟨g2, ?_⟩
      refine ⟨fun c4 => ?_, fun c4 => ?_⟩
      · have h4a := h3a.1 c4
        refine b14_37 ?_
        refine b14_42 ?_
        rw [mj_nb1]
        exact h4a
      · have h4a := h3a.2 c4
        refine b14_27 ?_
        refine ⟨g2, ?_⟩
        refine ⟨fun c5 => ?_, fun c5 => ?_⟩
        · have h5a := h4a.1 c5
          refine b14_41 ?_
          refine b14_42 ?_
          rw [mj_nb0]
          exact h5a
        · have h5a := h4a.2 c5
          refine b14_37 ?_
          refine b14_42 ?_
          rw [mj_nb1]
          exact h5a
  · have h1a := h.2 c1
    refine b14_6 ?_
    rw [mj_nb1]
    exact h1a
theorem e14 {M : mj_M} {K : mj_K} {x1 : Int32} {x2 : Int32} (h : (¬ x2 &&& 1 = 0 → vp_in x1 14 ∧ ((M 9 x1.toNatClampNeg = 0 → K 0 1 M) ∧ (¬ M 9 x1.toNatClampNeg = 0 → (M 9 x1.toNatClampNeg = 2 → K 0 1 M) ∧ (¬ M 9 x1.toNatClampNeg = 2 → (¬ M 9 x1.toNatClampNeg = 4 → K 0 0 M) ∧ (M 9 x1.toNatClampNeg = 4 → K 0 1 M))))) ∧ (x2 &&& 1 = 0 → K 0 1 M)) : mj_Cm 14 1 [.ref 8, .int x1, .int x2] M K := mj_en rfl rfl rfl (t14_0 h)
abbrev p14 (M : mj_M) (x1 : Int32) (x2 : Int32) : Prop := (x2 &&& 1 = 0 ∨ (M 9 x1.toNatClampNeg = 0 ∨ (M 9 x1.toNatClampNeg = 2 ∨ (M 9 x1.toNatClampNeg = 4))))
theorem sp14 {M : mj_M} {K : mj_K} {x1 : Int32} {x2 : Int32} (q0 : vp_in x1 14) (h : K 0 (mj_bi (p14 M x1 x2)) M) : mj_Cm 14 1 [.ref 8, .int x1, .int x2] M K := by
  refine e14 ?_
  refine ⟨fun c1 => ?_, fun c1 => ?_⟩
  · refine ⟨by first | assumption | exact mj_ix2 (by assumption) (by assumption) (by assumption) | exact mj_ix2 c1.1 c1.2 (by assumption) | exact mj_ix2 c1.1.1 c1.1.2 (by assumption), ?_⟩
    refine ⟨fun c2 => ?_, fun c2 => ?_⟩
    · exact (show (mj_bi (p14 M x1 x2)) = 1 from mj_bi_t (show p14 M x1 x2 from by unfold p14; simp only [eq_false c1, eq_true c2, not_true, not_false_eq_true, and_self, and_true, true_and, and_false, false_and, or_true, true_or, or_false, false_or, or_self])) ▸ h
    · refine ⟨fun c3 => ?_, fun c3 => ?_⟩
      · exact (show (mj_bi (p14 M x1 x2)) = 1 from mj_bi_t (show p14 M x1 x2 from by unfold p14; simp only [eq_false c1, eq_false c2, eq_true c3, not_true, not_false_eq_true, and_self, and_true, true_and, and_false, false_and, or_true, true_or, or_false, false_or, or_self])) ▸ h
      · refine ⟨fun c4 => ?_, fun c4 => ?_⟩
        · exact (show (mj_bi (p14 M x1 x2)) = 0 from mj_bi_f (show ¬ p14 M x1 x2 from by unfold p14; simp only [eq_false c1, eq_false c2, eq_false c3, eq_false c4, not_true, not_false_eq_true, and_self, and_true, true_and, and_false, false_and, or_true, true_or, or_false, false_or, or_self])) ▸ h
        · exact (show (mj_bi (p14 M x1 x2)) = 1 from mj_bi_t (show p14 M x1 x2 from by unfold p14; simp only [eq_false c1, eq_false c2, eq_false c3, eq_true c4, not_true, not_false_eq_true, and_self, and_true, true_and, and_false, false_and, or_true, true_or, or_false, false_or, or_self])) ▸ h
  · exact (show (mj_bi (p14 M x1 x2)) = 1 from mj_bi_t (show p14 M x1 x2 from by unfold p14; simp only [eq_true c1, not_true, not_false_eq_true, and_self, and_true, true_and, and_false, false_and, or_true, true_or, or_false, false_or, or_self])) ▸ h

theorem t15_0 {M : mj_M} {K : mj_K} {x1 : Int32} (h : vp_in x1 14 ∧ ((¬ M 9 x1.toNatClampNeg = 3 → K 0 1 M) ∧ (M 9 x1.toNatClampNeg = 3 → (¬ M 19 x1.toNatClampNeg = 0 → K 0 1 M) ∧ (M 19 x1.toNatClampNeg = 0 → (¬ M 18 x1.toNatClampNeg = 0 → K 0 0 M) ∧ (M 18 x1.toNatClampNeg = 0 → K 0 1 M))))) : mj_W 0 15 1 0 [some (.ref 8), some (.int x1)] [] M 0 K := by
  refine b15_0 ?_
  have g1 := h.1
  refine ⟨g1, ?_⟩
  have h1 := h.2
  refine ⟨fun c2 => ?_, fun c2 => ?_⟩
  · have h2a := h1.1 c2
    refine b15_28 ?_
    refine b15_33 ?_
    rw [mj_nb1]
    exact h2a
  · have h2a := h1.2 c2
    refine b15_10 ?_
    refine ⟨g1, ?_⟩
    refine ⟨fun c3 => ?_, fun c3 => ?_⟩
    · have h3a := h2a.1 c3
      refine b15_28 ?_
      refine b15_33 ?_
      rw [mj_nb1]
      exact h3a
    · have h3a := h2a.2 c3
      refine b15_19 ?_
      refine ⟨g1, ?_⟩
      refine ⟨fun c4 => ?_, fun c4 => ?_⟩
      · have h4a := h3a.1 c4
        refine b15_32 ?_
        refine b15_33 ?_
        rw [mj_nb0]
        exact h4a
      · have h4a := h3a.2 c4
        refine b15_28 ?_
        refine b15_33 ?_
        rw [mj_nb1]
        exact h4a
theorem e15 {M : mj_M} {K : mj_K} {x1 : Int32} (h : vp_in x1 14 ∧ ((¬ M 9 x1.toNatClampNeg = 3 → K 0 1 M) ∧ (M 9 x1.toNatClampNeg = 3 → (¬ M 19 x1.toNatClampNeg = 0 → K 0 1 M) ∧ (M 19 x1.toNatClampNeg = 0 → (¬ M 18 x1.toNatClampNeg = 0 → K 0 0 M) ∧ (M 18 x1.toNatClampNeg = 0 → K 0 1 M))))) : mj_Cm 15 1 [.ref 8, .int x1] M K := mj_en rfl rfl rfl (t15_0 h)
abbrev p15 (M : mj_M) (x1 : Int32) : Prop := (¬ M 9 x1.toNatClampNeg = 3 ∨ (¬ M 19 x1.toNatClampNeg = 0 ∨ (M 18 x1.toNatClampNeg = 0)))
theorem sp15 {M : mj_M} {K : mj_K} {x1 : Int32} (q0 : vp_in x1 14) (h : K 0 (mj_bi (p15 M x1)) M) : mj_Cm 15 1 [.ref 8, .int x1] M K := by
  refine e15 ?_
  refine ⟨by first | assumption | exact mj_ix2 (by assumption) (by assumption) (by assumption), ?_⟩
  refine ⟨fun c1 => ?_, fun c1 => ?_⟩
  · exact (show (mj_bi (p15 M x1)) = 1 from mj_bi_t (show p15 M x1 from by unfold p15; simp only [eq_false c1, not_true, not_false_eq_true, and_self, and_true, true_and, and_false, false_and, or_true, true_or, or_false, false_or, or_self])) ▸ h
  · refine ⟨fun c2 => ?_, fun c2 => ?_⟩
    · exact (show (mj_bi (p15 M x1)) = 1 from mj_bi_t (show p15 M x1 from by unfold p15; simp only [eq_true c1, eq_false c2, not_true, not_false_eq_true, and_self, and_true, true_and, and_false, false_and, or_true, true_or, or_false, false_or, or_self])) ▸ h
    · refine ⟨fun c3 => ?_, fun c3 => ?_⟩
      · exact (show (mj_bi (p15 M x1)) = 0 from mj_bi_f (show ¬ p15 M x1 from by unfold p15; simp only [eq_true c1, eq_true c2, eq_false c3, not_true, not_false_eq_true, and_self, and_true, true_and, and_false, false_and, or_true, true_or, or_false, false_or, or_self])) ▸ h
      · exact (show (mj_bi (p15 M x1)) = 1 from mj_bi_t (show p15 M x1 from by unfold p15; simp only [eq_true c1, eq_true c2, eq_true c3, not_true, not_false_eq_true, and_self, and_true, true_and, and_false, false_and, or_true, true_or, or_false, false_or, or_self])) ▸ h

theorem t16_0 {M : mj_M} {K : mj_K} {x1 : Int32} (h : vp_in x1 14 ∧ ((¬ M 9 x1.toNatClampNeg = 3 → (¬ M 9 x1.toNatClampNeg = 4 → K 0 1 M) ∧ (M 9 x1.toNatClampNeg = 4 → (M 8 1 = 0 → K 0 0 M) ∧ (¬ M 8 1 = 0 → K 0 1 M))) ∧ (M 9 x1.toNatClampNeg = 3 → (¬ M 19 x1.toNatClampNeg = 0 → K 0 1 M) ∧ (M 19 x1.toNatClampNeg = 0 → (M 18 x1.toNatClampNeg = 0 → K 0 0 M) ∧ (¬ M 18 x1.toNatClampNeg = 0 → K 0 1 M))))) : mj_W 0 16 1 0 [some (.ref 8), some (.int x1)] [] M 0 K := by
  refine b16_0 ?_
  have g1 := h.1
  refine ⟨g1, ?_⟩
  have h1 := h.2
  refine ⟨fun c2 => ?_, fun c2 => ?_⟩
  · have h2a := h1.1 c2
    refine b16_34 ?_
    refine ⟨g1, ?_⟩
    refine ⟨fun c3 => ?_, fun c3 => ?_⟩
    · have h3a := h2a.1 c3
      refine b16_51 ?_
      refine b16_56 ?_
      rw [mj_nb1]
      exact h3a
    · have h3a := h2a.2 c3
      refine b16_44 ?_
      refine ⟨fun c4 => ?_, fun c4 => ?_⟩
      · have h4a := h3a.1 c4
        refine b16_55 ?_
        refine b16_56 ?_
        rw [mj_nb0]
        exact h4a
      · have h4a := h3a.2 c4
        refine b16_51 ?_
        refine b16_56 ?_
        rw [mj_nb1]
        exact h4a
  · have h2a := h1.2 c2
    refine b16_10 ?_
    refine ⟨g1, ?_⟩
    refine ⟨fun c5 => ?_, fun c5 => ?_⟩
    · have h5a := h2a.1 c5
      refine b16_28 ?_
      refine b16_33 ?_
      rw [mj_nb1]
      exact h5a
    · have h5a := h2a.2 c5
      refine b16_19 ?_
      refine ⟨g1, ?_⟩
      refine ⟨fun c6 => ?_, fun c6 => ?_⟩
      · have h6a := h5a.1 c6
        refine b16_32 ?_
        refine b16_33 ?_
        rw [mj_nb0]
        exact h6a
      · have h6a := h5a.2 c6
        refine b16_28 ?_
        refine b16_33 ?_
        rw [mj_nb1]
        exact h6a
theorem e16 {M : mj_M} {K : mj_K} {x1 : Int32} (h : vp_in x1 14 ∧ ((¬ M 9 x1.toNatClampNeg = 3 → (¬ M 9 x1.toNatClampNeg = 4 → K 0 1 M) ∧ (M 9 x1.toNatClampNeg = 4 → (M 8 1 = 0 → K 0 0 M) ∧ (¬ M 8 1 = 0 → K 0 1 M))) ∧ (M 9 x1.toNatClampNeg = 3 → (¬ M 19 x1.toNatClampNeg = 0 → K 0 1 M) ∧ (M 19 x1.toNatClampNeg = 0 → (M 18 x1.toNatClampNeg = 0 → K 0 0 M) ∧ (¬ M 18 x1.toNatClampNeg = 0 → K 0 1 M))))) : mj_Cm 16 1 [.ref 8, .int x1] M K := mj_en rfl rfl rfl (t16_0 h)
abbrev p16 (M : mj_M) (x1 : Int32) : Prop := ((¬ M 9 x1.toNatClampNeg = 3 ∧ (¬ M 9 x1.toNatClampNeg = 4 ∨ (¬ M 8 1 = 0))) ∨ (M 9 x1.toNatClampNeg = 3 ∧ (¬ M 19 x1.toNatClampNeg = 0 ∨ (¬ M 18 x1.toNatClampNeg = 0))))
theorem sp16 {M : mj_M} {K : mj_K} {x1 : Int32} (q0 : vp_in x1 14) (h : K 0 (mj_bi (p16 M x1)) M) : mj_Cm 16 1 [.ref 8, .int x1] M K := by
  refine e16 ?_
  refine ⟨by first | assumption | exact mj_ix2 (by assumption) (by assumption) (by assumption), ?_⟩
  refine ⟨fun c1 => ?_, fun c1 => ?_⟩
  · refine ⟨fun c2 => ?_, fun c2 => ?_⟩
    · exact (show (mj_bi (p16 M x1)) = 1 from mj_bi_t (show p16 M x1 from by unfold p16; simp only [eq_false c1, eq_false c2, not_true, not_false_eq_true, and_self, and_true, true_and, and_false, false_and, or_true, true_or, or_false, false_or, or_self])) ▸ h
    · refine ⟨fun c3 => ?_, fun c3 => ?_⟩
      · exact (show (mj_bi (p16 M x1)) = 0 from mj_bi_f (show ¬ p16 M x1 from by unfold p16; simp only [eq_false c1, eq_true c2, eq_true c3, not_true, not_false_eq_true, and_self, and_true, true_and, and_false, false_and, or_true, true_or, or_false, false_or, or_self])) ▸ h
      · exact (show (mj_bi (p16 M x1)) = 1 from mj_bi_t (show p16 M x1 from by unfold p16; simp only [eq_false c1, eq_true c2, eq_false c3, not_true, not_false_eq_true, and_self, and_true, true_and, and_false, false_and, or_true, true_or, or_false, false_or, or_self])) ▸ h
  · refine ⟨fun c4 => ?_, fun c4 => ?_⟩
    · exact (show (mj_bi (p16 M x1)) = 1 from mj_bi_t (show p16 M x1 from by unfold p16; simp only [eq_true c1, eq_false c4, not_true, not_false_eq_true, and_self, and_true, true_and, and_false, false_and, or_true, true_or, or_false, false_or, or_self])) ▸ h
    · refine ⟨fun c5 => ?_, fun c5 => ?_⟩
      · exact (show (mj_bi (p16 M x1)) = 0 from mj_bi_f (show ¬ p16 M x1 from by unfold p16; simp only [eq_true c1, eq_true c4, eq_true c5, not_true, not_false_eq_true, and_self, and_true, true_and, and_false, false_and, or_true, true_or, or_false, false_or, or_self])) ▸ h
      · exact (show (mj_bi (p16 M x1)) = 1 from mj_bi_t (show p16 M x1 from by unfold p16; simp only [eq_true c1, eq_true c4, eq_false c5, not_true, not_false_eq_true, and_self, and_true, true_and, and_false, false_and, or_true, true_or, or_false, false_or, or_self])) ▸ h

theorem t12_0 {M : mj_M} {K : mj_K} {x1 : Int32} {x2 : Int32} {x3 : Int32} (h : (¬ (p7 M x1) → K 0 (-1) M) ∧ ((p7 M x1) → vp_in x1 14 ∧ ((¬ (p13 M x1 x3) → K 0 (-1) M) ∧ ((p13 M x1 x3) → vp_in x1 14 ∧ (((p14 M x1 x3) → vp_in x1 14 ∧ ((¬ x2 = M 10 x1.toNatClampNeg → (¬ x2 = M 11 x1.toNatClampNeg → K 0 (-1) M) ∧ (x2 = M 11 x1.toNatClampNeg → vp_in x1 14 ∧ ((¬ (p16 M x1) → K 0 (-1) M) ∧ ((p16 M x1) → K 0 (M 10 x1.toNatClampNeg) M)))) ∧ (x2 = M 10 x1.toNatClampNeg → vp_in x1 14 ∧ ((¬ (p15 M x1) → (¬ x2 = M 11 x1.toNatClampNeg → K 0 (-1) M) ∧ (x2 = M 11 x1.toNatClampNeg → vp_in x1 14 ∧ ((¬ (p16 M x1) → K 0 (-1) M) ∧ ((p16 M x1) → K 0 (M 10 x1.toNatClampNeg) M)))) ∧ ((p15 M x1) → K 0 (M 11 x1.toNatClampNeg) M))))) ∧ (¬ (p14 M x1 x3) → K 0 (-1) M)))))) : mj_W 0 12 2 0 [some (.ref 8), some (.int x1), some (.int x2), some (.int x3)] [] M 0 K := by
  refine b12_0 ?_
  refine sp7  ?_
  refine b12_5 ?_
  refine ⟨fun c1 => ?_, fun c1 => ?_⟩
  · have h1a := h.1 (mj_bi0.mp c1)
    refine b12_26 ?_
    exact h1a
  · have h1a := h.2 (mj_bi1.mp c1)
    refine b12_8 ?_
    have h2 := h1a.1
    have h3 := h1a.2
    refine sp13 h2 ?_
    refine b12_14 ?_
    refine ⟨fun c4 => ?_, fun c4 => ?_⟩
    · have h4a := h3.1 (mj_bi0.mp c4)
      refine b12_26 ?_
      exact h4a
    · have h4a := h3.2 (mj_bi1.mp c4)
      refine b12_17 ?_
      have h5 := h4a.1
      have h6 := h4a.2
      refine sp14 h5 ?_
      refine b12_23 ?_
      refine ⟨fun c7 => ?_, fun c7 => ?_⟩
      · have h7a := h6.1 (mj_bi1.mp c7)
        refine b12_28 ?_
        have g8 := h7a.1
        refine ⟨g8, ?_⟩
        have h8 := h7a.2
        refine ⟨fun c9 => ?_, fun c9 => ?_⟩
        · have h9a := h8.1 c9
          refine b12_53 ?_
          refine ⟨g8, ?_⟩
          refine ⟨fun c10 => ?_, fun c10 => ?_⟩
          · have h10a := h9a.1 c10
            refine b12_78 ?_
            exact h10a
          · have h10a := h9a.2 c10
            refine b12_63 ?_
            have h11 := h10a.1
            have h12 := h10a.2
            refine sp16 h11 ?_
            refine b12_68 ?_
            refine ⟨fun c13 => ?_, fun c13 => ?_⟩
            · have h13a := h12.1 (mj_bi0.mp c13)
              refine b12_78 ?_
              exact h13a
            · have h13a := h12.2 (mj_bi1.mp c13)
              refine b12_71 ?_
              refine ⟨g8, ?_⟩
              exact h13a
        · have h9a := h8.2 c9
          refine b12_38 ?_
          have h14 := h9a.1
          have h15 := h9a.2
          refine sp15 h14 ?_
          refine b12_43 ?_
          refine ⟨fun c16 => ?_, fun c16 => ?_⟩
          · have h16a := h15.1 (mj_bi0.mp c16)
            refine b12_53 ?_
            refine ⟨g8, ?_⟩
            refine ⟨fun c17 => ?_, fun c17 => ?_⟩
            · have h17a := h16a.1 c17
              refine b12_78 ?_
              exact h17a
            · have h17a := h16a.2 c17
              refine b12_63 ?_
              have h18 := h17a.1
              have h19 := h17a.2
              refine sp16 h18 ?_
              refine b12_68 ?_
              refine ⟨fun c20 => ?_, fun c20 => ?_⟩
              · have h20a := h19.1 (mj_bi0.mp c20)
                refine b12_78 ?_
                exact h20a
              · have h20a := h19.2 (mj_bi1.mp c20)
                refine b12_71 ?_
                refine ⟨g8, ?_⟩
                exact h20a
          · have h16a := h15.2 (mj_bi1.mp c16)
            refine b12_46 ?_
            refine ⟨g8, ?_⟩
            exact h16a
      · have h7a := h6.2 (mj_bi0.mp c7)
        refine b12_26 ?_
        exact h7a
theorem e12 {M : mj_M} {K : mj_K} {x1 : Int32} {x2 : Int32} {x3 : Int32} (h : (¬ (p7 M x1) → K 0 (-1) M) ∧ ((p7 M x1) → vp_in x1 14 ∧ ((¬ (p13 M x1 x3) → K 0 (-1) M) ∧ ((p13 M x1 x3) → vp_in x1 14 ∧ (((p14 M x1 x3) → vp_in x1 14 ∧ ((¬ x2 = M 10 x1.toNatClampNeg → (¬ x2 = M 11 x1.toNatClampNeg → K 0 (-1) M) ∧ (x2 = M 11 x1.toNatClampNeg → vp_in x1 14 ∧ ((¬ (p16 M x1) → K 0 (-1) M) ∧ ((p16 M x1) → K 0 (M 10 x1.toNatClampNeg) M)))) ∧ (x2 = M 10 x1.toNatClampNeg → vp_in x1 14 ∧ ((¬ (p15 M x1) → (¬ x2 = M 11 x1.toNatClampNeg → K 0 (-1) M) ∧ (x2 = M 11 x1.toNatClampNeg → vp_in x1 14 ∧ ((¬ (p16 M x1) → K 0 (-1) M) ∧ ((p16 M x1) → K 0 (M 10 x1.toNatClampNeg) M)))) ∧ ((p15 M x1) → K 0 (M 11 x1.toNatClampNeg) M))))) ∧ (¬ (p14 M x1 x3) → K 0 (-1) M)))))) : mj_Cm 12 2 [.ref 8, .int x1, .int x2, .int x3] M K := mj_en rfl rfl rfl (t12_0 h)
def f12 (M : mj_M) (x1 : Int32) (x2 : Int32) (x3 : Int32) : Int32 := if (p7 M x1) then if (p13 M x1 x3) then if (p14 M x1 x3) then (if x2 = M 10 x1.toNatClampNeg then if (p15 M x1) then M 11 x1.toNatClampNeg else (if x2 = M 11 x1.toNatClampNeg then if (p16 M x1) then M 10 x1.toNatClampNeg else (-1) else (-1)) else (if x2 = M 11 x1.toNatClampNeg then if (p16 M x1) then M 10 x1.toNatClampNeg else (-1) else (-1))) else (-1) else (-1) else (-1)
theorem sp12 {M : mj_M} {K : mj_K} {x1 : Int32} {x2 : Int32} {x3 : Int32} (q0 : (M 8 0).toInt ≤ ((14 : Nat) : Int)) (h : K 0 (f12 M x1 x2 x3) M) : mj_Cm 12 2 [.ref 8, .int x1, .int x2, .int x3] M K := by
  refine e12 ?_
  refine ⟨fun c1 => ?_, fun c1 => ?_⟩
  · exact (show f12 M x1 x2 x3 = (-1) from by unfold f12; rw [if_neg c1]) ▸ h
  · refine ⟨by first | assumption | exact mj_ix2 (by assumption) (by assumption) (by assumption) | exact mj_ix2 c1.1 c1.2 (by assumption) | exact mj_ix2 c1.1.1 c1.1.2 (by assumption), ?_⟩
    refine ⟨fun c2 => ?_, fun c2 => ?_⟩
    · exact (show f12 M x1 x2 x3 = (-1) from by unfold f12; rw [if_pos c1, if_neg c2]) ▸ h
    · refine ⟨by first | assumption | exact mj_ix2 (by assumption) (by assumption) (by assumption) | exact mj_ix2 c1.1 c1.2 (by assumption) | exact mj_ix2 c2.1 c2.2 (by assumption) | exact mj_ix2 c1.1.1 c1.1.2 (by assumption) | exact mj_ix2 c2.1.1 c2.1.2 (by assumption), ?_⟩
      refine ⟨fun c3 => ?_, fun c3 => ?_⟩
      · refine ⟨by first | assumption | exact mj_ix2 (by assumption) (by assumption) (by assumption) | exact mj_ix2 c1.1 c1.2 (by assumption) | exact mj_ix2 c2.1 c2.2 (by assumption) | exact mj_ix2 c3.1 c3.2 (by assumption) | exact mj_ix2 c1.1.1 c1.1.2 (by assumption) | exact mj_ix2 c2.1.1 c2.1.2 (by assumption) | exact mj_ix2 c3.1.1 c3.1.2 (by assumption), ?_⟩
        refine ⟨fun c4 => ?_, fun c4 => ?_⟩
        · refine ⟨fun c5 => ?_, fun c5 => ?_⟩
          · exact (show f12 M x1 x2 x3 = (-1) from by unfold f12; rw [if_pos c1, if_pos c2, if_pos c3, if_neg c4, if_neg c5]) ▸ h
          · refine ⟨by first | assumption | exact mj_ix2 (by assumption) (by assumption) (by assumption) | exact mj_ix2 c1.1 c1.2 (by assumption) | exact mj_ix2 c2.1 c2.2 (by assumption) | exact mj_ix2 c3.1 c3.2 (by assumption) | exact mj_ix2 c4.1 c4.2 (by assumption) | exact mj_ix2 c5.1 c5.2 (by assumption) | exact mj_ix2 c1.1.1 c1.1.2 (by assumption) | exact mj_ix2 c2.1.1 c2.1.2 (by assumption) | exact mj_ix2 c3.1.1 c3.1.2 (by assumption) | exact mj_ix2 c4.1.1 c4.1.2 (by assumption) | exact mj_ix2 c5.1.1 c5.1.2 (by assumption), ?_⟩
            refine ⟨fun c6 => ?_, fun c6 => ?_⟩
            · exact (show f12 M x1 x2 x3 = (-1) from by unfold f12; rw [if_pos c1, if_pos c2, if_pos c3, if_neg c4, if_pos c5, if_neg c6]) ▸ h
            · exact (show f12 M x1 x2 x3 = M 10 x1.toNatClampNeg from by unfold f12; rw [if_pos c1, if_pos c2, if_pos c3, if_neg c4, if_pos c5, if_pos c6]) ▸ h
        · refine ⟨by first | assumption | exact mj_ix2 (by assumption) (by assumption) (by assumption) | exact mj_ix2 c1.1 c1.2 (by assumption) | exact mj_ix2 c2.1 c2.2 (by assumption) | exact mj_ix2 c3.1 c3.2 (by assumption) | exact mj_ix2 c4.1 c4.2 (by assumption) | exact mj_ix2 c1.1.1 c1.1.2 (by assumption) | exact mj_ix2 c2.1.1 c2.1.2 (by assumption) | exact mj_ix2 c3.1.1 c3.1.2 (by assumption) | exact mj_ix2 c4.1.1 c4.1.2 (by assumption), ?_⟩
          refine ⟨fun c7 => ?_, fun c7 => ?_⟩
          · refine ⟨fun c8 => ?_, fun c8 => ?_⟩
            · exact (show f12 M x1 x2 x3 = (-1) from by unfold f12; rw [if_pos c1, if_pos c2, if_pos c3, if_pos c4, if_neg c7, if_neg c8]) ▸ h
            · refine ⟨by first | assumption | exact mj_ix2 (by assumption) (by assumption) (by assumption) | exact mj_ix2 c1.1 c1.2 (by assumption) | exact mj_ix2 c2.1 c2.2 (by assumption) | exact mj_ix2 c3.1 c3.2 (by assumption) | exact mj_ix2 c4.1 c4.2 (by assumption) | exact mj_ix2 c7.1 c7.2 (by assumption) | exact mj_ix2 c8.1 c8.2 (by assumption) | exact mj_ix2 c1.1.1 c1.1.2 (by assumption) | exact mj_ix2 c2.1.1 c2.1.2 (by assumption) | exact mj_ix2 c3.1.1 c3.1.2 (by assumption) | exact mj_ix2 c4.1.1 c4.1.2 (by assumption) | exact mj_ix2 c7.1.1 c7.1.2 (by assumption) | exact mj_ix2 c8.1.1 c8.1.2 (by assumption), ?_⟩
              refine ⟨fun c9 => ?_, fun c9 => ?_⟩
              · exact (show f12 M x1 x2 x3 = (-1) from by unfold f12; rw [if_pos c1, if_pos c2, if_pos c3, if_pos c4, if_neg c7, if_pos c8, if_neg c9]) ▸ h
              · exact (show f12 M x1 x2 x3 = M 10 x1.toNatClampNeg from by unfold f12; rw [if_pos c1, if_pos c2, if_pos c3, if_pos c4, if_neg c7, if_pos c8, if_pos c9]) ▸ h
          · exact (show f12 M x1 x2 x3 = M 11 x1.toNatClampNeg from by unfold f12; rw [if_pos c1, if_pos c2, if_pos c3, if_pos c4, if_pos c7]) ▸ h
      · exact (show f12 M x1 x2 x3 = (-1) from by unfold f12; rw [if_pos c1, if_pos c2, if_neg c3]) ▸ h

theorem t20_0 {M : mj_M} {K : mj_K} {x1 : Int32} (h : (¬ (p18 M x1) → K 0 0 M) ∧ ((p18 M x1) → vp_in x1 120 ∧ ((¬ M 21 x1.toNatClampNeg = 0 → K 0 0 M) ∧ (M 21 x1.toNatClampNeg = 0 → K 0 1 M)))) : mj_W 0 20 2 0 [some (.ref 20), some (.int x1)] [] M 0 K := by
  refine b20_0 ?_
  refine sp18  ?_
  refine b20_5 ?_
  refine ⟨fun c1 => ?_, fun c1 => ?_⟩
  · have h1a := h.1 (mj_bi0.mp c1)
    refine b20_21 ?_
    refine b20_22 ?_
    rw [mj_nb0]
    exact h1a
  · have h1a := h.2 (mj_bi1.mp c1)
    refine b20_8 ?_
    have g2 := h1a.1
    refine ⟨g2, ?_⟩
    have h2 := h1a.2
    refine ⟨fun c3 => ?_, fun c3 => ?_⟩
    · have h3a := h2.1 c3
      refine b20_21 ?_
      refine b20_22 ?_
      rw [mj_nb0]
      exact h3a
    · have h3a := h2.2 c3
      refine b20_17 ?_
      refine b20_22 ?_
      rw [mj_nb1]
      exact h3a
theorem e20 {M : mj_M} {K : mj_K} {x1 : Int32} (h : (¬ (p18 M x1) → K 0 0 M) ∧ ((p18 M x1) → vp_in x1 120 ∧ ((¬ M 21 x1.toNatClampNeg = 0 → K 0 0 M) ∧ (M 21 x1.toNatClampNeg = 0 → K 0 1 M)))) : mj_Cm 20 2 [.ref 20, .int x1] M K := mj_en rfl rfl rfl (t20_0 h)
abbrev p20 (M : mj_M) (x1 : Int32) : Prop := ((p18 M x1) ∧ (M 21 x1.toNatClampNeg = 0))
theorem sp20 {M : mj_M} {K : mj_K} {x1 : Int32} (q0 : (M 20 0).toInt ≤ ((120 : Nat) : Int)) (h : K 0 (mj_bi (p20 M x1)) M) : mj_Cm 20 2 [.ref 20, .int x1] M K := by
  refine e20 ?_
  refine ⟨fun c1 => ?_, fun c1 => ?_⟩
  · exact (show (mj_bi (p20 M x1)) = 0 from mj_bi_f (show ¬ p20 M x1 from by unfold p20; simp only [eq_false c1, not_true, not_false_eq_true, and_self, and_true, true_and, and_false, false_and, or_true, true_or, or_false, false_or, or_self])) ▸ h
  · refine ⟨by first | assumption | exact mj_ix2 (by assumption) (by assumption) (by assumption) | exact mj_ix2 c1.1 c1.2 (by assumption) | exact mj_ix2 c1.1.1 c1.1.2 (by assumption), ?_⟩
    refine ⟨fun c2 => ?_, fun c2 => ?_⟩
    · exact (show (mj_bi (p20 M x1)) = 0 from mj_bi_f (show ¬ p20 M x1 from by unfold p20; simp only [eq_true c1, eq_false c2, not_true, not_false_eq_true, and_self, and_true, true_and, and_false, false_and, or_true, true_or, or_false, false_or, or_self])) ▸ h
    · exact (show (mj_bi (p20 M x1)) = 1 from mj_bi_t (show p20 M x1 from by unfold p20; simp only [eq_true c1, eq_true c2, not_true, not_false_eq_true, and_self, and_true, true_and, and_false, false_and, or_true, true_or, or_false, false_or, or_self])) ▸ h

theorem t21_0 {M : mj_M} {K : mj_K} {x1 : Int32} (h : (¬ (p18 M x1) → K 0 0 M) ∧ ((p18 M x1) → vp_in x1 120 ∧ ((M 21 x1.toNatClampNeg = 0 → K 0 1 M) ∧ (¬ M 21 x1.toNatClampNeg = 0 → (¬ M 21 x1.toNatClampNeg = 1 → K 0 0 M) ∧ (M 21 x1.toNatClampNeg = 1 → K 0 1 M))))) : mj_W 0 21 2 0 [some (.ref 20), some (.int x1)] [] M 0 K := by
  refine b21_0 ?_
  refine sp18  ?_
  refine b21_5 ?_
  refine ⟨fun c1 => ?_, fun c1 => ?_⟩
  · have h1a := h.1 (mj_bi0.mp c1)
    refine b21_31 ?_
    refine b21_32 ?_
    rw [mj_nb0]
    exact h1a
  · have h1a := h.2 (mj_bi1.mp c1)
    refine b21_8 ?_
    have g2 := h1a.1
    refine ⟨g2, ?_⟩
    have h2 := h1a.2
    refine ⟨fun c3 => ?_, fun c3 => ?_⟩
    · have h3a := h2.1 c3
      refine b21_27 ?_
      refine b21_32 ?_
      rw [mj_nb1]
      exact h3a
    · have h3a := h2.2 c3
      refine b21_17 ?_
      refine ⟨g2, ?_⟩
      refine ⟨fun c4 => ?_, fun c4 => ?_⟩
      · have h4a := h3a.1 c4
        refine b21_31 ?_
        refine b21_32 ?_
        rw [mj_nb0]
        exact h4a
      · have h4a := h3a.2 c4
        refine b21_27 ?_
        refine b21_32 ?_
        rw [mj_nb1]
        exact h4a
theorem e21 {M : mj_M} {K : mj_K} {x1 : Int32} (h : (¬ (p18 M x1) → K 0 0 M) ∧ ((p18 M x1) → vp_in x1 120 ∧ ((M 21 x1.toNatClampNeg = 0 → K 0 1 M) ∧ (¬ M 21 x1.toNatClampNeg = 0 → (¬ M 21 x1.toNatClampNeg = 1 → K 0 0 M) ∧ (M 21 x1.toNatClampNeg = 1 → K 0 1 M))))) : mj_Cm 21 2 [.ref 20, .int x1] M K := mj_en rfl rfl rfl (t21_0 h)
abbrev p21 (M : mj_M) (x1 : Int32) : Prop := ((p18 M x1) ∧ (M 21 x1.toNatClampNeg = 0 ∨ (M 21 x1.toNatClampNeg = 1)))
theorem sp21 {M : mj_M} {K : mj_K} {x1 : Int32} (q0 : (M 20 0).toInt ≤ ((120 : Nat) : Int)) (h : K 0 (mj_bi (p21 M x1)) M) : mj_Cm 21 2 [.ref 20, .int x1] M K := by
  refine e21 ?_
  refine ⟨fun c1 => ?_, fun c1 => ?_⟩
  · exact (show (mj_bi (p21 M x1)) = 0 from mj_bi_f (show ¬ p21 M x1 from by unfold p21; simp only [eq_false c1, not_true, not_false_eq_true, and_self, and_true, true_and, and_false, false_and, or_true, true_or, or_false, false_or, or_self])) ▸ h
  · refine ⟨by first | assumption | exact mj_ix2 (by assumption) (by assumption) (by assumption) | exact mj_ix2 c1.1 c1.2 (by assumption) | exact mj_ix2 c1.1.1 c1.1.2 (by assumption), ?_⟩
    refine ⟨fun c2 => ?_, fun c2 => ?_⟩
    · exact (show (mj_bi (p21 M x1)) = 1 from mj_bi_t (show p21 M x1 from by unfold p21; simp only [eq_true c1, eq_true c2, not_true, not_false_eq_true, and_self, and_true, true_and, and_false, false_and, or_true, true_or, or_false, false_or, or_self])) ▸ h
    · refine ⟨fun c3 => ?_, fun c3 => ?_⟩
      · exact (show (mj_bi (p21 M x1)) = 0 from mj_bi_f (show ¬ p21 M x1 from by unfold p21; simp only [eq_true c1, eq_false c2, eq_false c3, not_true, not_false_eq_true, and_self, and_true, true_and, and_false, false_and, or_true, true_or, or_false, false_or, or_self])) ▸ h
      · exact (show (mj_bi (p21 M x1)) = 1 from mj_bi_t (show p21 M x1 from by unfold p21; simp only [eq_true c1, eq_false c2, eq_true c3, not_true, not_false_eq_true, and_self, and_true, true_and, and_false, false_and, or_true, true_or, or_false, false_or, or_self])) ▸ h

theorem t22_0 {M : mj_M} {K : mj_K} {x1 : Int32} (h : (¬ (p18 M x1) → K 0 0 M) ∧ ((p18 M x1) → vp_in x1 120 ∧ (((M 24 x1.toNatClampNeg) &&& 2 = 0 → K 0 0 M) ∧ (¬ (M 24 x1.toNatClampNeg) &&& 2 = 0 → K 0 1 M)))) : mj_W 0 22 2 0 [some (.ref 20), some (.int x1)] [] M 0 K := by
  refine b22_0 ?_
  refine sp18  ?_
  refine b22_5 ?_
  refine ⟨fun c1 => ?_, fun c1 => ?_⟩
  · have h1a := h.1 (mj_bi0.mp c1)
    refine b22_23 ?_
    refine b22_24 ?_
    rw [mj_nb0]
    exact h1a
  · have h1a := h.2 (mj_bi1.mp c1)
    refine b22_8 ?_
    have g2 := h1a.1
    refine ⟨g2, ?_⟩
    have h2 := h1a.2
    refine ⟨fun c3 => ?_, fun c3 => ?_⟩
    · have h3a := h2.1 c3
      refine b22_23 ?_
      refine b22_24 ?_
      rw [mj_nb0]
      exact h3a
    · have h3a := h2.2 c3
      refine b22_19 ?_
      refine b22_24 ?_
      rw [mj_nb1]
      exact h3a
theorem e22 {M : mj_M} {K : mj_K} {x1 : Int32} (h : (¬ (p18 M x1) → K 0 0 M) ∧ ((p18 M x1) → vp_in x1 120 ∧ (((M 24 x1.toNatClampNeg) &&& 2 = 0 → K 0 0 M) ∧ (¬ (M 24 x1.toNatClampNeg) &&& 2 = 0 → K 0 1 M)))) : mj_Cm 22 2 [.ref 20, .int x1] M K := mj_en rfl rfl rfl (t22_0 h)
abbrev p22 (M : mj_M) (x1 : Int32) : Prop := ((p18 M x1) ∧ (¬ (M 24 x1.toNatClampNeg) &&& 2 = 0))
theorem sp22 {M : mj_M} {K : mj_K} {x1 : Int32} (q0 : (M 20 0).toInt ≤ ((120 : Nat) : Int)) (h : K 0 (mj_bi (p22 M x1)) M) : mj_Cm 22 2 [.ref 20, .int x1] M K := by
  refine e22 ?_
  refine ⟨fun c1 => ?_, fun c1 => ?_⟩
  · exact (show (mj_bi (p22 M x1)) = 0 from mj_bi_f (show ¬ p22 M x1 from by unfold p22; simp only [eq_false c1, not_true, not_false_eq_true, and_self, and_true, true_and, and_false, false_and, or_true, true_or, or_false, false_or, or_self])) ▸ h
  · refine ⟨by first | assumption | exact mj_ix2 (by assumption) (by assumption) (by assumption) | exact mj_ix2 c1.1 c1.2 (by assumption) | exact mj_ix2 c1.1.1 c1.1.2 (by assumption), ?_⟩
    refine ⟨fun c2 => ?_, fun c2 => ?_⟩
    · exact (show (mj_bi (p22 M x1)) = 0 from mj_bi_f (show ¬ p22 M x1 from by unfold p22; simp only [eq_true c1, eq_true c2, not_true, not_false_eq_true, and_self, and_true, true_and, and_false, false_and, or_true, true_or, or_false, false_or, or_self])) ▸ h
    · exact (show (mj_bi (p22 M x1)) = 1 from mj_bi_t (show p22 M x1 from by unfold p22; simp only [eq_true c1, eq_false c2, not_true, not_false_eq_true, and_self, and_true, true_and, and_false, false_and, or_true, true_or, or_false, false_or, or_self])) ▸ h

theorem t25_0 {M : mj_M} {K : mj_K} {x1 : Int32} {x2 : Int32} {x3 : Int32} (h : (¬ (p18 M x1) → K 0 0 M) ∧ ((p18 M x1) → ((p18 M x2) → vp_in x1 120 ∧ ((x3 = 0 → vp_in x2 120 ∧ ((M 26 x1.toNatClampNeg = M 26 x2.toNatClampNeg → (x2 ≤ x1 → K 0 0 M) ∧ (¬ x2 ≤ x1 → K 0 1 M)) ∧ (¬ M 26 x1.toNatClampNeg = M 26 x2.toNatClampNeg → (M 26 x2.toNatClampNeg ≤ M 26 x1.toNatClampNeg → K 0 0 M) ∧ (¬ M 26 x2.toNatClampNeg ≤ M 26 x1.toNatClampNeg → K 0 1 M)))) ∧ (¬ x3 = 0 → vp_in x2 120 ∧ (((M 24 x1.toNatClampNeg) &&& 1 = (M 24 x2.toNatClampNeg) &&& 1 → (M 26 x1.toNatClampNeg = M 26 x2.toNatClampNeg → (x2 ≤ x1 → K 0 0 M) ∧ (¬ x2 ≤ x1 → K 0 1 M)) ∧ (¬ M 26 x1.toNatClampNeg = M 26 x2.toNatClampNeg → (M 26 x2.toNatClampNeg ≤ M 26 x1.toNatClampNeg → K 0 0 M) ∧ (¬ M 26 x2.toNatClampNeg ≤ M 26 x1.toNatClampNeg → K 0 1 M))) ∧ (¬ (M 24 x1.toNatClampNeg) &&& 1 = (M 24 x2.toNatClampNeg) &&& 1 → ((M 24 x1.toNatClampNeg) &&& 1 = 0 → K 0 0 M) ∧ (¬ (M 24 x1.toNatClampNeg) &&& 1 = 0 → K 0 1 M)))))) ∧ (¬ (p18 M x2) → K 0 0 M))) : mj_W 0 25 2 0 [some (.ref 20), some (.int x1), some (.int x2), some (.int x3), none] [] M 0 K := by
  refine b25_0 ?_
  refine sp18  ?_
  refine b25_5 ?_
  refine ⟨fun c1 => ?_, fun c1 => ?_⟩
  · have h1a := h.1 (mj_bi0.mp c1)
    refine b25_16 ?_
    rw [mj_nb0]
    exact h1a
  · have h1a := h.2 (mj_bi1.mp c1)
    refine b25_8 ?_
    refine sp18  ?_
    refine b25_13 ?_
    refine ⟨fun c2 => ?_, fun c2 => ?_⟩
    · have h2a := h1a.1 (mj_bi1.mp c2)
      refine b25_18 ?_
      have g3 := h2a.1
      refine ⟨g3, ?_⟩
      have h3 := h2a.2
      refine ⟨fun c4 => ?_, fun c4 => ?_⟩
      · have h4a := h3.1 c4
        refine b25_56 ?_
        refine ⟨g3, ?_⟩
        have g5 := h4a.1
        refine ⟨g5, ?_⟩
        have h5 := h4a.2
        refine ⟨fun c6 => ?_, fun c6 => ?_⟩
        · have h6a := h5.1 c6
          refine b25_94 ?_
          refine ⟨fun c7 => ?_, fun c7 => ?_⟩
          · have h7a := h6a.1 c7
            refine b25_103 ?_
            refine b25_104 ?_
            rw [mj_nb0]
            exact h7a
          · have h7a := h6a.2 c7
            refine b25_99 ?_
            refine b25_104 ?_
            rw [mj_nb1]
            exact h7a
        · have h6a := h5.2 c6
          refine b25_71 ?_
          refine ⟨g3, ?_⟩
          refine ⟨g5, ?_⟩
          refine ⟨fun c8 => ?_, fun c8 => ?_⟩
          · have h8a := h6a.1 c8
            refine b25_90 ?_
            refine b25_104 ?_
            rw [mj_nb0]
            exact h8a
          · have h8a := h6a.2 c8
            refine b25_86 ?_
            refine b25_104 ?_
            rw [mj_nb1]
            exact h8a
      · have h4a := h3.2 c4
        refine b25_32 ?_
        have g9 := h4a.1
        refine ⟨g9, ?_⟩
        have h9 := h4a.2
        refine ⟨fun c10 => ?_, fun c10 => ?_⟩
        · have h10a := h9.1 c10
          refine b25_56 ?_
          refine ⟨g3, ?_⟩
          refine ⟨g9, ?_⟩
          refine ⟨fun c11 => ?_, fun c11 => ?_⟩
          · have h11a := h10a.1 c11
            refine b25_94 ?_
            refine ⟨fun c12 => ?_, fun c12 => ?_⟩
            · have h12a := h11a.1 c12
              refine b25_103 ?_
              refine b25_104 ?_
              rw [mj_nb0]
              exact h12a
            · have h12a := h11a.2 c12
              refine b25_99 ?_
              refine b25_104 ?_
              rw [mj_nb1]
              exact h12a
          · have h11a := h10a.2 c11
            refine b25_71 ?_
            refine ⟨g3, ?_⟩
            refine ⟨g9, ?_⟩
            refine ⟨fun c13 => ?_, fun c13 => ?_⟩
            · have h13a := h11a.1 c13
              refine b25_90 ?_
              refine b25_104 ?_
              rw [mj_nb0]
              exact h13a
            · have h13a := h11a.2 c13
              refine b25_86 ?_
              refine b25_104 ?_
              rw [mj_nb1]
              exact h13a
        · have h10a := h9.2 c10
          refine b25_45 ?_
          refine ⟨fun c14 => ?_, fun c14 => ?_⟩
          · have h14a := h10a.1 c14
            refine b25_54 ?_
            refine b25_55 ?_
            rw [mj_nb0]
            exact h14a
          · have h14a := h10a.2 c14
            refine b25_50 ?_
            refine b25_55 ?_
            rw [mj_nb1]
            exact h14a
    · have h2a := h1a.2 (mj_bi0.mp c2)
      refine b25_16 ?_
      rw [mj_nb0]
      exact h2a
theorem e25 {M : mj_M} {K : mj_K} {x1 : Int32} {x2 : Int32} {x3 : Int32} (h : (¬ (p18 M x1) → K 0 0 M) ∧ ((p18 M x1) → ((p18 M x2) → vp_in x1 120 ∧ ((x3 = 0 → vp_in x2 120 ∧ ((M 26 x1.toNatClampNeg = M 26 x2.toNatClampNeg → (x2 ≤ x1 → K 0 0 M) ∧ (¬ x2 ≤ x1 → K 0 1 M)) ∧ (¬ M 26 x1.toNatClampNeg = M 26 x2.toNatClampNeg → (M 26 x2.toNatClampNeg ≤ M 26 x1.toNatClampNeg → K 0 0 M) ∧ (¬ M 26 x2.toNatClampNeg ≤ M 26 x1.toNatClampNeg → K 0 1 M)))) ∧ (¬ x3 = 0 → vp_in x2 120 ∧ (((M 24 x1.toNatClampNeg) &&& 1 = (M 24 x2.toNatClampNeg) &&& 1 → (M 26 x1.toNatClampNeg = M 26 x2.toNatClampNeg → (x2 ≤ x1 → K 0 0 M) ∧ (¬ x2 ≤ x1 → K 0 1 M)) ∧ (¬ M 26 x1.toNatClampNeg = M 26 x2.toNatClampNeg → (M 26 x2.toNatClampNeg ≤ M 26 x1.toNatClampNeg → K 0 0 M) ∧ (¬ M 26 x2.toNatClampNeg ≤ M 26 x1.toNatClampNeg → K 0 1 M))) ∧ (¬ (M 24 x1.toNatClampNeg) &&& 1 = (M 24 x2.toNatClampNeg) &&& 1 → ((M 24 x1.toNatClampNeg) &&& 1 = 0 → K 0 0 M) ∧ (¬ (M 24 x1.toNatClampNeg) &&& 1 = 0 → K 0 1 M)))))) ∧ (¬ (p18 M x2) → K 0 0 M))) : mj_Cm 25 2 [.ref 20, .int x1, .int x2, .int x3] M K := mj_en rfl rfl rfl (t25_0 h)
abbrev p25 (M : mj_M) (x1 : Int32) (x2 : Int32) (x3 : Int32) : Prop := ((p18 M x1) ∧ ((p18 M x2) ∧ ((x3 = 0 ∧ ((M 26 x1.toNatClampNeg = M 26 x2.toNatClampNeg ∧ (¬ x2 ≤ x1)) ∨ (¬ M 26 x1.toNatClampNeg = M 26 x2.toNatClampNeg ∧ (¬ M 26 x2.toNatClampNeg ≤ M 26 x1.toNatClampNeg)))) ∨ (¬ x3 = 0 ∧ (((M 24 x1.toNatClampNeg) &&& 1 = (M 24 x2.toNatClampNeg) &&& 1 ∧ ((M 26 x1.toNatClampNeg = M 26 x2.toNatClampNeg ∧ (¬ x2 ≤ x1)) ∨ (¬ M 26 x1.toNatClampNeg = M 26 x2.toNatClampNeg ∧ (¬ M 26 x2.toNatClampNeg ≤ M 26 x1.toNatClampNeg)))) ∨ (¬ (M 24 x1.toNatClampNeg) &&& 1 = (M 24 x2.toNatClampNeg) &&& 1 ∧ (¬ (M 24 x1.toNatClampNeg) &&& 1 = 0)))))))
theorem sp25 {M : mj_M} {K : mj_K} {x1 : Int32} {x2 : Int32} {x3 : Int32} (q0 : (M 20 0).toInt ≤ ((120 : Nat) : Int)) (h : K 0 (mj_bi (p25 M x1 x2 x3)) M) : mj_Cm 25 2 [.ref 20, .int x1, .int x2, .int x3] M K := by
  refine e25 ?_
  refine ⟨fun c1 => ?_, fun c1 => ?_⟩
  · exact (show (mj_bi (p25 M x1 x2 x3)) = 0 from mj_bi_f (show ¬ p25 M x1 x2 x3 from by unfold p25; simp only [eq_false c1, not_true, not_false_eq_true, and_self, and_true, true_and, and_false, false_and, or_true, true_or, or_false, false_or, or_self])) ▸ h
  · refine ⟨fun c2 => ?_, fun c2 => ?_⟩
    · refine ⟨by first | assumption | exact mj_ix2 (by assumption) (by assumption) (by assumption) | exact mj_ix2 c1.1 c1.2 (by assumption) | exact mj_ix2 c2.1 c2.2 (by assumption) | exact mj_ix2 c1.1.1 c1.1.2 (by assumption) | exact mj_ix2 c2.1.1 c2.1.2 (by assumption), ?_⟩
      refine ⟨fun c3 => ?_, fun c3 => ?_⟩
      · refine ⟨by first | assumption | exact mj_ix2 (by assumption) (by assumption) (by assumption) | exact mj_ix2 c1.1 c1.2 (by assumption) | exact mj_ix2 c2.1 c2.2 (by assumption) | exact mj_ix2 c3.1 c3.2 (by assumption) | exact mj_ix2 c1.1.1 c1.1.2 (by assumption) | exact mj_ix2 c2.1.1 c2.1.2 (by assumption) | exact mj_ix2 c3.1.1 c3.1.2 (by assumption), ?_⟩
        refine ⟨fun c4 => ?_, fun c4 => ?_⟩
        · refine ⟨fun c5 => ?_, fun c5 => ?_⟩
          · exact (show (mj_bi (p25 M x1 x2 x3)) = 0 from mj_bi_f (show ¬ p25 M x1 x2 x3 from by unfold p25; simp only [eq_true c1, eq_true c2, eq_true c3, eq_true c4, eq_true c5, not_true, not_false_eq_true, and_self, and_true, true_and, and_false, false_and, or_true, true_or, or_false, false_or, or_self])) ▸ h
          · exact (show (mj_bi (p25 M x1 x2 x3)) = 1 from mj_bi_t (show p25 M x1 x2 x3 from by unfold p25; simp only [eq_true c1, eq_true c2, eq_true c3, eq_true c4, eq_false c5, not_true, not_false_eq_true, and_self, and_true, true_and, and_false, false_and, or_true, true_or, or_false, false_or, or_self])) ▸ h
        · refine ⟨fun c6 => ?_, fun c6 => ?_⟩
          · exact (show (mj_bi (p25 M x1 x2 x3)) = 0 from mj_bi_f (show ¬ p25 M x1 x2 x3 from by unfold p25; simp only [eq_true c1, eq_true c2, eq_true c3, eq_false c4, eq_true c6, not_true, not_false_eq_true, and_self, and_true, true_and, and_false, false_and, or_true, true_or, or_false, false_or, or_self])) ▸ h
          · exact (show (mj_bi (p25 M x1 x2 x3)) = 1 from mj_bi_t (show p25 M x1 x2 x3 from by unfold p25; simp only [eq_true c1, eq_true c2, eq_true c3, eq_false c4, eq_false c6, not_true, not_false_eq_true, and_self, and_true, true_and, and_false, false_and, or_true, true_or, or_false, false_or, or_self])) ▸ h
      · refine ⟨by first | assumption | exact mj_ix2 (by assumption) (by assumption) (by assumption) | exact mj_ix2 c1.1 c1.2 (by assumption) | exact mj_ix2 c2.1 c2.2 (by assumption) | exact mj_ix2 c3.1 c3.2 (by assumption) | exact mj_ix2 c1.1.1 c1.1.2 (by assumption) | exact mj_ix2 c2.1.1 c2.1.2 (by assumption) | exact mj_ix2 c3.1.1 c3.1.2 (by assumption), ?_⟩
        refine ⟨fun c7 => ?_, fun c7 => ?_⟩
        · refine ⟨fun c8 => ?_, fun c8 => ?_⟩
          · refine ⟨fun c9 => ?_, fun c9 => ?_⟩
            · exact (show (mj_bi (p25 M x1 x2 x3)) = 0 from mj_bi_f (show ¬ p25 M x1 x2 x3 from by unfold p25; simp only [eq_true c1, eq_true c2, eq_false c3, eq_true c7, eq_true c8, eq_true c9, not_true, not_false_eq_true, and_self, and_true, true_and, and_false, false_and, or_true, true_or, or_false, false_or, or_self])) ▸ h
            · exact (show (mj_bi (p25 M x1 x2 x3)) = 1 from mj_bi_t (show p25 M x1 x2 x3 from by unfold p25; simp only [eq_true c1, eq_true c2, eq_false c3, eq_true c7, eq_true c8, eq_false c9, not_true, not_false_eq_true, and_self, and_true, true_and, and_false, false_and, or_true, true_or, or_false, false_or, or_self])) ▸ h
          · refine ⟨fun c10 => ?_, fun c10 => ?_⟩
            · exact (show (mj_bi (p25 M x1 x2 x3)) = 0 from mj_bi_f (show ¬ p25 M x1 x2 x3 from by unfold p25; simp only [eq_true c1, eq_true c2, eq_false c3, eq_true c7, eq_false c8, eq_true c10, not_true, not_false_eq_true, and_self, and_true, true_and, and_false, false_and, or_true, true_or, or_false, false_or, or_self])) ▸ h
            · exact (show (mj_bi (p25 M x1 x2 x3)) = 1 from mj_bi_t (show p25 M x1 x2 x3 from by unfold p25; simp only [eq_true c1, eq_true c2, eq_false c3, eq_true c7, eq_false c8, eq_false c10, not_true, not_false_eq_true, and_self, and_true, true_and, and_false, false_and, or_true, true_or, or_false, false_or, or_self])) ▸ h
        · refine ⟨fun c11 => ?_, fun c11 => ?_⟩
          · exact (show (mj_bi (p25 M x1 x2 x3)) = 0 from mj_bi_f (show ¬ p25 M x1 x2 x3 from by unfold p25; simp only [eq_true c1, eq_true c2, eq_false c3, eq_false c7, eq_true c11, not_true, not_false_eq_true, and_self, and_true, true_and, and_false, false_and, or_true, true_or, or_false, false_or, or_self])) ▸ h
          · exact (show (mj_bi (p25 M x1 x2 x3)) = 1 from mj_bi_t (show p25 M x1 x2 x3 from by unfold p25; simp only [eq_true c1, eq_true c2, eq_false c3, eq_false c7, eq_false c11, not_true, not_false_eq_true, and_self, and_true, true_and, and_false, false_and, or_true, true_or, or_false, false_or, or_self])) ▸ h
    · exact (show (mj_bi (p25 M x1 x2 x3)) = 0 from mj_bi_f (show ¬ p25 M x1 x2 x3 from by unfold p25; simp only [eq_true c1, eq_false c2, not_true, not_false_eq_true, and_self, and_true, true_and, and_false, false_and, or_true, true_or, or_false, false_or, or_self])) ▸ h

theorem t29_0 {M : mj_M} {K : mj_K} {x1 : Int32} (h : (¬ (p27 M x1) → K 0 0 M) ∧ ((p27 M x1) → vp_in x1 12 ∧ ((M 31 x1.toNatClampNeg ≤ 0 → K 0 0 M) ∧ (¬ M 31 x1.toNatClampNeg ≤ 0 → K 0 1 M)))) : mj_W 0 29 2 0 [some (.ref 28), some (.int x1)] [] M 0 K := by
  refine b29_0 ?_
  refine sp27  ?_
  refine b29_5 ?_
  refine ⟨fun c1 => ?_, fun c1 => ?_⟩
  · have h1a := h.1 (mj_bi0.mp c1)
    refine b29_21 ?_
    refine b29_22 ?_
    rw [mj_nb0]
    exact h1a
  · have h1a := h.2 (mj_bi1.mp c1)
    refine b29_8 ?_
    have g2 := h1a.1
    refine ⟨g2, ?_⟩
    have h2 := h1a.2
    refine ⟨fun c3 => ?_, fun c3 => ?_⟩
    · have h3a := h2.1 c3
      refine b29_21 ?_
      refine b29_22 ?_
      rw [mj_nb0]
      exact h3a
    · have h3a := h2.2 c3
      refine b29_17 ?_
      refine b29_22 ?_
      rw [mj_nb1]
      exact h3a
theorem e29 {M : mj_M} {K : mj_K} {x1 : Int32} (h : (¬ (p27 M x1) → K 0 0 M) ∧ ((p27 M x1) → vp_in x1 12 ∧ ((M 31 x1.toNatClampNeg ≤ 0 → K 0 0 M) ∧ (¬ M 31 x1.toNatClampNeg ≤ 0 → K 0 1 M)))) : mj_Cm 29 2 [.ref 28, .int x1] M K := mj_en rfl rfl rfl (t29_0 h)
abbrev p29 (M : mj_M) (x1 : Int32) : Prop := ((p27 M x1) ∧ (¬ M 31 x1.toNatClampNeg ≤ 0))
theorem sp29 {M : mj_M} {K : mj_K} {x1 : Int32} (q0 : (M 28 0).toInt ≤ ((12 : Nat) : Int)) (h : K 0 (mj_bi (p29 M x1)) M) : mj_Cm 29 2 [.ref 28, .int x1] M K := by
  refine e29 ?_
  refine ⟨fun c1 => ?_, fun c1 => ?_⟩
  · exact (show (mj_bi (p29 M x1)) = 0 from mj_bi_f (show ¬ p29 M x1 from by unfold p29; simp only [eq_false c1, not_true, not_false_eq_true, and_self, and_true, true_and, and_false, false_and, or_true, true_or, or_false, false_or, or_self])) ▸ h
  · refine ⟨by first | assumption | exact mj_ix2 (by assumption) (by assumption) (by assumption) | exact mj_ix2 c1.1 c1.2 (by assumption) | exact mj_ix2 c1.1.1 c1.1.2 (by assumption), ?_⟩
    refine ⟨fun c2 => ?_, fun c2 => ?_⟩
    · exact (show (mj_bi (p29 M x1)) = 0 from mj_bi_f (show ¬ p29 M x1 from by unfold p29; simp only [eq_true c1, eq_true c2, not_true, not_false_eq_true, and_self, and_true, true_and, and_false, false_and, or_true, true_or, or_false, false_or, or_self])) ▸ h
    · exact (show (mj_bi (p29 M x1)) = 1 from mj_bi_t (show p29 M x1 from by unfold p29; simp only [eq_true c1, eq_false c2, not_true, not_false_eq_true, and_self, and_true, true_and, and_false, false_and, or_true, true_or, or_false, false_or, or_self])) ▸ h

theorem t35_0 {M : mj_M} {K : mj_K} {x0 : Int32} {x1 : Int32} {x2 : Int32} (h : (x0 < 0 → K 0 (-1) M) ∧ (¬ x0 < 0 → (4 ≤ x0 → K 0 (-1) M) ∧ (¬ 4 ≤ x0 → (x1 < 0 → K 0 (-1) M) ∧ (¬ x1 < 0 → (10 ≤ x1 → K 0 (-1) M) ∧ (¬ 10 ≤ x1 → (x2 < 0 → K 0 (-1) M) ∧ (¬ x2 < 0 → (10 ≤ x2 → K 0 (-1) M) ∧ (¬ 10 ≤ x2 → K 0 ((x0 * 10 + x1) * 10 + x2) M))))))) : mj_W 0 35 1 0 [some (.int x0), some (.int x1), some (.int x2), none] [] M 0 K := by
  refine b35_0 ?_
  refine ⟨fun c1 => ?_, fun c1 => ?_⟩
  · have h1a := h.1 c1
    refine b35_33 ?_
    refine b35_34 ?_
    refine ⟨fun _ => ?_, fun c => absurd c (by decide)⟩
    · refine b35_53 ?_
      refine b35_54 ?_
      exact h1a
  · have h1a := h.2 c1
    refine b35_4 ?_
    refine ⟨fun c2 => ?_, fun c2 => ?_⟩
    · have h2a := h1a.1 c2
      refine b35_33 ?_
      refine b35_34 ?_
      refine ⟨fun _ => ?_, fun c => absurd c (by decide)⟩
      · refine b35_53 ?_
        refine b35_54 ?_
        exact h2a
    · have h2a := h1a.2 c2
      refine b35_9 ?_
      refine ⟨fun c3 => ?_, fun c3 => ?_⟩
      · have h3a := h2a.1 c3
        refine b35_33 ?_
        refine b35_34 ?_
        refine ⟨fun _ => ?_, fun c => absurd c (by decide)⟩
        · refine b35_53 ?_
          refine b35_54 ?_
          exact h3a
      · have h3a := h2a.2 c3
        refine b35_13 ?_
        refine ⟨fun c4 => ?_, fun c4 => ?_⟩
        · have h4a := h3a.1 c4
          refine b35_33 ?_
          refine b35_34 ?_
          refine ⟨fun _ => ?_, fun c => absurd c (by decide)⟩
          · refine b35_53 ?_
            refine b35_54 ?_
            exact h4a
        · have h4a := h3a.2 c4
          refine b35_19 ?_
          refine ⟨fun c5 => ?_, fun c5 => ?_⟩
          · have h5a := h4a.1 c5
            refine b35_33 ?_
            refine b35_34 ?_
            refine ⟨fun _ => ?_, fun c => absurd c (by decide)⟩
            · refine b35_53 ?_
              refine b35_54 ?_
              exact h5a
          · have h5a := h4a.2 c5
            refine b35_23 ?_
            refine ⟨fun c6 => ?_, fun c6 => ?_⟩
            · have h6a := h5a.1 c6
              refine b35_33 ?_
              refine b35_34 ?_
              refine ⟨fun _ => ?_, fun c => absurd c (by decide)⟩
              · refine b35_53 ?_
                refine b35_54 ?_
                exact h6a
            · have h6a := h5a.2 c6
              refine b35_29 ?_
              refine b35_34 ?_
              refine ⟨fun c => absurd c (by decide), fun _ => ?_⟩
              · refine b35_39 ?_
                refine b35_54 ?_
                exact h6a
theorem e35 {M : mj_M} {K : mj_K} {x0 : Int32} {x1 : Int32} {x2 : Int32} (h : (x0 < 0 → K 0 (-1) M) ∧ (¬ x0 < 0 → (4 ≤ x0 → K 0 (-1) M) ∧ (¬ 4 ≤ x0 → (x1 < 0 → K 0 (-1) M) ∧ (¬ x1 < 0 → (10 ≤ x1 → K 0 (-1) M) ∧ (¬ 10 ≤ x1 → (x2 < 0 → K 0 (-1) M) ∧ (¬ x2 < 0 → (10 ≤ x2 → K 0 (-1) M) ∧ (¬ 10 ≤ x2 → K 0 ((x0 * 10 + x1) * 10 + x2) M))))))) : mj_Cm 35 1 [.int x0, .int x1, .int x2] M K := mj_en rfl rfl rfl (t35_0 h)
def f35 (M : mj_M) (x0 : Int32) (x1 : Int32) (x2 : Int32) : Int32 := if x0 < 0 then (-1) else if 4 ≤ x0 then (-1) else if x1 < 0 then (-1) else if 10 ≤ x1 then (-1) else if x2 < 0 then (-1) else if 10 ≤ x2 then (-1) else (x0 * 10 + x1) * 10 + x2
theorem sp35 {M : mj_M} {K : mj_K} {x0 : Int32} {x1 : Int32} {x2 : Int32}  (h : K 0 (f35 M x0 x1 x2) M) : mj_Cm 35 1 [.int x0, .int x1, .int x2] M K := by
  refine e35 ?_
  refine ⟨fun c1 => ?_, fun c1 => ?_⟩
  · exact (show f35 M x0 x1 x2 = (-1) from by unfold f35; rw [if_pos c1]) ▸ h
  · refine ⟨fun c2 => ?_, fun c2 => ?_⟩
    · exact (show f35 M x0 x1 x2 = (-1) from by unfold f35; rw [if_neg c1, if_pos c2]) ▸ h
    · refine ⟨fun c3 => ?_, fun c3 => ?_⟩
      · exact (show f35 M x0 x1 x2 = (-1) from by unfold f35; rw [if_neg c1, if_neg c2, if_pos c3]) ▸ h
      · refine ⟨fun c4 => ?_, fun c4 => ?_⟩
        · exact (show f35 M x0 x1 x2 = (-1) from by unfold f35; rw [if_neg c1, if_neg c2, if_neg c3, if_pos c4]) ▸ h
        · refine ⟨fun c5 => ?_, fun c5 => ?_⟩
          · exact (show f35 M x0 x1 x2 = (-1) from by unfold f35; rw [if_neg c1, if_neg c2, if_neg c3, if_neg c4, if_pos c5]) ▸ h
          · refine ⟨fun c6 => ?_, fun c6 => ?_⟩
            · exact (show f35 M x0 x1 x2 = (-1) from by unfold f35; rw [if_neg c1, if_neg c2, if_neg c3, if_neg c4, if_neg c5, if_pos c6]) ▸ h
            · exact (show f35 M x0 x1 x2 = (x0 * 10 + x1) * 10 + x2 from by unfold f35; rw [if_neg c1, if_neg c2, if_neg c3, if_neg c4, if_neg c5, if_neg c6]) ▸ h

theorem t4_0 {M : mj_M} {K : mj_K} {x1 : Int32} {x2 : Int32} (h : ((p0 M x1) → vp_in x1 10 ∧ ((¬ M 2 x1.toNatClampNeg = 0 → K 0 (if 0 < if M 3 x1.toNatClampNeg + M 6 x1.toNatClampNeg - M 5 x1.toNatClampNeg - M 4 x1.toNatClampNeg < x2 then M 3 x1.toNatClampNeg + M 6 x1.toNatClampNeg - M 5 x1.toNatClampNeg - M 4 x1.toNatClampNeg else x2 then if M 3 x1.toNatClampNeg + M 6 x1.toNatClampNeg - M 5 x1.toNatClampNeg - M 4 x1.toNatClampNeg < x2 then M 3 x1.toNatClampNeg + M 6 x1.toNatClampNeg - M 5 x1.toNatClampNeg - M 4 x1.toNatClampNeg else x2 else 0) M) ∧ (M 2 x1.toNatClampNeg = 0 → K 0 x2 M))) ∧ (¬ (p0 M x1) → K 0 0 M)) : mj_W 0 4 2 0 [some (.ref 1), some (.int x1), some (.int x2)] [] M 0 K := by
  refine b4_0 ?_
  refine sp0  ?_
  refine b4_5 ?_
  refine ⟨fun c1 => ?_, fun c1 => ?_⟩
  · have h1a := h.1 (mj_bi1.mp c1)
    refine b4_10 ?_
    have g2 := h1a.1
    refine ⟨g2, ?_⟩
    have h2 := h1a.2
    refine ⟨fun c3 => ?_, fun c3 => ?_⟩
    · have h3a := h2.1 c3
      refine b4_21 ?_
      refine ⟨g2, ?_⟩
      exact h3a
    · have h3a := h2.2 c3
      refine b4_19 ?_
      exact h3a
  · have h1a := h.2 (mj_bi0.mp c1)
    refine b4_8 ?_
    exact h1a
theorem e4 {M : mj_M} {K : mj_K} {x1 : Int32} {x2 : Int32} (h : ((p0 M x1) → vp_in x1 10 ∧ ((¬ M 2 x1.toNatClampNeg = 0 → K 0 (if 0 < if M 3 x1.toNatClampNeg + M 6 x1.toNatClampNeg - M 5 x1.toNatClampNeg - M 4 x1.toNatClampNeg < x2 then M 3 x1.toNatClampNeg + M 6 x1.toNatClampNeg - M 5 x1.toNatClampNeg - M 4 x1.toNatClampNeg else x2 then if M 3 x1.toNatClampNeg + M 6 x1.toNatClampNeg - M 5 x1.toNatClampNeg - M 4 x1.toNatClampNeg < x2 then M 3 x1.toNatClampNeg + M 6 x1.toNatClampNeg - M 5 x1.toNatClampNeg - M 4 x1.toNatClampNeg else x2 else 0) M) ∧ (M 2 x1.toNatClampNeg = 0 → K 0 x2 M))) ∧ (¬ (p0 M x1) → K 0 0 M)) : mj_Cm 4 2 [.ref 1, .int x1, .int x2] M K := mj_en rfl rfl rfl (t4_0 h)
def f4 (M : mj_M) (x1 : Int32) (x2 : Int32) : Int32 := if (p0 M x1) then (if M 2 x1.toNatClampNeg = 0 then x2 else (if 0 < if M 3 x1.toNatClampNeg + M 6 x1.toNatClampNeg - M 5 x1.toNatClampNeg - M 4 x1.toNatClampNeg < x2 then M 3 x1.toNatClampNeg + M 6 x1.toNatClampNeg - M 5 x1.toNatClampNeg - M 4 x1.toNatClampNeg else x2 then if M 3 x1.toNatClampNeg + M 6 x1.toNatClampNeg - M 5 x1.toNatClampNeg - M 4 x1.toNatClampNeg < x2 then M 3 x1.toNatClampNeg + M 6 x1.toNatClampNeg - M 5 x1.toNatClampNeg - M 4 x1.toNatClampNeg else x2 else 0)) else 0
theorem sp4 {M : mj_M} {K : mj_K} {x1 : Int32} {x2 : Int32} (q0 : (M 1 0).toInt ≤ ((10 : Nat) : Int)) (h : K 0 (f4 M x1 x2) M) : mj_Cm 4 2 [.ref 1, .int x1, .int x2] M K := by
  refine e4 ?_
  refine ⟨fun c1 => ?_, fun c1 => ?_⟩
  · refine ⟨by first | assumption | exact mj_ix2 (by assumption) (by assumption) (by assumption) | exact mj_ix2 c1.1 c1.2 (by assumption) | exact mj_ix2 c1.1.1 c1.1.2 (by assumption), ?_⟩
    refine ⟨fun c2 => ?_, fun c2 => ?_⟩
    · exact (show f4 M x1 x2 = if 0 < if M 3 x1.toNatClampNeg + M 6 x1.toNatClampNeg - M 5 x1.toNatClampNeg - M 4 x1.toNatClampNeg < x2 then M 3 x1.toNatClampNeg + M 6 x1.toNatClampNeg - M 5 x1.toNatClampNeg - M 4 x1.toNatClampNeg else x2 then if M 3 x1.toNatClampNeg + M 6 x1.toNatClampNeg - M 5 x1.toNatClampNeg - M 4 x1.toNatClampNeg < x2 then M 3 x1.toNatClampNeg + M 6 x1.toNatClampNeg - M 5 x1.toNatClampNeg - M 4 x1.toNatClampNeg else x2 else 0 from by unfold f4; rw [if_pos c1, if_neg c2]) ▸ h
    · exact (show f4 M x1 x2 = x2 from by unfold f4; rw [if_pos c1, if_pos c2]) ▸ h
  · exact (show f4 M x1 x2 = 0 from by unfold f4; rw [if_neg c1]) ▸ h

