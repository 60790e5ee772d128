-- THE MODEL'S METHODS, A
section MOA
variable {Z X : mj_M} {K : mj_K} {p l : Nat}
theorem mj_ql (h : mj_S Z) (hl : l < mj_nl Z) : vp_in (nI l) 14 := vp_in_nI (by have := mj_S_L h; omega) (by decide)
theorem mj_qlc (h : mj_S Z) (hl : l < mj_nl Z) : (nI l).toNatClampNeg = l := nI_clamp (by have := mj_S_L h; omega)
theorem mj_qr (h : mj_S Z) (hl : l < mj_nr Z) : vp_in (nI l) 10 := vp_in_nI (by have := mj_S_R h; omega) (by decide)
theorem mj_qrc (h : mj_S Z) (hl : l < mj_nr Z) : (nI l).toNatClampNeg = l := nI_clamp (by have := mj_S_R h; omega)
theorem mj_qt (h : mj_S Z) (hl : l < mj_nt Z) : vp_in (nI l) 12 := vp_in_nI (by have := (mj_S_T h).1; omega) (by decide)
theorem mj_qtc (h : mj_S Z) (hl : l < mj_nt Z) : (nI l).toNatClampNeg = l := nI_clamp (by have := (mj_S_T h).1; omega)
theorem mj_bit1 {x : Int32} (h : mj_bit x) : x = 1 ↔ ¬ x = 0 := by
  rcases h with rfl | rfl <;> decide
theorem sp108 (h : mj_S Z) (hl : l < mj_nl Z) (hK : K 0 (mj_ra Z l) (mj_mm Z X)) : mj_Cm 108 2 [.ref 0, .int (nI l)] (mj_mm Z X) K := by
  have hx := mj_ql h hl
  have hc := mj_qlc h hl
  have hb := (h.2.2.2.2.2.1 l hl).2.2.2.1
  unfold mj_ra at hK
  refine e108 ?_
  simp only [mj_rL0 hx, mj_wL0 hx, eq_true (mj_vL0 hx), mj_rL1 hx, mj_wL1 hx, eq_true (mj_vL1 hx), mj_rL2 hx, mj_wL2 hx, eq_true (mj_vL2 hx), mj_rL3 hx, mj_wL3 hx, eq_true (mj_vL3 hx), mj_rL4 hx, mj_wL4 hx, eq_true (mj_vL4 hx), mj_rL5 hx, mj_wL5 hx, eq_true (mj_vL5 hx), mj_rL6 hx, mj_wL6 hx, eq_true (mj_vL6 hx), mj_rL7 hx, mj_wL7 hx, eq_true (mj_vL7 hx), mj_rL8 hx, mj_wL8 hx, eq_true (mj_vL8 hx), mj_rL9 hx, mj_wL9 hx, eq_true (mj_vL9 hx), mj_rL10 hx, mj_wL10 hx, eq_true (mj_vL10 hx), hc, true_and]
  refine ⟨fun c => ?_, fun c => ?_⟩
  · rw [mj_bit1 hb] at c
    rw [if_pos (Decidable.not_not.mp c)] at hK
    exact hK
  · rw [mj_bit1 hb] at c
    rw [if_neg c] at hK
    exact hK
theorem sp109f (h : mj_S Z) (hl : l < mj_nl Z) (hK : K 0 (mj_bi (mj_fwd Z l)) (mj_mm Z X)) : mj_Cm 109 2 [.ref 0, .int (nI l), .int 0] (mj_mm Z X) K := by
  have hx := mj_ql h hl
  have hc := mj_qlc h hl
  have hb := (h.2.2.2.2.2.1 l hl).2.2.1
  have yes : mj_fwd Z l → K 0 1 (mj_mm Z X) := fun z => by rw [mj_bi_t z] at hK; exact hK
  have no : ¬ mj_fwd Z l → K 0 0 (mj_mm Z X) := fun z => by rw [mj_bi_f z] at hK; exact hK
  refine e109 ?_
  simp only [mj_rL0 hx, mj_wL0 hx, eq_true (mj_vL0 hx), mj_rL1 hx, mj_wL1 hx, eq_true (mj_vL1 hx), mj_rL2 hx, mj_wL2 hx, eq_true (mj_vL2 hx), mj_rL3 hx, mj_wL3 hx, eq_true (mj_vL3 hx), mj_rL4 hx, mj_wL4 hx, eq_true (mj_vL4 hx), mj_rL5 hx, mj_wL5 hx, eq_true (mj_vL5 hx), mj_rL6 hx, mj_wL6 hx, eq_true (mj_vL6 hx), mj_rL7 hx, mj_wL7 hx, eq_true (mj_vL7 hx), mj_rL8 hx, mj_wL8 hx, eq_true (mj_vL8 hx), mj_rL9 hx, mj_wL9 hx, eq_true (mj_vL9 hx), mj_rL10 hx, mj_wL10 hx, eq_true (mj_vL10 hx), hc, true_and, mj_rS1236, mj_wS1236, mj_rS1237, mj_wS1237, mj_rS1238, mj_wS1238, mj_rS1239, mj_wS1239, mj_rS1240, mj_wS1240, mj_rS1241, mj_wS1241]
  refine ⟨fun c => ?_, fun c => ⟨fun c2 => ?_, fun c2 => ⟨fun c3 => ⟨fun c4 => absurd trivial c4, fun _ => ?_⟩, fun c3 => ⟨fun _ => ?_, fun c4 => absurd c4 (by decide)⟩⟩⟩⟩
  · exact ⟨fun _ => yes (Or.inl c), fun _ => ⟨fun _ => yes (Or.inl c), fun c3 => absurd trivial c3⟩⟩
  · exact ⟨fun _ => yes (Or.inr (Or.inl c2)), fun _ => ⟨fun _ => yes (Or.inr (Or.inl c2)), fun c3 => absurd trivial c3⟩⟩
  · rw [mj_bit1 hb] at c3
    exact yes (Or.inr (Or.inr (Decidable.not_not.mp c3)))
  · rw [mj_bit1 hb] at c3
    exact no (fun z => z.elim (fun y => y c) (fun y => y.elim (fun w => w c2) (fun w => c3 w)))
theorem sp109b (h : mj_S Z) (hl : l < mj_nl Z) (hK : K 0 (mj_bi (mj_bwd Z l)) (mj_mm Z X)) : mj_Cm 109 2 [.ref 0, .int (nI l), .int 1] (mj_mm Z X) K := by
  have hx := mj_ql h hl
  have hc := mj_qlc h hl
  have hb := (h.2.2.2.2.2.1 l hl).2.2.1
  have ho := h.2.2.2.2.2.2.2
  have yes : mj_bwd Z l → K 0 1 (mj_mm Z X) := fun z => by rw [mj_bi_t z] at hK; exact hK
  have no : ¬ mj_bwd Z l → K 0 0 (mj_mm Z X) := fun z => by rw [mj_bi_f z] at hK; exact hK
  refine e109 ?_
  simp only [mj_rL0 hx, mj_wL0 hx, eq_true (mj_vL0 hx), mj_rL1 hx, mj_wL1 hx, eq_true (mj_vL1 hx), mj_rL2 hx, mj_wL2 hx, eq_true (mj_vL2 hx), mj_rL3 hx, mj_wL3 hx, eq_true (mj_vL3 hx), mj_rL4 hx, mj_wL4 hx, eq_true (mj_vL4 hx), mj_rL5 hx, mj_wL5 hx, eq_true (mj_vL5 hx), mj_rL6 hx, mj_wL6 hx, eq_true (mj_vL6 hx), mj_rL7 hx, mj_wL7 hx, eq_true (mj_vL7 hx), mj_rL8 hx, mj_wL8 hx, eq_true (mj_vL8 hx), mj_rL9 hx, mj_wL9 hx, eq_true (mj_vL9 hx), mj_rL10 hx, mj_wL10 hx, eq_true (mj_vL10 hx), hc, true_and, mj_rS1236, mj_wS1236, mj_rS1237, mj_wS1237, mj_rS1238, mj_wS1238, mj_rS1239, mj_wS1239, mj_rS1240, mj_wS1240, mj_rS1241, mj_wS1241]
  refine ⟨fun c => ⟨fun c2 => yes (Or.inl ⟨c, Or.inl c2⟩), fun c2 => ⟨fun c3 => absurd c3 (by decide), fun _ => ⟨fun c4 => ?_, fun c4 => ?_⟩⟩⟩, fun c => ⟨fun c2 => ?_, fun c2 => ⟨fun c3 => ⟨fun _ => ?_, fun c4 => absurd c4 (by decide)⟩, fun c3 => ⟨fun c4 => absurd trivial c4, fun _ => ?_⟩⟩⟩⟩
  · rw [mj_bit1 ho] at c4
    exact no (fun z => z.elim (fun y => y.2.elim (fun w => w c2) (fun w => c4 w)) (fun y => c y.1))
  · rw [mj_bit1 ho] at c4
    exact yes (Or.inl ⟨c, Or.inr c4⟩)
  · have : ¬ Z 9 l = 4 := by rw [c]; decide
    exact ⟨fun _ => yes (Or.inr ⟨c, Or.inl c2⟩), fun c3 => absurd c3 this⟩
  · rw [mj_bit1 hb] at c3
    exact no (fun z => z.elim (fun y => y.1 c) (fun y => y.2.elim (fun w => w c2) (fun w => c3 w)))
  · rw [mj_bit1 hb] at c3
    exact yes (Or.inr ⟨c, Or.inr c3⟩)
end MOA
