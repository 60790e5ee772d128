-- THE MODEL'S METHODS, A
section MOA
variable {Z X : mj_M} {K : mj_K} {p l : Nat}
theorem mj_ql (h : mj_S Z) (hl : l < mj_nl Z) : vp_in (nI l) 14 := vp_in_nI (by have := mj_S_L h; omega) (by decide)
theorem mj_qlc (h : mj_S Z) (hl : l < mj_nl Z) : (nI l).toNatClampNeg = l := nI_clamp (by have := mj_S_L h; omega)
theorem mj_qr (h : mj_S Z) (hl : l < mj_nr Z) : vp_in (nI l) 10 := vp_in_nI (by have := mj_S_R h; omega) (by decide)
theorem mj_qrc (h : mj_S Z) (hl : l < mj_nr Z) : (nI l).toNatClampNeg = l := nI_clamp (by have := mj_S_R h; omega)
theorem mj_qt (h : mj_S Z) (hl : l < mj_nt Z) : vp_in (nI l) 12 := vp_in_nI (by have := (mj_S_T h).1; omega) (by decide)
theorem mj_qtc (h : mj_S Z) (hl : l < mj_nt Z) : (nI l).toNatClampNeg = l := nI_clamp (by have := (mj_S_T h).1; omega)
theorem mj_bit1 {x : Int32} (h : mj_bit x) : x = 1 ↔ ¬ x = 0 := by
  rcases h with rfl | rfl <;> decide
theorem sp108 (h : mj_S Z) (hl : l < mj_nl Z) (hK : K 0 (mj_ra Z l) (mj_mm Z X)) : mj_Cm 108 2 [.ref 0, .int (nI l)] (mj_mm Z X) K := by
  have hx := mj_ql h hl
  have hc := mj_qlc h hl
  have hb := (h.2.2.2.2.2.1 l hl).2.2.2.1
  unfold mj_ra at hK
  refine e108 ?_
  simp only [mj_rL0 hx, mj_wL0 hx, eq_true (mj_vL0 hx), mj_rL1 hx, mj_wL1 hx, eq_true (mj_vL1 hx), mj_rL2 hx, mj_wL2 hx, eq_true (mj_vL2 hx), mj_rL3 hx, mj_wL3 hx, eq_true (mj_vL3 hx), mj_rL4 hx, mj_wL4 hx, eq_true (mj_vL4 hx), mj_rL5 hx, mj_wL5 hx, eq_true (mj_vL5 hx), mj_rL6 hx, mj_wL6 hx, eq_true (mj_vL6 hx), mj_rL7 hx, mj_wL7 hx, eq_true (mj_vL7 hx), mj_rL8 hx, mj_wL8 hx, eq_true (mj_vL8 hx), mj_rL9 hx, mj_wL9 hx, eq_true (mj_vL9 hx), mj_rL10 hx, mj_wL10 hx, eq_true (mj_vL10 hx), hc, true_and]
  refine ⟨fun c => ?_, fun c => ?_⟩
  · rw [mj_bit1 hb] at c
    rw [if_pos (Decidable.not_not.mp c)] at hK
    exact hK
  · rw [mj_bit1 hb] at c
    rw [if_neg c] at hK
    exact hK
theorem sp109f (h : mj_S Z) (hl : l < mj_nl Z) (hK : K 0 (mj_bi (mj_fwd Z l)) (mj_mm Z X)) : mj_Cm 109 2 [.ref 0, .int (nI l), .int 0] (mj_mm Z X) K := by
  have hx := mj_ql h hl
  have hc := mj_qlc h hl
  have hb := (h.2.2.2.2.2.1 l hl).2.2.1
  have yes : mj_fwd Z l → K 0 1 (mj_mm Z X) := fun z => by rw [mj_bi_t z] at hK; exact hK
  have no : ¬ mj_fwd Z l → K 0 0 (mj_mm Z X) := fun z => by rw [mj_bi_f z] at hK; exact hK
  refine e109 ?_
  simp only [mj_rL0 hx, mj_wL0 hx, eq_true (mj_vL0 hx), mj_rL1 hx, mj_wL1 hx, eq_true (mj_vL1 hx), mj_rL2 hx, mj_wL2 hx, eq_true (mj_vL2 hx), mj_rL3 hx, mj_wL3 hx, eq_true (mj_vL3 hx), mj_rL4 hx, mj_wL4 hx, eq_true (mj_vL4 hx), mj_rL5 hx, mj_wL5 hx, eq_true (mj_vL5 hx), mj_rL6 hx, mj_wL6 hx, eq_true (mj_vL6 hx), mj_rL7 hx, mj_wL7 hx, eq_true (mj_vL7 hx), mj_rL8 hx, mj_wL8 hx, eq_true (mj_vL8 hx), mj_rL9 hx, mj_wL9 hx, eq_true (mj_vL9 hx), mj_rL10 hx, mj_wL10 hx, eq_true (mj_vL10 hx), hc, true_and, mj_rS1236, mj_wS1236, mj_rS1237, mj_wS1237, mj_rS1238, mj_wS1238, mj_rS1239, mj_wS1239, mj_rS1240, mj_wS1240, mj_rS1241, mj_wS1241]
  refine ⟨fun c => ?_, fun c => ⟨fun c2 => ?_, fun c2 => ⟨fun c3 => ⟨fun c4 => absurd trivial c4, fun _ => ?_⟩, fun c3 => ⟨fun _ => ?_, fun c4 => absurd c4 (by decide)⟩⟩⟩⟩
  · exact ⟨fun _ => yes (Or.inl c), fun _ => ⟨fun _ => yes (Or.inl c), fun c3 => absurd trivial c3⟩⟩
  · exact ⟨fun _ => yes (Or.inr (Or.inl c2)), fun _ => ⟨fun _ => yes (Or.inr (Or.inl c2)), fun c3 => absurd trivial c3⟩⟩
  · rw [mj_bit1 hb] at c3
    exact yes (Or.inr (Or.inr (Decidable.not_not.mp c3)))
  · rw [mj_bit1 hb] at c3
    exact no (fun z => z.elim (fun y => y c) (fun y => y.elim (fun w => w c2) (fun w => c3 w)))
theorem sp109b (h : mj_S Z) (hl : l < mj_nl Z) (hK : K 0 (mj_bi (mj_bwd Z l)) (mj_mm Z X)) : mj_Cm 109 2 [.ref 0, .int (nI l), .int 1] (mj_mm Z X) K := by
  have hx := mj_ql h hl
  have hc := mj_qlc h hl
  have hb := (h.2.2.2.2.2.1 l hl).2.2.1
  have ho := h.2.2.2.2.2.2.2
  have yes : mj_bwd Z l → K 0 1 (mj_mm Z X) := fun z => by rw [mj_bi_t z] at hK; exact hK
  have no : ¬ mj_bwd Z l → K 0 0 (mj_mm Z X) := fun z => by rw [mj_bi_f z] at hK; exact hK
  refine e109 ?_
  simp only [mj_rL0 hx, mj_wL0 hx, eq_true (mj_vL0 hx), mj_rL1 hx, mj_wL1 hx, eq_true (mj_vL1 hx), mj_rL2 hx, mj_wL2 hx, eq_true (mj_vL2 hx), mj_rL3 hx, mj_wL3 hx, eq_true (mj_vL3 hx), mj_rL4 hx, mj_wL4 hx, eq_true (mj_vL4 hx), mj_rL5 hx, mj_wL5 hx, eq_true (mj_vL5 hx), mj_rL6 hx, mj_wL6 hx, eq_true (mj_vL6 hx), mj_rL7 hx, mj_wL7 hx, eq_true (mj_vL7 hx), mj_rL8 hx, mj_wL8 hx, eq_true (mj_vL8 hx), mj_rL9 hx, mj_wL9 hx, eq_true (mj_vL9 hx), mj_rL10 hx, mj_wL10 hx, eq_true (mj_vL10 hx), hc, true_and, mj_rS1236, mj_wS1236, mj_rS1237, mj_wS1237, mj_rS1238, mj_wS1238, mj_rS1239, mj_wS1239, mj_rS1240, mj_wS1240, mj_rS1241, mj_wS1241]
  refine ⟨fun c => ⟨fun c2 => yes (Or.inl ⟨c, Or.inl c2⟩), fun c2 => ⟨fun c3 => absurd c3 (by decide), fun _ => ⟨fun c4 => ?_, fun c4 => ?_⟩⟩⟩, fun c => ⟨fun c2 => ?_, fun c2 => ⟨fun c3 => ⟨fun _ => ?_, fun c4 => absurd c4 (by decide)⟩, fun c3 => ⟨fun c4 => absurd trivial c4, fun _ => ?_⟩⟩⟩⟩
  · rw [mj_bit1 ho] at c4
    exact no (fun z => z.elim (fun y => y.2.elim (fun w => w c2) (fun w => c4 w)) (fun y => c y.1))
  · rw [mj_bit1 ho] at c4
    exact yes (Or.inl ⟨c, Or.inr c4⟩)
  · have : ¬ Z 9 l = 4 := by rw [c]; decide
    exact ⟨fun _ => yes (Or.inr ⟨c, Or.inl c2⟩), fun c3 => absurd c3 this⟩
  · rw [mj_bit1 hb] at c3
    exact no (fun z => z.elim (fun y => y.1 c) (fun y => y.2.elim (fun w => w c2) (fun w => c3 w)))
  · rw [mj_bit1 hb] at c3
    exact yes (Or.inr ⟨c, Or.inr c3⟩)
theorem sp110 (h : mj_Iv Z) (hl : l < mj_nl Z) (hp : p < mj_np Z) (hK : K 0 (mj_bi (mj_opn Z (Z 40 p) l ∧ mj_car Z (Z 24 p) l)) (mj_mm Z X)) : mj_Cm 110 2 [.ref 0, .int (nI l), .int (nI p)] (mj_mm Z X) K := by
  have hx := mj_ql h.s hl
  have hc := mj_qlc h.s hl
  have hy := mj_qv h.s hp
  have hd := mj_qc h.s hp
  obtain ⟨b1, b2, -⟩ := h.s.2.2.2.2.2.1 l hl
  have b3 := (h.a p hp).2.2.1
  have yes : mj_opn Z (Z 40 p) l ∧ mj_car Z (Z 24 p) l → K 0 1 (mj_mm Z X) := fun z => by rw [mj_bi_t z] at hK; exact hK
  have no : ¬ (mj_opn Z (Z 40 p) l ∧ mj_car Z (Z 24 p) l) → K 0 0 (mj_mm Z X) := fun z => by rw [mj_bi_f z] at hK; exact hK
  have car : mj_opn Z (Z 40 p) l → (Z 24 p = 0 → K 0 1 (mj_mm Z X)) ∧ (¬ Z 24 p = 0 → (Z 9 l = 0 → K 0 1 (mj_mm Z X)) ∧ (¬ Z 9 l = 0 → (Z 9 l = 2 → K 0 1 (mj_mm Z X)) ∧ (¬ Z 9 l = 2 → (¬ Z 9 l = 4 → K 0 0 (mj_mm Z X)) ∧ (Z 9 l = 4 → K 0 1 (mj_mm Z X))))) := by
    intro ho
    refine ⟨fun c => yes ⟨ho, Or.inl c⟩, fun c => ⟨fun c2 => yes ⟨ho, Or.inr (Or.inl c2)⟩, fun c2 => ⟨fun c3 => yes ⟨ho, Or.inr (Or.inr (Or.inl c3))⟩, fun c3 => ⟨fun c4 => no (fun z => ?_), fun c4 => yes ⟨ho, Or.inr (Or.inr (Or.inr c4))⟩⟩⟩⟩⟩
    exact z.2.elim c (fun y => y.elim c2 (fun y => y.elim c3 c4))
  refine e110 ?_
  simp only [mj_rL0 hx, mj_wL0 hx, eq_true (mj_vL0 hx), mj_rL1 hx, mj_wL1 hx, eq_true (mj_vL1 hx), mj_rL2 hx, mj_wL2 hx, eq_true (mj_vL2 hx), mj_rL3 hx, mj_wL3 hx, eq_true (mj_vL3 hx), mj_rL4 hx, mj_wL4 hx, eq_true (mj_vL4 hx), mj_rL5 hx, mj_wL5 hx, eq_true (mj_vL5 hx), mj_rL6 hx, mj_wL6 hx, eq_true (mj_vL6 hx), mj_rL7 hx, mj_wL7 hx, eq_true (mj_vL7 hx), mj_rL8 hx, mj_wL8 hx, eq_true (mj_vL8 hx), mj_rL9 hx, mj_wL9 hx, eq_true (mj_vL9 hx), mj_rL10 hx, mj_wL10 hx, eq_true (mj_vL10 hx), mj_rP0 hy, mj_wP0 hy, eq_true (mj_vP0 hy), mj_rP1 hy, mj_wP1 hy, eq_true (mj_vP1 hy), mj_rP2 hy, mj_wP2 hy, eq_true (mj_vP2 hy), mj_rP3 hy, mj_wP3 hy, eq_true (mj_vP3 hy), mj_rP4 hy, mj_wP4 hy, eq_true (mj_vP4 hy), mj_rP5 hy, mj_wP5 hy, eq_true (mj_vP5 hy), mj_rP6 hy, mj_wP6 hy, eq_true (mj_vP6 hy), mj_rP7 hy, mj_wP7 hy, eq_true (mj_vP7 hy), hc, hd, true_and]
  refine ⟨fun c => ⟨fun c2 => car ?_, fun c2 => no (fun z => ?_)⟩, fun c => ⟨fun c2 => car ?_, fun c2 => no (fun z => ?_)⟩⟩
  · rw [mj_bit1 b3] at c
    rw [mj_bit1 b2] at c2
    exact Or.inl ⟨Decidable.not_not.mp c, Decidable.not_not.mp c2⟩
  · rw [mj_bit1 b3] at c
    rw [mj_bit1 b2] at c2
    exact z.1.elim (fun y => c2 y.2) (fun y => c y.1)
  · rw [mj_bit1 b3] at c
    rw [mj_bit1 b1] at c2
    exact Or.inr ⟨c, Decidable.not_not.mp c2⟩
  · rw [mj_bit1 b3] at c
    rw [mj_bit1 b1] at c2
    exact z.1.elim (fun y => c y.1) (fun y => c2 y.2)
theorem sp112 (h : mj_S Z) (hl : l < mj_nl Z) {a : Int32} (hK : K 0 (mj_beh Z l a) (mj_mm Z X)) : mj_Cm 112 3 [.ref 0, .int (nI l), .int a] (mj_mm Z X) K := by
  have hx := mj_ql h hl
  have hc := mj_qlc h hl
  obtain ⟨-, -, hne, -⟩ := h.1.2.2 l hl
  unfold mj_beh at hK
  refine e112 ?_
  simp only [mj_rL0 hx, mj_wL0 hx, eq_true (mj_vL0 hx), mj_rL1 hx, mj_wL1 hx, eq_true (mj_vL1 hx), mj_rL2 hx, mj_wL2 hx, eq_true (mj_vL2 hx), mj_rL3 hx, mj_wL3 hx, eq_true (mj_vL3 hx), mj_rL4 hx, mj_wL4 hx, eq_true (mj_vL4 hx), mj_rL5 hx, mj_wL5 hx, eq_true (mj_vL5 hx), mj_rL6 hx, mj_wL6 hx, eq_true (mj_vL6 hx), mj_rL7 hx, mj_wL7 hx, eq_true (mj_vL7 hx), mj_rL8 hx, mj_wL8 hx, eq_true (mj_vL8 hx), mj_rL9 hx, mj_wL9 hx, eq_true (mj_vL9 hx), mj_rL10 hx, mj_wL10 hx, eq_true (mj_vL10 hx), hc, true_and]
  refine ⟨fun c => ⟨fun c2 => ?_, fun c2 => ?_⟩, fun c => ?_⟩
  · rw [if_neg (fun z => c z.1.symm), if_neg (fun z => c2 z.1.symm)] at hK
    exact hK
  · rw [if_neg (fun z => c z.1.symm)] at hK
    refine sp109b h hl (t112_52 ?_)
    simp only [mj_rL0 hx, mj_wL0 hx, eq_true (mj_vL0 hx), mj_rL1 hx, mj_wL1 hx, eq_true (mj_vL1 hx), mj_rL2 hx, mj_wL2 hx, eq_true (mj_vL2 hx), mj_rL3 hx, mj_wL3 hx, eq_true (mj_vL3 hx), mj_rL4 hx, mj_wL4 hx, eq_true (mj_vL4 hx), mj_rL5 hx, mj_wL5 hx, eq_true (mj_vL5 hx), mj_rL6 hx, mj_wL6 hx, eq_true (mj_vL6 hx), mj_rL7 hx, mj_wL7 hx, eq_true (mj_vL7 hx), mj_rL8 hx, mj_wL8 hx, eq_true (mj_vL8 hx), mj_rL9 hx, mj_wL9 hx, eq_true (mj_vL9 hx), mj_rL10 hx, mj_wL10 hx, eq_true (mj_vL10 hx), hc, true_and]
    refine ⟨fun d => ?_, fun d => ?_⟩
    · rw [mj_bi0] at d
      rw [if_neg (fun z => d z.2)] at hK
      exact hK
    · rw [mj_bi1] at d
      rw [if_pos ⟨c2.symm, d⟩] at hK
      exact hK
  · refine sp109f h hl (t112_18 ?_)
    simp only [mj_rL0 hx, mj_wL0 hx, eq_true (mj_vL0 hx), mj_rL1 hx, mj_wL1 hx, eq_true (mj_vL1 hx), mj_rL2 hx, mj_wL2 hx, eq_true (mj_vL2 hx), mj_rL3 hx, mj_wL3 hx, eq_true (mj_vL3 hx), mj_rL4 hx, mj_wL4 hx, eq_true (mj_vL4 hx), mj_rL5 hx, mj_wL5 hx, eq_true (mj_vL5 hx), mj_rL6 hx, mj_wL6 hx, eq_true (mj_vL6 hx), mj_rL7 hx, mj_wL7 hx, eq_true (mj_vL7 hx), mj_rL8 hx, mj_wL8 hx, eq_true (mj_vL8 hx), mj_rL9 hx, mj_wL9 hx, eq_true (mj_vL9 hx), mj_rL10 hx, mj_wL10 hx, eq_true (mj_vL10 hx), hc, true_and]
    refine ⟨fun d => ?_, fun d => ?_⟩
    · rw [mj_bi0] at d
      rw [if_neg (fun z => d z.2), if_neg (fun z => hne (by rw [c, z.1]))] at hK
      exact hK
    · rw [mj_bi1] at d
      rw [if_pos ⟨c.symm, d⟩] at hK
      exact hK
theorem sp114 (h : mj_S Z) {r : Nat} (hr : r < mj_nr Z) {s : Int32} (hK : K 0 (nI (mj_ct Z r s)) (mj_mm Z X)) : mj_Cm 114 2 [.ref 0, .int (nI r), .int s] (mj_mm Z X) K := by
  refine e114 ?_
  refine mj_down (P := fun k => mj_W 1 114 2 5 [some (.ref 0), some (.int (nI r)), some (.int s), some (.int (nI (mj_cb (fun p => decide (Z 22 p = nI r ∧ Z 21 p = s)) k))), some (.int (nI k))] [] (mj_mm Z X) 0 K) (mj_np Z) ?_ ?_
  · exact t114_5 ⟨fun _ => hK, fun c => absurd (mj_pe h rfl) c⟩
  · intro k hk ih
    have hy := mj_qv h hk
    have hd := mj_qc h hk
    have e : mj_cb (fun p => decide (Z 22 p = nI r ∧ Z 21 p = s)) (k + 1) = mj_cb (fun p => decide (Z 22 p = nI r ∧ Z 21 p = s)) k + (if decide (Z 22 k = nI r ∧ Z 21 k = s) = true then 1 else 0) := rfl
    rw [e, ← nI_1 k] at ih
    refine t114_5 ⟨fun c => (mj_ps h hk c).elim, fun _ => ?_⟩
    simp only [mj_rP0 hy, mj_wP0 hy, eq_true (mj_vP0 hy), mj_rP1 hy, mj_wP1 hy, eq_true (mj_vP1 hy), mj_rP2 hy, mj_wP2 hy, eq_true (mj_vP2 hy), mj_rP3 hy, mj_wP3 hy, eq_true (mj_vP3 hy), mj_rP4 hy, mj_wP4 hy, eq_true (mj_vP4 hy), mj_rP5 hy, mj_wP5 hy, eq_true (mj_vP5 hy), mj_rP6 hy, mj_wP6 hy, eq_true (mj_vP6 hy), mj_rP7 hy, mj_wP7 hy, eq_true (mj_vP7 hy), hd, true_and]
    have z0 : ∀ x : Int32, x + 0 = x := fun x => by grind
    refine ⟨fun c => ?_, fun c => ⟨fun c2 => ?_, fun c2 => ?_⟩⟩
    · rw [if_neg (fun z => c (of_decide_eq_true z).1), Nat.add_zero] at ih
      rw [z0]
      exact ih
    · rw [if_neg (fun z => c2 (of_decide_eq_true z).2), Nat.add_zero] at ih
      rw [z0]
      exact ih
    · rw [if_pos (decide_eq_true ⟨c, c2⟩), ← nI_1] at ih
      exact ih
/-- how many more a room holds, as the model counts -/
def mj_pl (Z : mj_M) (r : Nat) : Int32 := if Z 2 r = 0 then 1000000 else Z 3 r - nI (mj_ct Z r 0) - nI (mj_ct Z r 1)
theorem sp115 (h : mj_S Z) {r : Nat} (hr : r < mj_nr Z) (hK : K 0 (mj_pl Z r) (mj_mm Z X)) : mj_Cm 115 3 [.ref 0, .int (nI r)] (mj_mm Z X) K := by
  have hx := mj_qr h hr
  have hc := mj_qrc h hr
  unfold mj_pl at hK
  refine e115 ?_
  simp only [mj_rR0 hx, mj_wR0 hx, eq_true (mj_vR0 hx), mj_rR1 hx, mj_wR1 hx, eq_true (mj_vR1 hx), mj_rR2 hx, mj_wR2 hx, eq_true (mj_vR2 hx), mj_rR3 hx, mj_wR3 hx, eq_true (mj_vR3 hx), mj_rR4 hx, mj_wR4 hx, eq_true (mj_vR4 hx), hc, true_and]
  refine ⟨fun c => ?_, fun c => ?_⟩
  · rw [if_neg c] at hK
    exact sp114 h hr (t115_30 (sp114 h hr (t115_37 hK)))
  · rw [if_pos c] at hK
    exact hK
theorem mj_pl_ge (h : mj_Iv Z) {r m : Nat} (hr : r < mj_nr Z) (hm : m < 1000) : ¬ mj_pl Z r < nI m ↔ (Z 2 r = 0 ∨ ((mj_ct Z r 0 + mj_ct Z r 1 + m : Nat) : Int) ≤ (Z 3 r).toInt) := by
  obtain ⟨l1, l2⟩ := h.s.2.2.2.2.1 r hr
  have c1 : mj_ct Z r 0 ≤ 120 := Nat.le_trans (mj_cb_le _ _) (mj_S_P h.s).1
  have c2 : mj_ct Z r 1 ≤ 120 := Nat.le_trans (mj_cb_le _ _) (mj_S_P h.s).1
  have n0 := nI_toInt (show mj_ct Z r 0 < 2 ^ 31 by omega)
  have n1 := nI_toInt (show mj_ct Z r 1 < 2 ^ 31 by omega)
  have nm := nI_toInt (show m < 2 ^ 31 by omega)
  have e1 : (Z 3 r - nI (mj_ct Z r 0)).toInt = (Z 3 r).toInt - mj_ct Z r 0 := by
    rw [fb_subI (by omega) (by omega), n0]
  have eI : (Z 3 r - nI (mj_ct Z r 0) - nI (mj_ct Z r 1)).toInt = (Z 3 r).toInt - mj_ct Z r 0 - mj_ct Z r 1 := by
    rw [fb_subI (by omega) (by omega), e1, n1]
  unfold mj_pl
  by_cases z : Z 2 r = 0
  · rw [if_pos z, mj_lt, nm, show (1000000 : Int32).toInt = 1000000 from by decide]
    exact ⟨fun _ => Or.inl z, fun _ => by omega⟩
  · rw [if_neg z, mj_lt, nm, eI]
    constructor
    · intro y; exact Or.inr (by omega)
    · rintro (y | y)
      · exact absurd y z
      · omega
theorem sp116 (h : mj_Iv Z) (hp : p < mj_np Z) (hK : K 0 0 (mj_mm (mj_oA p Z) X)) : mj_Cm 116 2 [.ref 0, .int (nI p)] (mj_mm Z X) K := by
  have hy := mj_qv h.s hp
  have hd := mj_qc h.s hp
  have hr := mj_r10 h.s (h.a p hp).2.1
  unfold mj_oA at hK
  refine e116 ?_
  simp only [mj_rP0 hy, mj_wP0 hy, eq_true (mj_vP0 hy), mj_rP1 hy, mj_wP1 hy, eq_true (mj_vP1 hy), mj_rP2 hy, mj_wP2 hy, eq_true (mj_vP2 hy), mj_rP3 hy, mj_wP3 hy, eq_true (mj_vP3 hy), mj_rP4 hy, mj_wP4 hy, eq_true (mj_vP4 hy), mj_rP5 hy, mj_wP5 hy, eq_true (mj_vP5 hy), mj_rP6 hy, mj_wP6 hy, eq_true (mj_vP6 hy), mj_rP7 hy, mj_wP7 hy, eq_true (mj_vP7 hy), hd, mj_rR0 hr, mj_wR0 hr, eq_true (mj_vR0 hr), mj_rR1 hr, mj_wR1 hr, eq_true (mj_vR1 hr), mj_rR2 hr, mj_wR2 hr, eq_true (mj_vR2 hr), mj_rR3 hr, mj_wR3 hr, eq_true (mj_vR3 hr), mj_rR4 hr, mj_wR4 hr, eq_true (mj_vR4 hr), true_and]
  refine ⟨fun c => ?_, fun c => ⟨fun c2 => ?_, fun c2 => ⟨fun c3 => ?_, fun c3 => ?_⟩⟩⟩
  · rw [if_neg (fun z => c z.1)] at hK
    exact hK
  · rw [if_neg (fun z => c2 z.2.1)] at hK
    exact hK
  · rw [if_neg (fun z => c3 z.2.2)] at hK
    exact hK
  · rw [if_pos ⟨c, c2, c3⟩] at hK
    exact hK
end MOA
