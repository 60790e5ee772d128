-- THE MODEL'S METHODS, C: next links, trains
section MOC
variable {Z X : mj_M} {K : mj_K} {p l t : Nat}
theorem mj_nx_same (h : mj_In Z) {c k : Int32} {a : Nat} : mj_nx Z c k a a = -1 := by
  rw [mj_nx_none h]
  intro l hl hP
  have s2 := mj_sp15 h l hl
  have h0 : mj_di Z c k a a = 0 := mj_ds_0
  have := hP.2.2
  omega
theorem sp113 (h : mj_Iv Z) (hp : p < mj_np Z) (hK : ∀ X', (∀ c, c ≠ 3 → X' c = X c) → K 0 (mj_nl1 Z p) (mj_mm Z X')) : mj_Cm 113 4 [.ref 0, .int (nI p)] (mj_mm Z X) K := by
  have hy := mj_qv h.s hp
  have hd := mj_qc h.s hp
  have hR := mj_S_R h.s
  have hL := mj_S_L h.s
  obtain ⟨a1, a2⟩ := mj_vin (h.a p hp).2.1
  obtain ⟨g1, g2⟩ := mj_vin (h.s.2.2.2.1 p hp).1
  unfold mj_nl1 at hK
  refine e113 ?_
  simp only [mj_rP0 hy, mj_wP0 hy, eq_true (mj_vP0 hy), mj_rP1 hy, mj_wP1 hy, eq_true (mj_vP1 hy), mj_rP2 hy, mj_wP2 hy, eq_true (mj_vP2 hy), mj_rP3 hy, mj_wP3 hy, eq_true (mj_vP3 hy), mj_rP4 hy, mj_wP4 hy, eq_true (mj_vP4 hy), mj_rP5 hy, mj_wP5 hy, eq_true (mj_vP5 hy), mj_rP6 hy, mj_wP6 hy, eq_true (mj_vP6 hy), mj_rP7 hy, mj_wP7 hy, eq_true (mj_vP7 hy), hd, true_and]
  refine ⟨fun c => ?_, fun c => ⟨fun c2 => ?_, fun c2 => ?_⟩⟩
  · rw [if_neg c] at hK
    exact hK X (fun _ _ => rfl)
  · rw [if_pos c] at hK
    rw [g1]
    refine sp111 h hp g2 (fun X' x1 x2 => t113_39 ?_)
    have hK' := hK X' x1
    have far0 := x2 _ a2
    have cs := mj_D_cases (c := Z 24 p) (k := Z 40 p) h.s.1 (Z 22 p).toNatClampNeg (Z 23 p).toNatClampNeg
    have main : (∀ l, l < 0 → ¬ mj_nP Z (Z 24 p) (Z 40 p) (Z 22 p).toNatClampNeg (Z 23 p).toNatClampNeg l) → ∀ o4, mj_W 1 113 4 41 [some (.ref 0), some (.int (nI p)), some (.int (Z 22 p)), some (.int (nI 0)), o4] [] (mj_mm Z X') 0 K := by
      refine mj_down (P := fun k => (∀ l, l < k → ¬ mj_nP Z (Z 24 p) (Z 40 p) (Z 22 p).toNatClampNeg (Z 23 p).toNatClampNeg l) → ∀ o4, mj_W 1 113 4 41 [some (.ref 0), some (.int (nI p)), some (.int (Z 22 p)), some (.int (nI k)), o4] [] (mj_mm Z X') 0 K) (mj_nl Z) ?_ ?_
      · intro hn o4
        rw [(mj_nx_none h.s.1).mpr hn] at hK'
        exact t113_41 ⟨fun _ => hK', fun c => absurd (mj_lle h.s rfl) c⟩
      · intro k hk ih hn o4
        have hx := mj_ql h.s hk
        have hc := mj_qlc h.s hk
        have s1 := mj_sp12 h.s.1 hk
        have s2 := mj_sp15 h.s.1 k hk
        have skip : ¬ mj_nP Z (Z 24 p) (Z 40 p) (Z 22 p).toNatClampNeg (Z 23 p).toNatClampNeg k → ∀ o4, mj_W 1 113 4 41 [some (.ref 0), some (.int (nI p)), some (.int (Z 22 p)), some (.int (nI k + 1)), o4] [] (mj_mm Z X') 0 K := by
          intro z o4
          rw [nI_1]
          refine ih (fun l hl => ?_) o4
          by_cases e : l = k
          · subst e; exact z
          · exact hn l (by omega)
        refine t113_41 ⟨fun c => (mj_lls h.s hk c).elim, fun _ => ?_⟩
        refine sp110 h hk hp (t113_59 ⟨fun d => ?_, fun d => ?_⟩)
        · rw [mj_bi0] at d
          refine skip (fun z => z.1 ?_) _
          unfold mj_rb
          rw [if_neg d]
        · rw [mj_bi1] at d
          have erb : mj_rb Z (Z 24 p) (Z 40 p) k (Z 22 p) = mj_beh Z k (Z 22 p) := by
            unfold mj_rb
            rw [if_pos d]
          refine sp112 h.s hk (t113_68 ⟨fun d2 => ?_, fun d2 => ⟨mj_r10 h.s (h.a p hp).2.1, ?_⟩⟩)
          · refine skip (fun z => z.1 ?_) _
            rw [← a1, erb]
            exact d2
          · have d2' : ¬ mj_rb Z (Z 24 p) (Z 40 p) k (Z 22 p) = -1 := by rw [erb]; exact d2
            obtain ⟨b, b1, b2, b3, b4, -⟩ := mj_beh_ok h.s.1 hk d2'
            have vb := mj_qr h.s b1
            have cb := mj_qrc h.s b1
            have farb := x2 b b1
            have cb2 := mj_D_cases (c := Z 24 p) (k := Z 40 p) h.s.1 b (Z 23 p).toNatClampNeg
            have hP : mj_nP Z (Z 24 p) (Z 40 p) (Z 22 p).toNatClampNeg (Z 23 p).toNatClampNeg k ↔ mj_di Z (Z 24 p) (Z 40 p) (Z 22 p).toNatClampNeg (Z 23 p).toNatClampNeg < 1000 ∧ mj_di Z (Z 24 p) (Z 40 p) b (Z 23 p).toNatClampNeg + mj_sp Z k = mj_di Z (Z 24 p) (Z 40 p) (Z 22 p).toNatClampNeg (Z 23 p).toNatClampNeg := by
              unfold mj_nP
              rw [← a1, b2, cb]
              exact ⟨fun z => z.2, fun z => ⟨mj_nI_m1 (by omega), z⟩⟩
            rw [b3]
            simp only [mj_rL0 hx, mj_wL0 hx, eq_true (mj_vL0 hx), mj_rL1 hx, mj_wL1 hx, eq_true (mj_vL1 hx), mj_rL2 hx, mj_wL2 hx, eq_true (mj_vL2 hx), mj_rL3 hx, mj_wL3 hx, eq_true (mj_vL3 hx), mj_rL4 hx, mj_wL4 hx, eq_true (mj_vL4 hx), mj_rL5 hx, mj_wL5 hx, eq_true (mj_vL5 hx), mj_rL6 hx, mj_wL6 hx, eq_true (mj_vL6 hx), mj_rL7 hx, mj_wL7 hx, eq_true (mj_vL7 hx), mj_rL8 hx, mj_wL8 hx, eq_true (mj_vL8 hx), mj_rL9 hx, mj_wL9 hx, eq_true (mj_vL9 hx), mj_rL10 hx, mj_wL10 hx, eq_true (mj_vL10 hx), hc, cb, true_and]
            have r3 : mj_mm Z X' 3 = X' 3 := rfl
            rw [r3]
            have iF : (1000000 : Int32).toInt = 1000000 := by decide
            refine ⟨fun d3 => skip (fun z => ?_) _, fun d3 => ⟨vb, fun d4 => skip (fun z => ?_) _, fun d4 => ?_⟩⟩
            · rw [hP] at z
              rw [mj_le, iF, far0, if_pos z.1] at d3
              omega
            · rw [hP] at z
              refine d4 ?_
              rw [if_pos z.1] at far0
              rw [if_pos (by omega)] at farb
              rw [mj_eq, fb_addI (by omega) (by omega)]
              omega
            · have z1 : mj_di Z (Z 24 p) (Z 40 p) (Z 22 p).toNatClampNeg (Z 23 p).toNatClampNeg < 1000 := by
                rw [mj_le, iF, far0] at d3
                by_cases y : mj_di Z (Z 24 p) (Z 40 p) (Z 22 p).toNatClampNeg (Z 23 p).toNatClampNeg < 1000
                · exact y
                · rw [if_neg y] at d3; omega
              rw [if_pos z1] at far0
              have fb1 : 0 ≤ (X' 3 b).toInt ∧ (X' 3 b).toInt ≤ 1000000 := by
                rw [farb]; split <;> omega
              rw [mj_eq, fb_addI (by omega) (by omega), far0, s1] at d4
              have z2 : mj_di Z (Z 24 p) (Z 40 p) b (Z 23 p).toNatClampNeg < 1000 := by
                by_cases y : mj_di Z (Z 24 p) (Z 40 p) b (Z 23 p).toNatClampNeg < 1000
                · exact y
                · rw [if_neg y] at farb; omega
              rw [if_pos z2] at farb
              have := mj_nx_is h.s.1 hk (hP.mpr ⟨z1, by omega⟩) hn
              rw [this] at hK'
              exact hK'
    exact main (fun l hl => absurd hl (Nat.not_lt_zero l)) none
  · rw [if_pos c, c2, mj_nx_same h.s.1] at hK
    exact hK X (fun _ _ => rfl)
-- trains
theorem sp125 (h : mj_Iv Z) (hp : p < mj_np Z) {r : Int32} (hK : K 0 (mj_bi (mj_wn Z r p)) (mj_mm Z X)) : mj_Cm 125 2 [.ref 0, .int (nI p), .int r] (mj_mm Z X) K := by
  have hy := mj_qv h.s hp
  have hd := mj_qc h.s hp
  have b := (h.s.2.2.2.1 p hp).2.2
  have yes : mj_wn Z r p → K 0 1 (mj_mm Z X) := fun z => by rw [mj_bi_t z] at hK; exact hK
  have no : ¬ mj_wn Z r p → K 0 0 (mj_mm Z X) := fun z => by rw [mj_bi_f z] at hK; exact hK
  refine e125 ?_
  simp only [mj_rP0 hy, mj_wP0 hy, eq_true (mj_vP0 hy), mj_rP1 hy, mj_wP1 hy, eq_true (mj_vP1 hy), mj_rP2 hy, mj_wP2 hy, eq_true (mj_vP2 hy), mj_rP3 hy, mj_wP3 hy, eq_true (mj_vP3 hy), mj_rP4 hy, mj_wP4 hy, eq_true (mj_vP4 hy), mj_rP5 hy, mj_wP5 hy, eq_true (mj_vP5 hy), mj_rP6 hy, mj_wP6 hy, eq_true (mj_vP6 hy), mj_rP7 hy, mj_wP7 hy, eq_true (mj_vP7 hy), hd, true_and]
  refine ⟨fun c => no (fun z => c z.1), fun c => ⟨fun c2 => no (fun z => c2 z.2.1), fun c2 => ⟨fun c3 => no (fun z => c3 z.2.2.1), fun c3 => ⟨fun c4 => no (fun z => ?_), fun c4 => yes ⟨c, c2, c3, ?_⟩⟩⟩⟩⟩
  · rw [mj_bit1 b] at c4
    exact c4 z.2.2.2
  · rw [mj_bit1 b] at c4
    exact c4
theorem sp126 (h : mj_Iv Z) {r : Int32} (hK : K 0 (mj_fi Z r (mj_np Z)) (mj_mm Z X)) : mj_Cm 126 3 [.ref 0, .int r] (mj_mm Z X) K := by
  refine e126 ?_
  refine mj_down (P := fun k => mj_W 1 126 3 4 [some (.ref 0), some (.int r), some (.int (mj_fi Z r k)), some (.int (nI k))] [] (mj_mm Z X) 0 K) (mj_np Z) ?_ ?_
  · exact t126_4 ⟨fun _ => hK, fun c => absurd (mj_pe h.s rfl) c⟩
  · intro k hk ih
    have hy := mj_qv h.s hk
    have hd := mj_qc h.s hk
    have hf : mj_fi Z r (k + 1) = if mj_wn Z r k ∧ (mj_fi Z r k = -1 ∨ Z 26 k < Z 26 (mj_fi Z r k).toNatClampNeg) then nI k else mj_fi Z r k := rfl
    rw [← nI_1] at ih
    refine t126_4 ⟨fun c => (mj_ps h.s hk c).elim, fun _ => sp125 h hk (t126_22 ⟨fun d => ?_, fun d => ⟨fun d2 => ?_, fun d2 => ?_⟩⟩)⟩
    · rw [mj_bi0] at d
      rw [hf, if_neg (fun z => d z.1)] at ih
      exact ih
    · rw [mj_bi1] at d
      rw [hf, if_pos ⟨d, Or.inl d2⟩] at ih
      exact ih
    · rw [mj_bi1] at d
      have hz := mj_fi_in h.s (by omega) d2
      simp only [mj_rP0 hy, mj_wP0 hy, eq_true (mj_vP0 hy), mj_rP1 hy, mj_wP1 hy, eq_true (mj_vP1 hy), mj_rP2 hy, mj_wP2 hy, eq_true (mj_vP2 hy), mj_rP3 hy, mj_wP3 hy, eq_true (mj_vP3 hy), mj_rP4 hy, mj_wP4 hy, eq_true (mj_vP4 hy), mj_rP5 hy, mj_wP5 hy, eq_true (mj_vP5 hy), mj_rP6 hy, mj_wP6 hy, eq_true (mj_vP6 hy), mj_rP7 hy, mj_wP7 hy, eq_true (mj_vP7 hy), mj_rP0 hz, mj_wP0 hz, eq_true (mj_vP0 hz), mj_rP1 hz, mj_wP1 hz, eq_true (mj_vP1 hz), mj_rP2 hz, mj_wP2 hz, eq_true (mj_vP2 hz), mj_rP3 hz, mj_wP3 hz, eq_true (mj_vP3 hz), mj_rP4 hz, mj_wP4 hz, eq_true (mj_vP4 hz), mj_rP5 hz, mj_wP5 hz, eq_true (mj_vP5 hz), mj_rP6 hz, mj_wP6 hz, eq_true (mj_vP6 hz), mj_rP7 hz, mj_wP7 hz, eq_true (mj_vP7 hz), hd, true_and]
      refine ⟨fun d3 => ?_, fun d3 => ?_⟩
      · rw [mj_le] at d3
        rw [hf, if_neg (fun z => z.2.elim d2 (fun y => by rw [mj_lt] at y; omega))] at ih
        exact ih
      · rw [mj_le] at d3
        rw [hf, if_pos ⟨d, Or.inr (by rw [mj_lt]; omega)⟩] at ih
        exact ih
end MOC
