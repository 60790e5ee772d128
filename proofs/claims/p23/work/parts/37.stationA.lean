-- THE STATION'S METHODS, A
theorem mj_down {P : Nat → Prop} (n : Nat) (h1 : P n) (h2 : ∀ k, k < n → P (k + 1) → P k) : P 0 := by
  have key : ∀ r k, k + r = n → P k := by
    intro r
    induction r with
    | zero => intro k hk; rw [show k = n by omega]; exact h1
    | succ r ih => intro k hk; exact h2 k (by omega) (ih (k + 1) (by omega))
  exact key n 0 (by omega)
section STA
variable {Z Y : mj_M} {K : mj_K} {p : Nat}
theorem mj_q18 (h : mj_S Z) (hp : p < mj_np Z) : p18 (mj_cc Z Y) (nI p) := by
  obtain ⟨h1, h2⟩ := mj_S_P h
  refine ⟨nI_pos (by omega), ?_⟩
  show ¬ Z 20 0 ≤ nI p
  rw [h2]
  exact nI_ge hp (by omega)
theorem mj_qc (h : mj_S Z) (hp : p < mj_np Z) : (nI p).toNatClampNeg = p := nI_clamp (by have := (mj_S_P h).1; omega)
theorem mj_qv (h : mj_S Z) (hp : p < mj_np Z) : vp_in (nI p) 120 := vp_in_nI (by have := (mj_S_P h).1; omega) (by decide)
theorem mj_q20 (h : mj_S Z) (hp : p < mj_np Z) : p20 (mj_cc Z Y) (nI p) ↔ Z 21 p = 0 := by
  have hc := mj_qc h hp
  constructor
  · intro z
    have := z.2
    rw [hc] at this
    exact this
  · intro z
    refine ⟨mj_q18 h hp, ?_⟩
    rw [hc]
    exact z
theorem mj_q21 (h : mj_S Z) (hp : p < mj_np Z) : p21 (mj_cc Z Y) (nI p) ↔ Z 21 p = 0 ∨ Z 21 p = 1 := by
  have hc := mj_qc h hp
  constructor
  · intro z
    have := z.2
    rw [hc] at this
    exact this
  · intro z
    refine ⟨mj_q18 h hp, ?_⟩
    rw [hc]
    exact z
theorem mj_q22 (h : mj_S Z) (hk : mj_bit (Z 40 p)) (hp : p < mj_np Z) : p22 (mj_cc Z Y) (nI p) ↔ ¬ Z 40 p = 0 := by
  have hc := mj_qc h hp
  have hb := h.2.2.2.1 p hp
  have e : mj_cc Z Y 24 p = Z 24 p + 2 * Z 40 p := rfl
  obtain ⟨-, b2, -⟩ := mj_bits (Z 24 p) (Z 40 p) hb.2.1 hk
  constructor
  · intro z
    have := z.2
    rw [hc, e] at this
    exact fun y => this (b2.mpr y)
  · intro z
    refine ⟨mj_q18 h hp, ?_⟩
    rw [hc, e]
    exact fun y => z (b2.mp y)
theorem mj_q0 (h : mj_S Z) {x : Int32} (hx : vp_in x (mj_nr Z)) : p0 (mj_cc Z Y) x := by
  obtain ⟨e1, e2⟩ := mj_vin hx
  have hR := mj_S_R h
  rw [e1]
  refine ⟨nI_pos (by omega), ?_⟩
  show ¬ Z 1 0 ≤ _
  rw [mj_nrI h.1]
  exact nI_ge e2 (by omega)
theorem mj_q7 (h : mj_S Z) {l : Nat} (hl : l < mj_nl Z) : p7 (mj_cc Z Y) (nI l) := by
  have hL := mj_S_L h
  refine ⟨nI_pos (by omega), ?_⟩
  show ¬ Z 8 0 ≤ _
  rw [mj_nlI h.1]
  exact nI_ge hl (by omega)
theorem mj_q27 (h : mj_S Z) {t : Nat} (ht : t < mj_nt Z) : p27 (mj_cc Z Y) (nI t) := by
  obtain ⟨h1, h2⟩ := mj_S_T h
  refine ⟨nI_pos (by omega), ?_⟩
  show ¬ Z 28 0 ≤ _
  rw [h2]
  exact nI_ge ht (by omega)
theorem mj_r10 (h : mj_S Z) {x : Int32} (hx : vp_in x (mj_nr Z)) : vp_in x 10 := mj_vmono hx (mj_S_R h)
theorem mj_b20 (h : mj_S Z) : (mj_cc Z Y 20 0).toInt ≤ ((120 : Nat) : Int) := h.2.1.2
theorem mj_b10 (h : mj_S Z) : (mj_cc Z Y 1 0).toInt ≤ ((10 : Nat) : Int) := h.1.1.2
theorem mj_b80 (h : mj_S Z) : (mj_cc Z Y 8 0).toInt ≤ ((14 : Nat) : Int) := h.1.2.1.2
theorem mj_b28 (h : mj_S Z) : (mj_cc Z Y 28 0).toInt ≤ ((12 : Nat) : Int) := h.2.2.1.2
/-- the end of a loop over persons; a step of it -/
theorem mj_pe (h : mj_S Z) {n : Nat} (hn : n = mj_np Z) : Z 20 0 ≤ nI n := by
  obtain ⟨h1, h2⟩ := mj_S_P h
  rw [h2, hn]
  exact nI_le (Nat.le_refl _) (by omega)
theorem mj_ps (h : mj_S Z) (hp : p < mj_np Z) : ¬ Z 20 0 ≤ nI p := by
  obtain ⟨h1, h2⟩ := mj_S_P h
  rw [h2]
  exact nI_ge hp (by omega)
theorem mj_te (h : mj_S Z) {n : Nat} (hn : n = mj_nt Z) : Z 28 0 ≤ nI n := by
  obtain ⟨h1, h2⟩ := mj_S_T h
  rw [h2, hn]
  exact nI_le (Nat.le_refl _) (by omega)
theorem mj_ts (h : mj_S Z) (hp : p < mj_nt Z) : ¬ Z 28 0 ≤ nI p := by
  obtain ⟨h1, h2⟩ := mj_S_T h
  rw [h2]
  exact nI_ge hp (by omega)
theorem mj_rre (h : mj_S Z) {n : Nat} (hn : n = mj_nr Z) : Z 1 0 ≤ nI n := by
  have h1 := mj_S_R h
  rw [mj_nrI h.1, hn]
  exact nI_le (Nat.le_refl _) (by omega)
theorem mj_rrs (h : mj_S Z) (hp : p < mj_nr Z) : ¬ Z 1 0 ≤ nI p := by
  have h1 := mj_S_R h
  rw [mj_nrI h.1]
  exact nI_ge hp (by omega)
theorem mj_lle (h : mj_S Z) {n : Nat} (hn : n = mj_nl Z) : Z 8 0 ≤ nI n := by
  have h1 := mj_S_L h
  rw [mj_nlI h.1, hn]
  exact nI_le (Nat.le_refl _) (by omega)
theorem mj_lls (h : mj_S Z) (hp : p < mj_nl Z) : ¬ Z 8 0 ≤ nI p := by
  have h1 := mj_S_L h
  rw [mj_nlI h.1]
  exact nI_ge hp (by omega)
-- ways
theorem sp33 {M : mj_M} {w a g : Nat} (hw : w < 4) (ha : a < 10) (hg : g < 10) (hK : K 0 (M 37 (w * 100 + a * 10 + g)) M) : mj_Cm 33 2 [.ref 35, .int (nI w), .int (nI a), .int (nI g)] M K := by
  obtain ⟨f1, f2, f3, f4⟩ := mj_f35q (M := M) hw ha hg
  refine e33 ⟨fun _ => ⟨f3, ?_⟩, fun z => absurd z f4⟩
  rw [f2]
  exact hK
theorem sp32 {M : mj_M} {w a g : Nat} (hw : w < 4) (ha : a < 10) (hg : g < 10) (hK : K 0 (if M 36 (w * 100 + a * 10 + g) < 1000 then M 36 (w * 100 + a * 10 + g) else -1) M) : mj_Cm 32 2 [.ref 35, .int (nI w), .int (nI a), .int (nI g)] M K := by
  obtain ⟨f1, f2, f3, f4⟩ := mj_f35q (M := M) hw ha hg
  refine e32 ⟨fun z => absurd z f4, fun _ => ⟨f3, ?_⟩⟩
  rw [f2]
  refine ⟨fun c => ?_, fun c => ?_⟩
  · rw [if_pos c] at hK; exact hK
  · rw [if_neg c] at hK; exact hK
/-- the distance as the code has it -/
noncomputable def mj_dv (Z : mj_M) (c k : Int32) (a g : Nat) : Int32 := if mj_di Z c k a g < 1000 then nI (mj_di Z c k a g) else -1
theorem mj_wtv {u v : Nat → Int32} (h : mj_In Z) (hw : mj_wt Z u v) {c k : Int32} (hc : mj_bit c) (hk : mj_bit k) : ∃ w, w < 4 ∧ c + 2 * k = nI w ∧ ∀ a g, a < mj_nr Z → g < mj_nr Z → (if u (w * 100 + a * 10 + g) < 1000 then u (w * 100 + a * 10 + g) else -1) = mj_dv Z c k a g ∧ v (w * 100 + a * 10 + g) = mj_nx Z c k a g := by
  obtain ⟨w, w1, w2, w3, w4⟩ := mj_wd4b hc hk
  refine ⟨w, w1, w2, fun a g ha hg => ?_⟩
  obtain ⟨x1, x2⟩ := hw w w1 a g ha hg
  rw [w3, w4] at x1 x2
  refine ⟨?_, x2⟩
  have d := mj_D_cases (c := c) (k := k) h a g
  unfold mj_dv
  by_cases z : mj_di Z c k a g < 1000
  · rw [if_pos z] at x1 ⊢
    rw [if_pos (by rw [mj_lt, mj_I1000]; omega), mj_eq, x1, nI_toInt (by omega)]
  · rw [if_neg z] at x1 ⊢
    rw [if_neg (by rw [mj_lt, mj_I1000]; omega)]
theorem sp44 (h : mj_Iv Z) (hw : mj_wt Z (Y 36) (Y 37)) (hp : p < mj_np Z) (hK : K 0 (mj_nl1 Z p) (mj_cc Z Y)) : mj_Cm 44 3 [.ref 0, .int (nI p)] (mj_cc Z Y) K := by
  have hc := mj_qc h.s hp
  have hR := mj_S_R h.s
  unfold mj_nl1 at hK
  refine e44 ⟨mj_b20 h.s, fun c => ⟨mj_qv h.s hp, ?_⟩, fun c => ?_⟩
  · rw [mj_q20 h.s hp] at c
    rw [if_pos c] at hK
    rw [hc]
    obtain ⟨a1, a2⟩ := mj_vin (h.a p hp).2.1
    obtain ⟨g1, g2⟩ := mj_vin (h.s.2.2.2.1 p hp).1
    obtain ⟨w, w1, w2, w3⟩ := mj_wtv h.s.1 hw (h.s.2.2.2.1 p hp).2.1 (h.a p hp).2.2.1
    show mj_Cm 33 2 [.ref 35, .int (Z 24 p + 2 * Z 40 p), .int (Z 22 p), .int (Z 23 p)] (mj_cc Z Y) _
    rw [w2, a1, g1]
    refine sp33 w1 (by omega) (by omega) ?_
    refine t44_47 ?_
    have e : mj_cc Z Y 37 = Y 37 := rfl
    rw [e, (w3 _ _ a2 g2).2]
    exact hK
  · rw [mj_q20 h.s hp] at c
    rw [if_neg c] at hK
    exact hK
theorem sp43 (h : mj_Iv Z) (hw : mj_wt Z (Y 36) (Y 37)) (hp : p < mj_np Z) (hK : K 0 (mj_dv Z (Z 24 p) (Z 40 p) (Z 22 p).toNatClampNeg (Z 23 p).toNatClampNeg) (mj_cc Z Y)) : mj_Cm 43 3 [.ref 0, .int (nI p)] (mj_cc Z Y) K := by
  have hc := mj_qc h.s hp
  have hR := mj_S_R h.s
  refine e43 ⟨fun _ => ⟨mj_qv h.s hp, ?_⟩, fun c => absurd (mj_q18 h.s hp) c⟩
  rw [hc]
  obtain ⟨a1, a2⟩ := mj_vin (h.a p hp).2.1
  obtain ⟨g1, g2⟩ := mj_vin (h.s.2.2.2.1 p hp).1
  obtain ⟨w, w1, w2, w3⟩ := mj_wtv h.s.1 hw (h.s.2.2.2.1 p hp).2.1 (h.a p hp).2.2.1
  show mj_Cm 32 2 [.ref 35, .int (Z 24 p + 2 * Z 40 p), .int (Z 22 p), .int (Z 23 p)] (mj_cc Z Y) _
  rw [w2, a1, g1]
  refine sp32 w1 (by omega) (by omega) ?_
  refine t43_47 ?_
  have e : mj_cc Z Y 36 = Y 36 := rfl
  rw [e, (w3 _ _ a2 g2).1]
  exact hK
-- out
theorem sp48 (h : mj_Iv Z) (hp : p < mj_np Z) (hK : K 0 0 (mj_cc (mj_oA p Z) Y)) : mj_Cm 48 3 [.ref 0, .int (nI p)] (mj_cc Z Y) K := by
  have hc := mj_qc h.s hp
  unfold mj_oA at hK
  refine e48 ⟨mj_b20 h.s, fun c => ?_, fun c => ⟨mj_qv h.s hp, ?_⟩⟩
  · rw [mj_q20 h.s hp] at c
    rw [if_neg (fun z => c z.1)] at hK
    exact hK
  · rw [mj_q20 h.s hp] at c
    rw [hc]
    refine ⟨fun c2 => ?_, fun c2 => ⟨mj_b10 h.s, fun c3 => ?_, fun c3 => ⟨mj_r10 h.s (h.a p hp).2.1, ?_⟩⟩⟩
    · rw [if_neg (fun z => c2 z.2.1)] at hK
      exact hK
    · rw [if_neg (fun z => c3 ⟨mj_q0 h.s (h.a p hp).2.1, z.2.2⟩)] at hK
      exact hK
    · rw [if_pos ⟨c, c2, c3.2⟩] at hK
      rw [mj_cc_w rfl, mj_cc_w rfl]
      exact hK
-- arriving
theorem sp52 (h : mj_Iv Z) (hz : mj_Zb Z) (ho : mj_Oa 0 Z) (hK : K 0 0 (mj_cc (mj_arr Z) Y)) : mj_Cm 52 4 [.ref 0] (mj_cc Z Y) K := by
  refine e52 ?_
  refine mj_down (P := fun k => ∀ o2, mj_W 0 52 4 2 [some (.ref 0), some (.int (nI k)), o2] [] (mj_cc (mj_lo mj_a1 k Z) Y) 0 K) (mj_np Z) ?_ ?_ none
  · intro o2
    obtain ⟨⟨k1, -, -, -⟩, k5⟩ := mj_arr_k h hz ho (mj_np Z) (Nat.le_refl _)
    exact t52_2 ⟨fun _ => hK, fun c => absurd (mj_pe k1.s (mj_n_pr k5).1.symm) c⟩
  · intro k hk ih o2
    obtain ⟨⟨k1, k2, k3, k4⟩, k5⟩ := mj_arr_k h hz ho k (by omega)
    have ih' : ∀ o2, mj_W 0 52 4 2 [some (.ref 0), some (.int (nI (k + 1))), o2] [] (mj_cc (mj_a1 k (mj_lo mj_a1 k Z)) Y) 0 K := ih
    generalize mj_lo mj_a1 k Z = X at k1 k2 k3 k4 k5 ih' ⊢
    have hp : k < mj_np X := by rw [(mj_n_pr k5).1]; exact hk
    have hc := mj_qc k1.s hp
    rw [← nI_1] at ih'
    unfold mj_a1 at ih'
    refine t52_2 ⟨fun c => (mj_ps k1.s hp c).elim, fun _ => ⟨mj_qv k1.s hp, ?_⟩⟩
    rw [hc]
    refine ⟨fun c => ?_, fun c => ⟨fun c2 => ?_, fun c2 => ⟨fun c3 => absurd (mj_q0 k1.s (k1.a k hp).2.1) c3, fun _ => ⟨mj_r10 k1.s (k1.a k hp).2.1, ?_⟩⟩⟩⟩
    · rw [if_neg (fun z => c z.1)] at ih'
      exact ih' _
    · have c2' : X 0 5 < X 26 k := c2
      rw [mj_lt] at c2'
      rw [if_neg (fun z => by have := z.2; rw [mj_eq] at this; omega)] at ih'
      exact ih' _
    · have c2' : ¬ X 0 5 < X 26 k := c2
      rw [mj_lt] at c2'
      have := (k3 k hp c).1
      rw [if_pos ⟨c, by rw [mj_eq]; omega⟩] at ih'
      rw [mj_cc_w rfl, mj_cc_w rfl, mj_cc_w rfl]
      refine sp48 (Z := mj_a0 k X) (mj_a0_Iv k1 hp c) ?_ ?_
      · rw [(mj_n_pr (mj_a0_pr k X)).1]; exact hp
      · exact t52_104 (ih' _)
end STA
