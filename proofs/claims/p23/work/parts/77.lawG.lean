-- THE LAW'S METHODS, G: one is taken at a link, the whole line
section LWG
variable {Z Y Z0 Z3 X : mj_M} {K : mj_K} {p l r t a b i : Nat} {v : Nat → Int32}
theorem mz_and2 (x : Int32) : x = 0 ∨ x = 1 → (¬ x = 1 ↔ x = 0) := by
  rintro (rfl | rfl) <;> decide
/-- those marked go -/
theorem mz_moves (h : mj_J Y) (hB : mz_B Y) (hl : l < mj_nl Y) {r0 b0 m : Nat} (hr0 : r0 < mj_nr Y) (hm : m < 256) {d : Nat} (hd : d < 100) {x6 x8 x9 : Int32} {o10 o11 o13 o14 : Option Value}
    (hK : ∀ o17, mj_W 3 101 3 70 (mz_LS l x6 (nI (d + mj_cb (fun q => m.testBit q) (mj_np Y))) x8 x9 o10 o11 (some (.int (nI m))) o13 o14 (some (.int (nI r0))) (some (.int (nI b0))) o17) [] (mz (mj_bk l (nI r0) (nI b0) (fun q => m.testBit q) Y) X) 0 K) (h9 : ∃ x : Int32, x9 = x) (g10 : ∃ x, o10 = some (.int x)) (g11 : ∃ x, o11 = some (.int x)) (g13 : ∃ x, o13 = some (.int x)) (g14 : ∃ x, o14 = some (.int x)) : mj_W 3 101 3 436 (mz_LS l x6 (nI d) x8 x9 o10 o11 (some (.int (nI m))) o13 o14 (some (.int (nI r0))) (some (.int (nI b0))) (some (.int 0))) [] (mz Y X) 0 K := by
  obtain ⟨y10, rfl⟩ := g10
  obtain ⟨y11, rfl⟩ := g11
  obtain ⟨y13, rfl⟩ := g13
  obtain ⟨y14, rfl⟩ := g14
  have hS := h.1.s
  have hl5 := mz_l5 hB hl
  have hr6 := mz_r6 hB hr0
  have hP := hB.2.2.1
  have cr : (nI r0).toNatClampNeg = r0 := nI_clamp (by omega)
  have h0 : mz Y X = mz (mj_bk l (nI r0) (nI b0) (fun q => m.testBit q && decide (q < 0)) Y) X := by
    rw [mz_bk_0 (fun q _ => by rw [decide_eq_false (Nat.not_lt_zero q), Bool.and_false])]
  have e0 : d = d + mj_cb (fun q => m.testBit q && decide (q < 0)) (mj_np Y) := by
    rw [mj_cb_0 _ (fun q _ => by rw [decide_eq_false (Nat.not_lt_zero q), Bool.and_false])]
    rfl
  have hE : mj_bk l (nI r0) (nI b0) (fun q => m.testBit q && decide (q < mj_np Y)) Y = mj_bk l (nI r0) (nI b0) (fun q => m.testBit q) Y := mz_bk_c (fun q hq => by rw [decide_eq_true hq, Bool.and_true])
  have hE2 : mj_cb (fun q => m.testBit q && decide (q < mj_np Y)) (mj_np Y) = mj_cb (fun q => m.testBit q) (mj_np Y) := mj_cb_c _ (fun q hq => by rw [decide_eq_true hq, Bool.and_true])
  have main := mj_down (P := fun k => mj_W 3 101 3 436 (mz_LS l x6 (nI (d + mj_cb (fun q => m.testBit q && decide (q < k)) (mj_np Y))) x8 x9 (some (.int y10)) (some (.int y11)) (some (.int (nI m))) (some (.int y13)) (some (.int y14)) (some (.int (nI r0))) (some (.int (nI b0))) (some (.int (nI k)))) [] (mz (mj_bk l (nI r0) (nI b0) (fun q => m.testBit q && decide (q < k)) Y) X) 0 K) (mj_np Y) ?_ ?_
  · rw [← e0, ← h0] at main
    exact main
  · have hpr := mj_bk_pr l (nI r0) (nI b0) (fun q => m.testBit q && decide (q < mj_np Y)) Y
    refine t101_436 ⟨fun _ => ?_, fun c => absurd ?_ c⟩
    · rw [hE, hE2]
      exact hK _
    · have hn := (mj_n_pr hpr).1
      exact mj_pe (mj_S_pr hpr hS) hn.symm
  · intro k hk ih
    have hk8 := mz_p8 hB hk
    have hpr := mj_bk_pr l (nI r0) (nI b0) (fun q => m.testBit q && decide (q < k)) Y
    have hn := (mj_n_pr hpr).1
    have bits := mz_bit1 m hm k hk8
    refine t101_436 ⟨fun c => (mj_ps (mj_S_pr hpr hS) (by rw [hn]; exact hk) c).elim, fun _ => ?_⟩
    rw [bits]
    by_cases tb : m.testBit k = true
    · rw [if_pos tb]
      refine ⟨fun c => absurd rfl c, fun _ => ?_⟩
      have hS0 : (fun q => m.testBit q && decide (q < k)) k = false := by
        show (m.testBit k && decide (k < k)) = false
        rw [decide_eq_false (Nat.lt_irrefl k), Bool.and_false]
      have hS1 : ∀ q, (fun q => m.testBit q && decide (q < k + 1)) q = ((fun q => m.testBit q && decide (q < k)) q || decide (q = k)) := by
        intro q
        show (m.testBit q && decide (q < k + 1)) = ((m.testBit q && decide (q < k)) || decide (q = k))
        by_cases e : q = k
        · subst e
          rw [tb, decide_eq_true (Nat.lt_succ_self q), decide_eq_true (rfl : q = q), Bool.or_true]; rfl
        · rw [decide_eq_false e, Bool.or_false]
          by_cases e2 : q < k
          · rw [decide_eq_true e2, decide_eq_true (show q < k + 1 by omega)]
          · rw [decide_eq_false e2, decide_eq_false (show ¬ q < k + 1 by omega)]
      have hcb : mj_cb (fun q => m.testBit q && decide (q < k + 1)) (mj_np Y) = mj_cb (fun q => m.testBit q && decide (q < k)) (mj_np Y) + 1 := by
        have h1 := mj_cb_S (fun q => decide (q = k)) (fun q => m.testBit q && decide (q < k)) (fun q => m.testBit q && decide (q < k + 1)) (mj_np Y) (fun j hj hs => by
          have h9 : (m.testBit j && decide (j < k + 1)) = ((m.testBit j && decide (j < k)) || decide (j = k)) := hS1 j
          rw [h9, show decide (j = k) = false from hs, Bool.or_false])
        have h2 : mj_cb (fun j => decide (j = k) && (m.testBit j && decide (j < k))) (mj_np Y) = 0 := mj_cb_0 _ (fun j hj => by
          by_cases e : j = k
          · subst e; rw [decide_eq_false (Nat.lt_irrefl j), Bool.and_false, Bool.and_false]
          · rw [decide_eq_false e]; rfl)
        have h3 : mj_cb (fun j => decide (j = k) && (m.testBit j && decide (j < k + 1))) (mj_np Y) = 1 := by
          refine Eq.trans (mj_cb_c _ (fun j hj => ?_)) (mj_cb_1 (mj_np Y) hk)
          by_cases e : j = k
          · subst e; rw [tb, decide_eq_true (Nat.lt_succ_self j), decide_eq_true (rfl : j = j)]; rfl
          · rw [decide_eq_false e]; rfl
        have h1' : mj_cb (fun q => m.testBit q && decide (q < k + 1)) (mj_np Y) + mj_cb (fun j => decide (j = k) && (m.testBit j && decide (j < k))) (mj_np Y) = mj_cb (fun q => m.testBit q && decide (q < k)) (mj_np Y) + mj_cb (fun j => decide (j = k) && (m.testBit j && decide (j < k + 1))) (mj_np Y) := h1
        rw [h2, h3] at h1'
        omega
      have hstep := mz_bk_s (Z := Y) (l := l) (r0 := nI r0) (b0 := nI b0) hk hS0 hS1
      rw [cr] at hstep
      rw [hcb, show d + (mj_cb (fun q => m.testBit q && decide (q < k)) (mj_np Y) + 1) = d + mj_cb (fun q => m.testBit q && decide (q < k)) (mj_np Y) + 1 by omega, mz_eq4 hstep, ← nI_1, ← nI_1] at ih
      have e12 : mj_bk l (nI r0) (nI b0) (fun q => m.testBit q && decide (q < k)) Y 12 l = Y 12 l := by rw [mj_bk_o (by decide)]
      have e05 : mj_bk l (nI r0) (nI b0) (fun q => m.testBit q && decide (q < k)) Y 0 5 = Y 0 5 := by rw [mj_bk_o (by decide)]
      have e10 : mj_bk l (nI r0) (nI b0) (fun q => m.testBit q && decide (q < k)) Y 10 l = Y 10 l := by rw [mj_bk_o (by decide)]
      generalize mj_bk l (nI r0) (nI b0) (fun q => m.testBit q && decide (q < k)) Y = A at ih e12 e05 e10 ⊢
      simp only [mz_rP0 hk8, mz_wP0 hk8, eq_true (mz_vP0 hk8), mz_rP1 hk8, mz_wP1 hk8, eq_true (mz_vP1 hk8), mz_rP2 hk8, mz_wP2 hk8, eq_true (mz_vP2 hk8), mz_rP3 hk8, mz_wP3 hk8, eq_true (mz_vP3 hk8), mz_rP4 hk8, mz_wP4 hk8, eq_true (mz_vP4 hk8), mz_rP5 hk8, mz_wP5 hk8, eq_true (mz_vP5 hk8), mz_rP6 hk8, mz_wP6 hk8, eq_true (mz_vP6 hk8), mz_rP7 hk8, mz_wP7 hk8, eq_true (mz_vP7 hk8), mz_rL0 hl5, mz_wL0 hl5, eq_true (mz_vL0 hl5), mz_rL1 hl5, mz_wL1 hl5, eq_true (mz_vL1 hl5), mz_rL2 hl5, mz_wL2 hl5, eq_true (mz_vL2 hl5), mz_rL3 hl5, mz_wL3 hl5, eq_true (mz_vL3 hl5), mz_rL4 hl5, mz_wL4 hl5, eq_true (mz_vL4 hl5), mz_rL5 hl5, mz_wL5 hl5, eq_true (mz_vL5 hl5), mz_rL6 hl5, mz_wL6 hl5, eq_true (mz_vL6 hl5), mz_rL7 hl5, mz_wL7 hl5, eq_true (mz_vL7 hl5), mz_rL8 hl5, mz_wL8 hl5, eq_true (mz_vL8 hl5), mz_rL9 hl5, mz_wL9 hl5, eq_true (mz_vL9 hl5), mz_rL10 hl5, mz_wL10 hl5, eq_true (mz_vL10 hl5), mz_rR0 hr6, mz_wR0 hr6, eq_true (mz_vR0 hr6), mz_rR1 hr6, mz_wR1 hr6, eq_true (mz_vR1 hr6), mz_rR2 hr6, mz_wR2 hr6, eq_true (mz_vR2 hr6), mz_rR3 hr6, mz_wR3 hr6, eq_true (mz_vR3 hr6), mz_rR4 hr6, mz_wR4 hr6, eq_true (mz_vR4 hr6), mz_rS0, mz_wS0, mz_rS1, mz_wS1, mz_rS2, mz_wS2, mz_rS3, mz_wS3, mz_rS4, mz_wS4, mz_rS5, mz_wS5, true_and]
      rw [e12, e05, e10]
      refine ⟨fun c => t101_536 ?_, fun c => t101_536 ?_⟩
      · rw [if_neg (fun z => c z.symm)] at ih
        rw [show ((11 : Int32) * nI l + 10) = 11 * nI l + 10 from rfl]
        simp only [mz_rL0 hl5, mz_wL0 hl5, eq_true (mz_vL0 hl5), mz_rL1 hl5, mz_wL1 hl5, eq_true (mz_vL1 hl5), mz_rL2 hl5, mz_wL2 hl5, eq_true (mz_vL2 hl5), mz_rL3 hl5, mz_wL3 hl5, eq_true (mz_vL3 hl5), mz_rL4 hl5, mz_wL4 hl5, eq_true (mz_vL4 hl5), mz_rL5 hl5, mz_wL5 hl5, eq_true (mz_vL5 hl5), mz_rL6 hl5, mz_wL6 hl5, eq_true (mz_vL6 hl5), mz_rL7 hl5, mz_wL7 hl5, eq_true (mz_vL7 hl5), mz_rL8 hl5, mz_wL8 hl5, eq_true (mz_vL8 hl5), mz_rL9 hl5, mz_wL9 hl5, eq_true (mz_vL9 hl5), mz_rL10 hl5, mz_wL10 hl5, eq_true (mz_vL10 hl5), true_and]
        exact ih
      · rw [if_pos c.symm] at ih
        simp only [mz_rL0 hl5, mz_wL0 hl5, eq_true (mz_vL0 hl5), mz_rL1 hl5, mz_wL1 hl5, eq_true (mz_vL1 hl5), mz_rL2 hl5, mz_wL2 hl5, eq_true (mz_vL2 hl5), mz_rL3 hl5, mz_wL3 hl5, eq_true (mz_vL3 hl5), mz_rL4 hl5, mz_wL4 hl5, eq_true (mz_vL4 hl5), mz_rL5 hl5, mz_wL5 hl5, eq_true (mz_vL5 hl5), mz_rL6 hl5, mz_wL6 hl5, eq_true (mz_vL6 hl5), mz_rL7 hl5, mz_wL7 hl5, eq_true (mz_vL7 hl5), mz_rL8 hl5, mz_wL8 hl5, eq_true (mz_vL8 hl5), mz_rL9 hl5, mz_wL9 hl5, eq_true (mz_vL9 hl5), mz_rL10 hl5, mz_wL10 hl5, eq_true (mz_vL10 hl5), true_and]
        exact ih
    · rw [if_neg tb]
      refine ⟨fun _ => ?_, fun c => absurd c (by decide)⟩
      have tf : m.testBit k = false := by
        cases hx : m.testBit k with
        | false => rfl
        | true => exact absurd hx tb
      have hS1 : (fun q => m.testBit q && decide (q < k + 1)) = (fun q => m.testBit q && decide (q < k)) := by
        funext q
        by_cases e : q = k
        · subst e
          rw [tf]; rfl
        · by_cases e2 : q < k
          · rw [decide_eq_true e2, decide_eq_true (show q < k + 1 by omega)]
          · rw [decide_eq_false e2, decide_eq_false (show ¬ q < k + 1 by omega)]
      rw [hS1, ← nI_1] at ih
      exact ih
/-- whether there is room, as the law asks -/
theorem mz_pl_lt (h : mj_Iv Y) (hB : mz_B Y) (hb : b < mj_nr Y) {n : Nat} (hn : n ≤ 8) : mz_pl Y b < nI n ↔ ¬ (Y 2 b = 0 ∨ ((mj_ct Y b 0 + mj_ct Y b 1 + n : Nat) : Int) ≤ (Y 3 b).toInt) := by
  have h99 : (99 : Int32).toInt = 99 := by decide
  unfold mz_pl
  by_cases c : Y 2 b = 0
  · rw [if_pos c, mj_lt, h99, nI_toInt (by omega)]
    exact ⟨fun z => by omega, fun z => absurd (Or.inl c) z⟩
  · rw [if_neg c]
    have hd := (h.b b hb).2.2 c
    obtain ⟨l1, l2⟩ := h.s.2.2.2.2.1 b hb
    have t0 : (nI (mj_ct Y b 0)).toInt = mj_ct Y b 0 := nI_toInt (by omega)
    have t1 : (nI (mj_ct Y b 1)).toInt = mj_ct Y b 1 := nI_toInt (by omega)
    have s1 : (Y 3 b - nI (mj_ct Y b 0)).toInt = (Y 3 b).toInt - mj_ct Y b 0 := by rw [fb_subI (by omega) (by omega), t0]
    have s2 : (Y 3 b - nI (mj_ct Y b 0) - nI (mj_ct Y b 1)).toInt = (Y 3 b).toInt - mj_ct Y b 0 - mj_ct Y b 1 := by rw [fb_subI (by omega) (by omega), s1, t1]
    rw [mj_lt, s2, nI_toInt (by omega)]
    constructor
    · rintro z (w | w)
      · exact c w
      · omega
    · intro z
      have := fun w => z (Or.inr w)
      omega
/-- the party is known: whether it begins -/
theorem mz_party (h : mj_J Y) (hB : mz_B Y) (hl : l < mj_nl Y) (hi : i < mj_np Y) {r0 b0 : Nat} (hr0 : r0 < mj_nr Y) (hb0 : b0 < mj_nr Y) (e22 : Y 22 i = nI r0) (ebeh : mj_beh Y l (nI r0) = nI b0) (h21 : Y 21 i = 0) {ms : Nat} (hms : ms < 256) {all : Prop} [Decidable all] (hno : ¬ all → mj_sz Y v l i = 0) (hyes : all → mj_sz Y v l i = mj_cb (fun q => ms.testBit q) (mj_np Y) ∧ ¬ mj_sz Y v l i = 0 ∧ ∀ q, q < mj_np Y → ms.testBit q = decide (mj_ms Y i q)) {d : Nat} (hd : d < 100) {m : Nat} (hm : m < 256) {x6 x9 x11 : Int32} (h6 : x6 = mj_ra Y l) (h6' : 0 < x6.toInt) {o16 o17 : Option Value}
    (hK : ∀ o10 o11 o12 o13 o14 o15 o16 o17, mj_W 3 101 3 70 (mz_LS l x6 (nI (mj_be1 v l i (Y, d)).2) (nI (m ||| 2 ^ i)) x9 o10 o11 o12 o13 o14 o15 o16 o17) [] (mz (mj_be1 v l i (Y, d)).1 X) 0 K) : mj_W 3 101 3 319 (mz_LS l x6 (nI d) (nI m) x9 (some (.int (nI i))) (some (.int x11)) (some (.int (nI ms))) (some (.int (mj_bi all))) (some (.int 0)) (some (.int 0)) o16 o17) [] (mz Y X) 0 K := by
  have hS := h.1.s
  have hi8 := mz_p8 hB hi
  have hl5 := mz_l5 hB hl
  have hP := hB.2.2.1
  obtain ⟨e1, e2⟩ := mz_bit2 m hm i hi8
  -- it doesn't begin
  have stay : ¬ (¬ mj_sz Y v l i = 0 ∧ mj_hp Y l (mj_sz Y v l i) d i) → ∀ o10 o11 o12 o13 o14 o15 o16 o17, mj_W 3 101 3 70 (mz_LS l x6 (nI d) (nI (m ||| 2 ^ i)) x9 o10 o11 o12 o13 o14 o15 o16 o17) [] (mz Y X) 0 K := by
    intro c o10 o11 o12 o13 o14 o15 o16 o17
    have := hK o10 o11 o12 o13 o14 o15 o16 o17
    unfold mj_be1 at this
    rw [if_neg (show ¬ ((Y, d).1 21 i = 0 ∧ ¬ mj_sz (Y, d).1 v l i = 0 ∧ mj_hp (Y, d).1 l (mj_sz (Y, d).1 v l i) (Y, d).2 i) from fun z => c z.2)] at this
    exact this
  have other : (¬ Y 10 l = nI r0 → Y 10 l = nI b0) ∧ (Y 10 l = nI r0 → Y 11 l = nI b0) := by
    have ne1 : ¬ nI b0 = -1 := mj_nI_m1 (by have := mj_S_R hS; omega)
    unfold mj_beh at ebeh
    constructor
    · intro z
      rw [if_neg (fun w => z w.1.symm)] at ebeh
      by_cases w : nI r0 = Y 11 l ∧ mj_bwd Y l
      · rw [if_pos w] at ebeh; exact ebeh
      · rw [if_neg w] at ebeh; exact absurd ebeh.symm ne1
    · intro z
      by_cases w : nI r0 = Y 10 l ∧ mj_fwd Y l
      · rw [if_pos w] at ebeh; exact ebeh
      · rw [if_neg w] at ebeh
        by_cases w2 : nI r0 = Y 11 l ∧ mj_bwd Y l
        · exact absurd (z.trans w2.1) (hS.1.2.2 l hl).2.2.1
        · rw [if_neg w2] at ebeh; exact absurd ebeh.symm ne1
  -- behind the count
  have n8 : mj_cb (fun q => ms.testBit q) (mj_np Y) ≤ 8 := Nat.le_trans (mj_cb_le _ _) hP
  have q389 : ∀ o16 o17, mj_W 3 101 3 389 (mz_LS l x6 (nI d) (nI m) x9 (some (.int (nI i))) (some (.int x11)) (some (.int (nI ms))) (some (.int (mj_bi all))) (some (.int (nI (mj_cb (fun q => ms.testBit q) (mj_np Y))))) (some (.int (nI r0))) o16 o17) [.int (nI b0)] (mz Y X) 0 K := by
    intro o16 o17
    refine t101_389 ⟨fun c => ?_, fun c => ?_⟩
    · rw [e1]
      exact stay (fun z => z.1 (hno (mj_bi0.mp c))) _ _ _ _ _ _ _ _
    · obtain ⟨a1, a2, a3⟩ := hyes (mj_bi1.mp c)
      rw [e1, mz_v0]
      refine sp96 hS hB hb0 (mz_k20 ?_)
      have hpl := mz_pl_lt h.1 hB hb0 n8
      have cb0 : (nI b0).toNatClampNeg = b0 := nI_clamp (by have := mj_S_R hS; omega)
      have hhp : mj_hp Y l (mj_sz Y v l i) d i ↔ (((d + mj_sz Y v l i : Nat) : Int) ≤ x6.toInt ∨ d = 0) ∧ (Y 2 b0 = 0 ∨ ((mj_ct Y b0 0 + mj_ct Y b0 1 + mj_sz Y v l i : Nat) : Int) ≤ (Y 3 b0).toInt) := by
        unfold mj_hp
        rw [e22, ebeh, cb0, ← h6]
        refine ⟨fun z => ⟨z.1.elim Or.inl (fun y => Or.inr y.1), z.2⟩, fun z => ⟨z.1.elim Or.inl (fun y => Or.inr ⟨y, h6'⟩), z.2⟩⟩
      have go : (((d + mj_sz Y v l i : Nat) : Int) ≤ x6.toInt ∨ d = 0) → ¬ mz_pl Y b0 < nI (mj_cb (fun q => ms.testBit q) (mj_np Y)) → mj_W 3 101 3 436 (mz_LS l x6 (nI d) (nI (m ||| 2 ^ i)) x9 (some (.int (nI i))) (some (.int x11)) (some (.int (nI ms))) (some (.int (mj_bi all))) (some (.int (nI (mj_cb (fun q => ms.testBit q) (mj_np Y))))) (some (.int (nI r0))) (some (.int (nI b0))) (some (.int 0))) [] (mz Y X) 0 K := by
        intro u w
        have hp : mj_hp Y l (mj_sz Y v l i) d i := hhp.mpr ⟨u, by
          rw [hpl] at w
          rw [a1]
          exact Decidable.not_not.mp w⟩
        refine mz_moves h hB hl hr0 hms hd (fun o17 => ?_) ⟨_, rfl⟩ ⟨_, rfl⟩ ⟨_, rfl⟩ ⟨_, rfl⟩ ⟨_, rfl⟩
        have := hK (some (.int (nI i))) (some (.int x11)) (some (.int (nI ms))) (some (.int (mj_bi all))) (some (.int (nI (mj_cb (fun q => ms.testBit q) (mj_np Y))))) (some (.int (nI r0))) (some (.int (nI b0))) o17
        unfold mj_be1 at this
        rw [if_pos (show (Y, d).1 21 i = 0 ∧ ¬ mj_sz (Y, d).1 v l i = 0 ∧ mj_hp (Y, d).1 l (mj_sz (Y, d).1 v l i) (Y, d).2 i from ⟨h21, a2, hp⟩)] at this
        dsimp only at this
        rw [e22, ebeh, a1, mz_bk_c (S' := fun q => ms.testBit q) (fun q hq => (a3 q hq).symm)] at this
        exact this
      refine t101_413 ⟨fun z => stay (fun w => ?_) _ _ _ _ _ _ _ _, fun z => ⟨fun z2 => go (Or.inr ?_) z, fun z2 => ⟨fun z3 => stay (fun w => ?_) _ _ _ _ _ _ _ _, fun z3 => go (Or.inl ?_) z⟩⟩⟩
      · rw [hpl] at z
        have := (hhp.mp w.2).2
        rw [a1] at this
        exact z this
      · have := (nI_eq (show d < 2 ^ 31 by omega) (show 0 < 2 ^ 31 by decide)).mp z2
        exact this
      · rw [nI_add, mj_lt, nI_toInt (by omega), ← a1] at z3
        rcases (hhp.mp w.2).1 with y | y
        · omega
        · rw [y] at z2
          exact z2 rfl
      · rw [nI_add, mj_lt, nI_toInt (by omega), ← a1] at z3
        omega
  have main := mj_down (P := fun k => mj_W 3 101 3 319 (mz_LS l x6 (nI d) (nI m) x9 (some (.int (nI i))) (some (.int x11)) (some (.int (nI ms))) (some (.int (mj_bi all))) (some (.int (nI (mj_cb (fun q => ms.testBit q) k)))) (some (.int (nI k))) o16 o17) [] (mz Y X) 0 K) (mj_np Y) ?_ ?_
  · exact main
  · refine t101_319 ⟨fun _ => ?_, fun c => absurd (mj_pe hS rfl) c⟩
    simp only [mz_rP0 hi8, mz_wP0 hi8, eq_true (mz_vP0 hi8), mz_rP1 hi8, mz_wP1 hi8, eq_true (mz_vP1 hi8), mz_rP2 hi8, mz_wP2 hi8, eq_true (mz_vP2 hi8), mz_rP3 hi8, mz_wP3 hi8, eq_true (mz_vP3 hi8), mz_rP4 hi8, mz_wP4 hi8, eq_true (mz_vP4 hi8), mz_rP5 hi8, mz_wP5 hi8, eq_true (mz_vP5 hi8), mz_rP6 hi8, mz_wP6 hi8, eq_true (mz_vP6 hi8), mz_rP7 hi8, mz_wP7 hi8, eq_true (mz_vP7 hi8), mz_rL0 hl5, mz_wL0 hl5, eq_true (mz_vL0 hl5), mz_rL1 hl5, mz_wL1 hl5, eq_true (mz_vL1 hl5), mz_rL2 hl5, mz_wL2 hl5, eq_true (mz_vL2 hl5), mz_rL3 hl5, mz_wL3 hl5, eq_true (mz_vL3 hl5), mz_rL4 hl5, mz_wL4 hl5, eq_true (mz_vL4 hl5), mz_rL5 hl5, mz_wL5 hl5, eq_true (mz_vL5 hl5), mz_rL6 hl5, mz_wL6 hl5, eq_true (mz_vL6 hl5), mz_rL7 hl5, mz_wL7 hl5, eq_true (mz_vL7 hl5), mz_rL8 hl5, mz_wL8 hl5, eq_true (mz_vL8 hl5), mz_rL9 hl5, mz_wL9 hl5, eq_true (mz_vL9 hl5), mz_rL10 hl5, mz_wL10 hl5, eq_true (mz_vL10 hl5), mz_rS0, mz_wS0, mz_rS1, mz_wS1, mz_rS2, mz_wS2, mz_rS3, mz_wS3, mz_rS4, mz_wS4, mz_rS5, mz_wS5, true_and]
    rw [e22]
    refine ⟨fun c => ?_, fun c => ?_⟩
    · rw [other.1 c]
      exact q389 _ _
    · rw [other.2 c]
      exact q389 _ _
  · intro k hk ih
    have hk8 := mz_p8 hB hk
    refine t101_319 ⟨fun c => (mj_ps hS hk c).elim, fun _ => ?_⟩
    rw [mz_bit1 ms hms k hk8]
    have e : mj_cb (fun q => ms.testBit q) (k + 1) = mj_cb (fun q => ms.testBit q) k + (if ms.testBit k = true then 1 else 0) := rfl
    rw [e, ← nI_1] at ih
    by_cases tb : ms.testBit k = true
    · rw [if_pos tb] at ih ⊢
      rw [nI_1]
      exact ih
    · rw [if_neg tb] at ih ⊢
      rw [mz_a0]
      exact ih
/-- the party is looked for -/
theorem mz_take (h : mj_J Y) (hB : mz_B Y) (hl : l < mj_nl Y) (hi : i < mj_np Y) (hv : ∀ k, k < mj_np Y → X 5 k = v k) {r0 b0 : Nat} (hr0 : r0 < mj_nr Y) (hb0 : b0 < mj_nr Y) (e22 : Y 22 i = nI r0) (ebeh : mj_beh Y l (nI r0) = nI b0) (h21 : Y 21 i = 0) (hvi : v i = nI l) {d : Nat} (hd : d < 100) {m : Nat} (hm : m < 256) {x6 : Int32} (h6 : x6 = mj_ra Y l) (h6' : 0 < x6.toInt) {x9 x11 : Int32} {o12 o13 o14 o15 o16 o17 : Option Value}
    (hK : ∀ o10 o11 o12 o13 o14 o15 o16 o17, mj_W 3 101 3 70 (mz_LS l x6 (nI (mj_be1 v l i (Y, d)).2) (nI (m ||| 2 ^ i)) 1 o10 o11 o12 o13 o14 o15 o16 o17) [] (mz (mj_be1 v l i (Y, d)).1 X) 0 K) : mj_W 3 101 3 177 (mz_LS l x6 (nI d) (nI m) x9 (some (.int (nI i))) (some (.int x11)) o12 o13 o14 o15 o16 o17) [.int 1] (mz Y X) 0 K := by
  have hS := h.1.s
  have hi8 := mz_p8 hB hi
  have hl5 := mz_l5 hB hl
  have hP := hB.2.2.1
  have hg := hB.2.2.2.2.1 i hi
  obtain ⟨e1, e2⟩ := mz_bit3 i hi8
  have im : (-1 : Int32).toInt = -1 := by decide
  have i0 : (0 : Int32).toInt = 0 := by decide
  have hlt : ∀ q, q < mj_np Y → (2 ≤ Y 21 q ↔ ¬ (Y 21 q = 0 ∨ Y 21 q = 1)) := by
    intro q hq
    rcases (h.1.a q hq).1 with z | z | z | z <;> rw [z] <;> decide
  have hmbi : mj_mb Y i i := ⟨rfl, Or.inl h21⟩
  refine t101_177 ⟨fun z => absurd z (by decide), fun _ => ?_⟩
  simp only [mz_rP0 hi8, mz_wP0 hi8, eq_true (mz_vP0 hi8), mz_rP1 hi8, mz_wP1 hi8, eq_true (mz_vP1 hi8), mz_rP2 hi8, mz_wP2 hi8, eq_true (mz_vP2 hi8), mz_rP3 hi8, mz_wP3 hi8, eq_true (mz_vP3 hi8), mz_rP4 hi8, mz_wP4 hi8, eq_true (mz_vP4 hi8), mz_rP5 hi8, mz_wP5 hi8, eq_true (mz_vP5 hi8), mz_rP6 hi8, mz_wP6 hi8, eq_true (mz_vP6 hi8), mz_rP7 hi8, mz_wP7 hi8, eq_true (mz_vP7 hi8), true_and]
  rw [e1]
  have alone : Y 25 i = -1 ↔ Y 25 i < 0 := by
    rw [mj_eq, mj_lt, im, i0]
    omega
  have hb3 : ∀ q, decide (q = i) = (2 ^ i).testBit q := fun q => by
    rw [mz_tb0]
    by_cases e : q = i
    · rw [decide_eq_true e, decide_eq_true e.symm]
    · rw [decide_eq_false e, decide_eq_false (fun z => e z.symm)]
  by_cases g : Y 25 i = -1
  · -- alone
    refine t101_207 ⟨fun _ => ?_, fun _ => ⟨fun _ => ?_, fun z => absurd (alone.mp g) z⟩⟩
    all_goals
      have sz1 : mj_sz Y v l i = 1 := by
        unfold mj_sz
        rw [if_pos g]
      have c1 : mj_cb (fun q => (2 ^ i).testBit q) (mj_np Y) = 1 := by
        rw [← mj_cb_1 (mj_np Y) hi]
        exact mj_cb_c _ (fun q _ => (hb3 q).symm)
      refine mz_party (all := True) (v := v) h hB hl hi hr0 hb0 e22 ebeh h21 e2 (fun z => absurd trivial z) (fun _ => ⟨by rw [sz1, c1], by rw [sz1]; decide, fun q hq => ?_⟩) hd hm h6 h6' hK
      rw [← hb3]
      by_cases e : q = i
      · rw [decide_eq_true e, decide_eq_true (show mj_ms Y i q from Or.inl ⟨g, e⟩)]
      · rw [decide_eq_false e, decide_eq_false (show ¬ mj_ms Y i q from fun z => z.elim (fun y => e y.2) (fun y => y.1 g))]
  · -- a group
    have ng : ¬ Y 25 i < 0 := fun z => g (alone.mpr z)
    have key : ∀ k, k ≤ mj_np Y → ∀ (ms : Nat) (o15 o16 o17 : Option Value), ms < 256 → (∀ q, ms.testBit q = true ↔ q = i ∨ (q < k ∧ mj_mb Y i q)) → mj_W 3 101 3 207 (mz_LS l x6 (nI d) (nI m) 1 (some (.int (nI i))) (some (.int (Y 25 i))) (some (.int (nI ms))) (some (.int (@ite Int32 (∀ q, q < k → mj_mb Y i q → mj_rd Y v l i q) (Classical.propDecidable _) 1 0))) (some (.int (nI k))) o15 o16 o17) [] (mz Y X) 0 K := by
      intro k hk
      obtain ⟨dd, hdd⟩ : ∃ dd, dd = mj_np Y - k := ⟨_, rfl⟩
      induction dd generalizing k with
      | zero =>
        intro ms o15 o16 o17 hms hbit
        have e : k = mj_np Y := by omega
        subst e
        have fin : mj_W 3 101 3 319 (mz_LS l x6 (nI d) (nI m) 1 (some (.int (nI i))) (some (.int (Y 25 i))) (some (.int (nI ms))) (some (.int (@ite Int32 (∀ q, q < mj_np Y → mj_mb Y i q → mj_rd Y v l i q) (Classical.propDecidable _) 1 0))) (some (.int 0)) (some (.int 0)) o16 o17) [] (mz Y X) 0 K := by
          have hdec : Decidable (∀ q, q < mj_np Y → mj_mb Y i q → mj_rd Y v l i q) := Classical.propDecidable _
          have eb : @ite Int32 (∀ q, q < mj_np Y → mj_mb Y i q → mj_rd Y v l i q) (Classical.propDecidable _) 1 0 = @mj_bi (∀ q, q < mj_np Y → mj_mb Y i q → mj_rd Y v l i q) hdec := by
            by_cases z : ∀ q, q < mj_np Y → mj_mb Y i q → mj_rd Y v l i q
            · rw [if_pos z, mj_bi_t z]
            · rw [if_neg z, mj_bi_f z]
          rw [eb]
          have cbe : mj_cb (fun q => ms.testBit q) (mj_np Y) = mj_cb (fun q => decide (mj_mb Y i q)) (mj_np Y) := mj_cb_c _ (fun q hq => by
            by_cases z : mj_mb Y i q
            · rw [decide_eq_true z, (hbit q).mpr (Or.inr ⟨hq, z⟩)]
            · rw [decide_eq_false z]
              cases hx : ms.testBit q with
              | false => rfl
              | true =>
                rcases (hbit q).mp hx with y | y
                · rw [y] at z; exact absurd hmbi z
                · exact absurd y.2 z)
          have rdall : (∀ q, q < mj_np Y → mj_mb Y i q → mj_rd Y v l i q) ↔ mj_cb (fun q => decide (mj_mb Y i q ∧ ¬ mj_rd Y v l i q)) (mj_np Y) = 0 := by
            constructor
            · intro z
              exact mj_cb_0 _ (fun q hq => decide_eq_false (fun w => w.2 (z q hq w.1)))
            · intro z q hq hw
              have := mj_cb_pos _ z q hq
              have := of_decide_eq_false this
              exact Decidable.not_not.mp (fun w => this ⟨hw, w⟩)
          refine mz_party (v := v) h hB hl hi hr0 hb0 e22 ebeh h21 hms (fun z => ?_) (fun z => ⟨?_, ?_, fun q hq => ?_⟩) hd hm h6 h6' hK
          · unfold mj_sz
            rw [if_neg g, if_neg (fun w => z (rdall.mpr w))]
          · unfold mj_sz
            rw [if_neg g, if_pos (rdall.mp z), cbe]
          · unfold mj_sz
            rw [if_neg g, if_pos (rdall.mp z)]
            intro w
            have := mj_cb_pos _ w i hi
            exact of_decide_eq_false this hmbi
          · by_cases w : mj_ms Y i q
            · rw [decide_eq_true w, (hbit q).mpr]
              rcases w with w | w
              · exact absurd w.1 g
              · exact Or.inr ⟨hq, w.2.1, Or.inl w.2.2⟩
            · rw [decide_eq_false w]
              cases hx : ms.testBit q with
              | false => rfl
              | true =>
                have mbq : mj_mb Y i q := by
                  rcases (hbit q).mp hx with y | y
                  · rw [y]; exact hmbi
                  · exact y.2
                exact absurd (Or.inr ⟨g, mbq.1, (z q hq mbq).1⟩) w
        exact t101_207 ⟨fun _ => fin, fun c => absurd (mj_pe hS rfl) c⟩
      | succ dd ih =>
        intro ms o15 o16 o17 hms hbit
        have hk2 : k < mj_np Y := by omega
        have hk8 := mz_p8 hB hk2
        have ck : (nI k).toNatClampNeg = k := nI_clamp (by omega)
        obtain ⟨f1, f2⟩ := mz_bit2 ms hms k hk8
        have suc : (∀ q, q < k + 1 → mj_mb Y i q → mj_rd Y v l i q) ↔ (∀ q, q < k → mj_mb Y i q → mj_rd Y v l i q) ∧ (mj_mb Y i k → mj_rd Y v l i k) := by
          refine ⟨fun z => ⟨fun q hq => z q (by omega), z k (by omega)⟩, fun z q hq => ?_⟩
          by_cases e : q = k
          · rw [e]; exact z.2
          · exact z.1 q (by omega)
        have nomb : ¬ mj_mb Y i k → mj_W 3 101 3 207 (mz_LS l x6 (nI d) (nI m) 1 (some (.int (nI i))) (some (.int (Y 25 i))) (some (.int (nI ms))) (some (.int (@ite Int32 (∀ q, q < k → mj_mb Y i q → mj_rd Y v l i q) (Classical.propDecidable _) 1 0))) (some (.int (nI k + 1))) o15 o16 o17) [] (mz Y X) 0 K := by
          intro c
          have := ih (k + 1) (by omega) (by omega) ms o15 o16 o17 hms (fun q => by
            rw [hbit q]
            constructor
            · rintro (z | z)
              · exact Or.inl z
              · exact Or.inr ⟨by omega, z.2⟩
            · rintro (z | z)
              · exact Or.inl z
              · refine Or.inr ⟨?_, z.2⟩
                by_cases e : q = k
                · rw [e] at z; exact absurd z.2 c
                · omega)
          rw [nI_1]
          have e : @ite Int32 (∀ q, q < k + 1 → mj_mb Y i q → mj_rd Y v l i q) (Classical.propDecidable _) 1 0 = @ite Int32 (∀ q, q < k → mj_mb Y i q → mj_rd Y v l i q) (Classical.propDecidable _) 1 0 := by
            by_cases z : ∀ q, q < k → mj_mb Y i q → mj_rd Y v l i q
            · rw [if_pos z, if_pos (suc.mpr ⟨z, fun w => absurd w c⟩)]
            · rw [if_neg z, if_neg (fun w => z (suc.mp w).1)]
          rw [e] at this
          exact this
        have mbk : mj_mb Y i k → ∀ x : Int32, x = @ite Int32 (∀ q, q < k + 1 → mj_mb Y i q → mj_rd Y v l i q) (Classical.propDecidable _) 1 0 → mj_W 3 101 3 305 (mz_LS l x6 (nI d) (nI m) 1 (some (.int (nI i))) (some (.int (Y 25 i))) (some (.int (nI ms ||| ((1 : Int32) <<< (nI k &&& 31))))) (some (.int (@ite Int32 (∀ q, q < k → mj_mb Y i q → mj_rd Y v l i q) (Classical.propDecidable _) 1 0))) (some (.int (nI k))) o15 o16 o17) [.int x] (mz Y X) 0 K := by
          intro c x hx
          refine t101_305 ?_
          rw [f1, nI_1, hx]
          refine ih (k + 1) (by omega) (by omega) (ms ||| 2 ^ k) o15 o16 o17 f2 (fun q => ?_)
          rw [mz_tb, Bool.or_eq_true, hbit q, decide_eq_true_eq]
          constructor
          · rintro ((z | z) | z)
            · exact Or.inl z
            · exact Or.inr ⟨by omega, z.2⟩
            · rw [← z]; exact Or.inr ⟨by omega, c⟩
          · rintro (z | z)
            · exact Or.inl (Or.inl z)
            · by_cases e : q = k
              · exact Or.inr e.symm
              · exact Or.inl (Or.inr ⟨by omega, z.2⟩)
        refine t101_207 ⟨fun c => absurd c (mj_ps hS hk2), fun _ => ⟨fun c => absurd c ng, fun _ => ?_⟩⟩
        simp only [mz_rP0 hk8, mz_wP0 hk8, eq_true (mz_vP0 hk8), mz_rP1 hk8, mz_wP1 hk8, eq_true (mz_vP1 hk8), mz_rP2 hk8, mz_wP2 hk8, eq_true (mz_vP2 hk8), mz_rP3 hk8, mz_wP3 hk8, eq_true (mz_vP3 hk8), mz_rP4 hk8, mz_wP4 hk8, eq_true (mz_vP4 hk8), mz_rP5 hk8, mz_wP5 hk8, eq_true (mz_vP5 hk8), mz_rP6 hk8, mz_wP6 hk8, eq_true (mz_vP6 hk8), mz_rP7 hk8, mz_wP7 hk8, eq_true (mz_vP7 hk8), mz_rP0 hi8, mz_wP0 hi8, eq_true (mz_vP0 hi8), mz_rP1 hi8, mz_wP1 hi8, eq_true (mz_vP1 hi8), mz_rP2 hi8, mz_wP2 hi8, eq_true (mz_vP2 hi8), mz_rP3 hi8, mz_wP3 hi8, eq_true (mz_vP3 hi8), mz_rP4 hi8, mz_wP4 hi8, eq_true (mz_vP4 hi8), mz_rP5 hi8, mz_wP5 hi8, eq_true (mz_vP5 hi8), mz_rP6 hi8, mz_wP6 hi8, eq_true (mz_vP6 hi8), mz_rP7 hi8, mz_wP7 hi8, eq_true (mz_vP7 hi8), true_and]
        rw [ck, mz_5, hv k hk2, hlt k hk2]
        refine ⟨fun c => nomb (fun z => c z.1), fun c => ⟨fun c2 => nomb (fun z => c2 z.2), fun c2 => ?_⟩⟩
        have c2' := Decidable.not_not.mp c2
        have hmb : mj_mb Y i k := ⟨c, c2'⟩
        have out : ¬ mj_rd Y v l i k → (0 : Int32) = @ite Int32 (∀ q, q < k + 1 → mj_mb Y i q → mj_rd Y v l i q) (Classical.propDecidable _) 1 0 := fun z => by
          rw [if_neg (fun w => z ((suc.mp w).2 hmb))]
        refine ⟨fun c3 => mbk hmb 0 ?_, fun c3 => ?_⟩
        · have n1 : ¬ ∀ q, q < k → mj_mb Y i q → mj_rd Y v l i q := fun z => by
            rw [if_pos z] at c3; exact absurd c3 (by decide)
          rw [if_neg (fun w => n1 (suc.mp w).1)]
        · have y1 : ∀ q, q < k → mj_mb Y i q → mj_rd Y v l i q := by
            by_cases z : ∀ q, q < k → mj_mb Y i q → mj_rd Y v l i q
            · exact z
            · rw [if_neg z] at c3; exact absurd rfl c3
          refine ⟨fun c4 => mbk hmb 0 (out (fun z => c4 z.1)), fun c4 => ⟨fun c5 => mbk hmb 0 (out (fun z => c5 z.2.2)), fun c5 => ⟨vp_in_nI (by omega) (by decide), fun c6 => mbk hmb 0 (out (fun z => c6 z.2.1)), fun c6 => mbk hmb 1 ?_⟩⟩⟩
          rw [if_pos (suc.mpr ⟨y1, fun _ => ⟨c4, c6, c5⟩⟩)]
    have e0 : (1 : Int32) = @ite Int32 (∀ q, q < 0 → mj_mb Y i q → mj_rd Y v l i q) (Classical.propDecidable _) 1 0 := by
      rw [if_pos (show ∀ q, q < 0 → mj_mb Y i q → mj_rd Y v l i q from fun q hq => absurd hq (Nat.not_lt_zero q))]
    have fin := key 0 (Nat.zero_le _) (2 ^ i) o15 o16 o17 e2 (fun q => by
      rw [← hb3, decide_eq_true_eq]
      exact ⟨Or.inl, fun z => z.elim id (fun w => absurd w.1 (Nat.not_lt_zero q))⟩)
    rw [← e0] at fin
    exact fin
end LWG
