-- THE MODEL'S METHODS, D: trains, lines
section MOD
variable {Z X : mj_M} {K : mj_K} {p t l : Nat}
theorem mj_uc (Z : mj_M) {c c' i i' : Nat} (v w : Int32) (h : c ≠ c') : mj_u (mj_u Z c i v) c' i' w = mj_u (mj_u Z c' i' w) c i v := by
  funext a b
  simp only [mj_u_at]
  by_cases e : a = c
  · subst e
    rw [if_neg (fun z : a = c' ∧ b = i' => h z.1), if_neg (fun z : a = c' ∧ b = i' => h z.1)]
  · rw [if_neg (fun z : a = c ∧ b = i => e z.1), if_neg (fun z : a = c ∧ b = i => e z.1)]
theorem mj_mm_4 (i : Nat) (v : Int32) : mj_mm (mj_u Z 4 i v) X = mj_mm Z X := by
  funext c
  unfold mj_mm
  split
  · funext j
    have h1 := mj_pc_r (j % 8) (Nat.mod_lt _ (by decide))
    have h2 := mj_lc_r ((j - 960) % 11) (Nat.mod_lt _ (by decide))
    have h4 := mj_tc_r ((j - 1164) % 6) (Nat.mod_lt _ (by decide))
    have h3 : ∀ f, f < 5 → mj_rc f ≠ 4 := by decide
    have h3' := h3 ((j - 1114) % 5) (Nat.mod_lt _ (by decide))
    unfold mj_en1
    rw [mj_u_ne _ _ _ (show mj_pc (j % 8) ≠ 4 by omega), mj_u_ne _ _ _ (show mj_lc ((j - 960) % 11) ≠ 4 by omega), mj_u_ne _ _ _ h3', mj_u_ne _ _ _ (show mj_tc ((j - 1164) % 6) ≠ 4 by omega)]
    rfl
  · rfl
def mj_gc (a b c : Int32) : Int32 := if a = 0 then 1 else if b = 0 then 2 else if c = 0 then 3 else 0
theorem sp93 {M : mj_M} {a b c : Int32} (hK : K 0 (mj_bi (mj_gc a b c = 0)) (mj_u M 0 5 (mj_gc a b c))) : mj_Cm 93 1 [.ref 0, .int a, .int b, .int c] M K := by
  refine e93 ⟨fun c1 => ⟨fun c2 => ⟨fun c3 => ?_, fun c3 => ?_⟩, fun c2 => ?_⟩, fun c1 => ?_⟩
  · have e : mj_gc a b c = 3 := by unfold mj_gc; rw [if_neg c1, if_neg c2, if_pos c3]
    rw [e, mj_bi_f (by decide)] at hK
    exact ⟨fun _ => hK, fun c4 => absurd c4 (show ¬ (3 : Int32) = 0 by decide)⟩
  · have e : mj_gc a b c = 0 := by unfold mj_gc; rw [if_neg c1, if_neg c2, if_neg c3]
    rw [e, mj_bi_t rfl] at hK
    exact ⟨fun c4 => absurd (show (0 : Int32) = 0 from rfl) c4, fun _ => hK⟩
  · have e : mj_gc a b c = 2 := by unfold mj_gc; rw [if_neg c1, if_pos c2]
    rw [e, mj_bi_f (by decide)] at hK
    exact ⟨fun _ => hK, fun c4 => absurd c4 (show ¬ (2 : Int32) = 0 by decide)⟩
  · have e : mj_gc a b c = 1 := by unfold mj_gc; rw [if_pos c1]
    rw [e, mj_bi_f (by decide)] at hK
    exact ⟨fun _ => hK, fun c4 => absurd c4 (show ¬ (1 : Int32) = 0 by decide)⟩
theorem mj_lo_fix {f : mj_M → mj_M} {n : Nat} (h : f (mj_lo (fun _ => f) n Z) = mj_lo (fun _ => f) n Z) : ∀ j, mj_lo (fun _ => f) (n + j) Z = mj_lo (fun _ => f) n Z
  | 0 => rfl
  | j + 1 => by
    show f (mj_lo (fun _ => f) (n + j) Z) = _
    rw [mj_lo_fix h j, h]
theorem sp127 (h : mj_J Z) (ht : t < mj_nt Z) (hK : K 0 0 (mj_mm (mj_b2 t (mj_b3 t (mj_lo (fun _ => mj_b1 t) 4 Z))) X)) : mj_Cm 127 4 [.ref 0, .int (nI t)] (mj_mm Z X) K := by
  have vt := mj_qt h.1.s ht
  have ct := mj_qtc h.1.s ht
  have vr := mj_r10 h.1.s (h.1.s.2.2.2.2.2.2.1 t ht).1
  have tail : ∀ A, mj_J A → mj_pr mj_s1 A = mj_pr mj_s1 Z → mj_lo (fun _ => mj_b1 t) 4 Z = A → (¬ mj_b3 t A 31 t = 0 → K 0 0 (mj_mm (mj_b3 t A) X)) ∧ (mj_b3 t A 31 t = 0 → (3 ≤ A 32 t → K 0 0 (mj_mm (mj_b3 t A) X)) ∧ (¬ 3 ≤ A 32 t → (A 30 t ≤ A 33 t → K 0 0 (mj_mm (mj_b3 t A) X)) ∧ (¬ A 30 t ≤ A 33 t → ∀ x4 : Int32, mj_Cm 126 3 [.ref 0, .int (Z 29 t)] (mj_mm (mj_b3 t A) X) (mj_k 1 127 4 178 [some (.ref 0), some (.int (nI t)), some (.int (6 * nI t)), some (.int (Z 29 t)), some (.int x4)] [] 0 (some .int) K)))) := by
    intro A k1 k2 e4
    have tA : t < mj_nt A := by rw [(mj_n_pr k2).2.2.2]; exact ht
    have e29 := mj_pr_at k2 (show mj_s1 29 = true from rfl)
    rw [e4] at hK
    refine ⟨fun c => ?_, fun c => ⟨fun c2 => ?_, fun c2 => ⟨fun c3 => ?_, fun c3 x4 => ?_⟩⟩⟩
    · have e : mj_b2 t (mj_b3 t A) = mj_b3 t A := by
        unfold mj_b2
        exact if_neg (fun z => c z.1)
      rw [e] at hK
      exact hK
    · have e : mj_b2 t (mj_b3 t A) = mj_b3 t A := by
        unfold mj_b2
        refine if_neg (fun z => ?_)
        have y : A 32 t < 3 := z.2.2.2
        rw [mj_lt] at y
        rw [mj_le] at c2
        omega
      rw [e] at hK
      exact hK
    · have e : mj_b2 t (mj_b3 t A) = mj_b3 t A := by
        unfold mj_b2
        refine if_neg (fun z => ?_)
        have y : A 33 t < A 30 t := z.2.1
        rw [mj_lt] at y
        rw [mj_le] at c3
        omega
      rw [e] at hK
      exact hK
    · refine sp126 (mj_b3_J k1 tA).1 ?_
      have hfi : mj_fi (mj_b3 t A) (Z 29 t) (mj_np (mj_b3 t A)) = mj_first (mj_b3 t A) t := by rw [← e29]; rfl
      rw [hfi]
      have l3 : mj_b3 t A 32 t < 3 := by
        show A 32 t < 3
        rw [mj_le] at c2
        rw [mj_lt]; omega
      have l4 : mj_b3 t A 33 t < mj_b3 t A 30 t := by
        show A 33 t < A 30 t
        rw [mj_le] at c3
        rw [mj_lt]; omega
      refine t127_178 ⟨fun c4 => ?_, fun c4 => ?_⟩
      · have e : mj_b2 t (mj_b3 t A) = mj_b3 t A := by
          unfold mj_b2
          exact if_neg (fun z => z.2.2.1 c4)
        rw [e] at hK
        exact hK
      · simp only [mj_rT0 vt, mj_wT0 vt, eq_true (mj_vT0 vt), mj_rT1 vt, mj_wT1 vt, eq_true (mj_vT1 vt), mj_rT2 vt, mj_wT2 vt, eq_true (mj_vT2 vt), mj_rT3 vt, mj_wT3 vt, eq_true (mj_vT3 vt), mj_rT4 vt, mj_wT4 vt, eq_true (mj_vT4 vt), mj_rT5 vt, mj_wT5 vt, eq_true (mj_vT5 vt), ct, true_and]
        unfold mj_b2 at hK
        rw [if_pos ⟨c, l4, c4, l3⟩] at hK
        rw [mj_uc _ _ _ (show 31 ≠ 32 by decide)]
        exact hK
  refine e127 ?_
  simp only [mj_rT0 vt, mj_wT0 vt, eq_true (mj_vT0 vt), mj_rT1 vt, mj_wT1 vt, eq_true (mj_vT1 vt), mj_rT2 vt, mj_wT2 vt, eq_true (mj_vT2 vt), mj_rT3 vt, mj_wT3 vt, eq_true (mj_vT3 vt), mj_rT4 vt, mj_wT4 vt, eq_true (mj_vT4 vt), mj_rT5 vt, mj_wT5 vt, eq_true (mj_vT5 vt), ct, true_and]
  refine mj_down (P := fun n => mj_W 1 127 4 19 [some (.ref 0), some (.int (nI t)), some (.int (6 * nI t)), some (.int (Z 29 t)), some (.int (nI n))] [] (mj_mm (mj_lo (fun _ => mj_b1 t) n Z) X) 0 K) 4 ?_ ?_
  · obtain ⟨k1, k2⟩ := mj_bs_k h ht 4
    have tl := tail _ k1 k2 rfl
    generalize mj_lo (fun _ => mj_b1 t) 4 Z = A at k1 k2 tl ⊢
    refine t127_19 ⟨fun _ => ?_, fun c => absurd (nI_le (Nat.le_refl 4) (by decide)) c⟩
    simp only [mj_rT0 vt, mj_wT0 vt, eq_true (mj_vT0 vt), mj_rT1 vt, mj_wT1 vt, eq_true (mj_vT1 vt), mj_rT2 vt, mj_wT2 vt, eq_true (mj_vT2 vt), mj_rT3 vt, mj_wT3 vt, eq_true (mj_vT3 vt), mj_rT4 vt, mj_wT4 vt, eq_true (mj_vT4 vt), mj_rT5 vt, mj_wT5 vt, eq_true (mj_vT5 vt), ct, true_and]
    exact ⟨tl.1, fun c => ⟨(tl.2 c).1, fun c2 => ⟨((tl.2 c).2 c2).1, fun c3 => ((tl.2 c).2 c2).2 c3 _⟩⟩⟩
  · intro n hn ih
    obtain ⟨k1, k2⟩ := mj_bs_k h ht n
    have e29 := mj_pr_at k2 (show mj_s1 29 = true from rfl)
    have fix : mj_b1 t (mj_lo (fun _ => mj_b1 t) n Z) = mj_lo (fun _ => mj_b1 t) n Z → mj_lo (fun _ => mj_b1 t) 4 Z = mj_lo (fun _ => mj_b1 t) n Z := by
      intro e
      have := mj_lo_fix e (4 - n)
      rw [show n + (4 - n) = 4 by omega] at this
      exact this
    have ih' : mj_W 1 127 4 19 [some (.ref 0), some (.int (nI t)), some (.int (6 * nI t)), some (.int (Z 29 t)), some (.int (nI (n + 1)))] [] (mj_mm (mj_b1 t (mj_lo (fun _ => mj_b1 t) n Z)) X) 0 K := ih
    have tl := tail _ k1 k2
    generalize mj_lo (fun _ => mj_b1 t) n Z = A at k1 k2 e29 fix ih' tl ⊢
    have tA : t < mj_nt A := by rw [(mj_n_pr k2).2.2.2]; exact ht
    have hfi : mj_fi A (Z 29 t) (mj_np A) = mj_first A t := by rw [← e29]
    obtain ⟨t1, t2, t3⟩ := mj_b1_t A t
    refine t127_19 ⟨fun c => absurd c (nI_ge hn (by decide)), fun _ => ?_⟩
    simp only [mj_rT0 vt, mj_wT0 vt, eq_true (mj_vT0 vt), mj_rT1 vt, mj_wT1 vt, eq_true (mj_vT1 vt), mj_rT2 vt, mj_wT2 vt, eq_true (mj_vT2 vt), mj_rT3 vt, mj_wT3 vt, eq_true (mj_vT3 vt), mj_rT4 vt, mj_wT4 vt, eq_true (mj_vT4 vt), mj_rT5 vt, mj_wT5 vt, eq_true (mj_vT5 vt), ct, true_and]
    refine ⟨fun c => ?_, fun c => ?_⟩
    · have tl' := tl (fix (t3 (fun z => by rw [mj_lt] at z; rw [mj_le] at c; omega)))
      exact ⟨tl'.1, fun c => ⟨(tl'.2 c).1, fun c2 => ⟨((tl'.2 c).2 c2).1, fun c3 => ((tl'.2 c).2 c2).2 c3 _⟩⟩⟩
    · refine sp126 k1.1 ?_
      rw [hfi]
      refine t127_53 ⟨fun c2 => ?_, fun c2 => ?_⟩
      · simp only [mj_rT0 vt, mj_wT0 vt, eq_true (mj_vT0 vt), mj_rT1 vt, mj_wT1 vt, eq_true (mj_vT1 vt), mj_rT2 vt, mj_wT2 vt, eq_true (mj_vT2 vt), mj_rT3 vt, mj_wT3 vt, eq_true (mj_vT3 vt), mj_rT4 vt, mj_wT4 vt, eq_true (mj_vT4 vt), mj_rT5 vt, mj_wT5 vt, eq_true (mj_vT5 vt), ct, true_and]
        have tl' := tl (fix (t2 c2))
        exact ⟨tl'.1, fun c => ⟨(tl'.2 c).1, fun c2 => ⟨((tl'.2 c).2 c2).1, fun c3 => ((tl'.2 c).2 c2).2 c3 _⟩⟩⟩
      · refine sp126 k1.1 ?_
        rw [hfi]
        obtain ⟨p, hp, q1, q2, w1, w2, -⟩ := mj_first_ok k1.1.s t c2
        have hy := mj_qv k1.1.s hp
        have hd := mj_qc k1.1.s hp
        rw [q1]
        refine t127_68 ?_
        simp only [mj_rT0 vt, mj_wT0 vt, eq_true (mj_vT0 vt), mj_rT1 vt, mj_wT1 vt, eq_true (mj_vT1 vt), mj_rT2 vt, mj_wT2 vt, eq_true (mj_vT2 vt), mj_rT3 vt, mj_wT3 vt, eq_true (mj_vT3 vt), mj_rT4 vt, mj_wT4 vt, eq_true (mj_vT4 vt), mj_rT5 vt, mj_wT5 vt, eq_true (mj_vT5 vt), mj_rP0 hy, mj_wP0 hy, eq_true (mj_vP0 hy), mj_rP1 hy, mj_wP1 hy, eq_true (mj_vP1 hy), mj_rP2 hy, mj_wP2 hy, eq_true (mj_vP2 hy), mj_rP3 hy, mj_wP3 hy, eq_true (mj_vP3 hy), mj_rP4 hy, mj_wP4 hy, eq_true (mj_vP4 hy), mj_rP5 hy, mj_wP5 hy, eq_true (mj_vP5 hy), mj_rP6 hy, mj_wP6 hy, eq_true (mj_vP6 hy), mj_rP7 hy, mj_wP7 hy, eq_true (mj_vP7 hy), mj_rR0 vr, mj_wR0 vr, eq_true (mj_vR0 vr), mj_rR1 vr, mj_wR1 vr, eq_true (mj_vR1 vr), mj_rR2 vr, mj_wR2 vr, eq_true (mj_vR2 vr), mj_rR3 vr, mj_wR3 vr, eq_true (mj_vR3 vr), mj_rR4 vr, mj_wR4 vr, eq_true (mj_vR4 vr), ct, hd, true_and]
        have e : mj_b1 t A = mj_b0 t p A := by
          unfold mj_b1
          rw [if_pos ⟨by rw [mj_lt]; rw [mj_le] at c; omega, c2⟩, q2]
        rw [e] at ih'
        unfold mj_b0 at ih'
        rw [e29] at ih'
        rw [mj_uc _ _ _ (show 33 ≠ 6 by decide), nI_1]
        exact ih'
theorem sp128 (h : mj_Iv Z) {a b : Nat} (ha : a < mj_np Z) (hb : b < mj_np Z) (hl : l < mj_nl Z) (hK : K 0 (mj_bi (mj_ah Z l a b)) (mj_mm Z X)) : mj_Cm 128 2 [.ref 0, .int (nI a), .int (nI b), .int (nI l)] (mj_mm Z X) K := by
  have hx := mj_ql h.s hl
  have hc := mj_qlc h.s hl
  have ya := mj_qv h.s ha
  have da := mj_qc h.s ha
  have yb := mj_qv h.s hb
  have db := mj_qc h.s hb
  have hP := (mj_S_P h.s).1
  have b24 := (h.s.2.2.2.1 a ha).2.1
  have yes : mj_ah Z l a b → K 0 1 (mj_mm Z X) := fun z => by rw [mj_bi_t z] at hK; exact hK
  have no : ¬ mj_ah Z l a b → K 0 0 (mj_mm Z X) := fun z => by rw [mj_bi_f z] at hK; exact hK
  have ca := (h.a a ha).2.2.2
  have cb := (h.a b hb).2.2.2
  have he := h.e
  unfold mj_De at he
  have hsub : (Z 26 a - Z 26 b).toInt = (Z 26 a).toInt - (Z 26 b).toInt := fb_subI (by omega) (by omega)
  have i0 : (0 : Int32).toInt = 0 := by decide
  have na := nI_toInt (show a < 2 ^ 31 by omega)
  have nb := nI_toInt (show b < 2 ^ 31 by omega)
  have came : ¬ (Z 9 l = 2 ∧ ¬ Z 24 a = Z 24 b) → (Z 26 a - Z 26 b < 0 → K 0 1 (mj_mm Z X)) ∧ (¬ Z 26 a - Z 26 b < 0 → (¬ Z 26 a - Z 26 b = 0 → K 0 0 (mj_mm Z X)) ∧ (Z 26 a - Z 26 b = 0 → (nI b ≤ nI a → K 0 0 (mj_mm Z X)) ∧ (¬ nI b ≤ nI a → K 0 1 (mj_mm Z X)))) := by
    intro c
    refine ⟨fun c1 => ?_, fun c1 => ⟨fun c2 => ?_, fun c2 => ⟨fun c3 => ?_, fun c3 => ?_⟩⟩⟩
    · rw [mj_lt, hsub, i0] at c1
      exact yes (Or.inr ⟨c, Or.inl (by rw [mj_lt]; omega)⟩)
    · rw [mj_lt, hsub, i0] at c1
      rw [mj_eq, hsub, i0] at c2
      refine no (fun z => z.elim (fun y => c ⟨y.1, y.2.1⟩) (fun y => y.2.elim (fun w => ?_) (fun w => ?_)))
      · rw [mj_lt] at w; omega
      · have := w.1
        rw [mj_eq] at this; omega
    · rw [mj_eq, hsub, i0] at c2
      rw [mj_le, na, nb] at c3
      refine no (fun z => z.elim (fun y => c ⟨y.1, y.2.1⟩) (fun y => y.2.elim (fun w => ?_) (fun w => ?_)))
      · rw [mj_lt] at w; omega
      · omega
    · rw [mj_eq, hsub, i0] at c2
      rw [mj_le, na, nb] at c3
      exact yes (Or.inr ⟨c, Or.inr ⟨by rw [mj_eq]; omega, by omega⟩⟩)
  refine e128 ?_
  simp only [mj_rL0 hx, mj_wL0 hx, eq_true (mj_vL0 hx), mj_rL1 hx, mj_wL1 hx, eq_true (mj_vL1 hx), mj_rL2 hx, mj_wL2 hx, eq_true (mj_vL2 hx), mj_rL3 hx, mj_wL3 hx, eq_true (mj_vL3 hx), mj_rL4 hx, mj_wL4 hx, eq_true (mj_vL4 hx), mj_rL5 hx, mj_wL5 hx, eq_true (mj_vL5 hx), mj_rL6 hx, mj_wL6 hx, eq_true (mj_vL6 hx), mj_rL7 hx, mj_wL7 hx, eq_true (mj_vL7 hx), mj_rL8 hx, mj_wL8 hx, eq_true (mj_vL8 hx), mj_rL9 hx, mj_wL9 hx, eq_true (mj_vL9 hx), mj_rL10 hx, mj_wL10 hx, eq_true (mj_vL10 hx), mj_rP0 ya, mj_wP0 ya, eq_true (mj_vP0 ya), mj_rP1 ya, mj_wP1 ya, eq_true (mj_vP1 ya), mj_rP2 ya, mj_wP2 ya, eq_true (mj_vP2 ya), mj_rP3 ya, mj_wP3 ya, eq_true (mj_vP3 ya), mj_rP4 ya, mj_wP4 ya, eq_true (mj_vP4 ya), mj_rP5 ya, mj_wP5 ya, eq_true (mj_vP5 ya), mj_rP6 ya, mj_wP6 ya, eq_true (mj_vP6 ya), mj_rP7 ya, mj_wP7 ya, eq_true (mj_vP7 ya), mj_rP0 yb, mj_wP0 yb, eq_true (mj_vP0 yb), mj_rP1 yb, mj_wP1 yb, eq_true (mj_vP1 yb), mj_rP2 yb, mj_wP2 yb, eq_true (mj_vP2 yb), mj_rP3 yb, mj_wP3 yb, eq_true (mj_vP3 yb), mj_rP4 yb, mj_wP4 yb, eq_true (mj_vP4 yb), mj_rP5 yb, mj_wP5 yb, eq_true (mj_vP5 yb), mj_rP6 yb, mj_wP6 yb, eq_true (mj_vP6 yb), mj_rP7 yb, mj_wP7 yb, eq_true (mj_vP7 yb), hc, da, db, true_and]
  refine ⟨fun c => came (fun z => c z.1), fun c => ⟨fun c2 => came (fun z => z.2 c2), fun c2 => ⟨fun c3 => ?_, fun c3 => ?_⟩⟩⟩
  · rw [mj_bit1 b24] at c3
    refine no (fun z => z.elim (fun y => c3 y.2.2) (fun y => y.1 ⟨c, c2⟩))
  · rw [mj_bit1 b24] at c3
    exact yes (Or.inl ⟨c, c2, c3⟩)
abbrev mj_mo (Z : mj_M) (p q : Nat) : Prop := q = p ∨ (¬ Z 25 p = -1 ∧ mj_mb Z p q)
theorem sp129 (h : mj_Iv Z) {q : Nat} (hq : q < mj_np Z) (hp : p < mj_np Z) (hK : K 0 (mj_bi (mj_mo Z p q)) (mj_mm Z X)) : mj_Cm 129 2 [.ref 0, .int (nI q), .int (nI p)] (mj_mm Z X) K := by
  have ya := mj_qv h.s hq
  have da := mj_qc h.s hq
  have yb := mj_qv h.s hp
  have db := mj_qc h.s hp
  have hP := (mj_S_P h.s).1
  have st := (h.a q hq).1
  have yes : mj_mo Z p q → K 0 1 (mj_mm Z X) := fun z => by rw [mj_bi_t z] at hK; exact hK
  have no : ¬ mj_mo Z p q → K 0 0 (mj_mm Z X) := fun z => by rw [mj_bi_f z] at hK; exact hK
  refine e129 ?_
  simp only [mj_rP0 ya, mj_wP0 ya, eq_true (mj_vP0 ya), mj_rP1 ya, mj_wP1 ya, eq_true (mj_vP1 ya), mj_rP2 ya, mj_wP2 ya, eq_true (mj_vP2 ya), mj_rP3 ya, mj_wP3 ya, eq_true (mj_vP3 ya), mj_rP4 ya, mj_wP4 ya, eq_true (mj_vP4 ya), mj_rP5 ya, mj_wP5 ya, eq_true (mj_vP5 ya), mj_rP6 ya, mj_wP6 ya, eq_true (mj_vP6 ya), mj_rP7 ya, mj_wP7 ya, eq_true (mj_vP7 ya), mj_rP0 yb, mj_wP0 yb, eq_true (mj_vP0 yb), mj_rP1 yb, mj_wP1 yb, eq_true (mj_vP1 yb), mj_rP2 yb, mj_wP2 yb, eq_true (mj_vP2 yb), mj_rP3 yb, mj_wP3 yb, eq_true (mj_vP3 yb), mj_rP4 yb, mj_wP4 yb, eq_true (mj_vP4 yb), mj_rP5 yb, mj_wP5 yb, eq_true (mj_vP5 yb), mj_rP6 yb, mj_wP6 yb, eq_true (mj_vP6 yb), mj_rP7 yb, mj_wP7 yb, eq_true (mj_vP7 yb), da, db, true_and]
  refine ⟨fun c => yes (Or.inl ((nI_eq (by omega) (by omega)).mp c)), fun c => ?_⟩
  have c' : ¬ q = p := fun z => c (by rw [z])
  refine ⟨fun c2 => no (fun z => z.elim c' (fun y => y.1 c2)), fun c2 => ⟨fun c3 => no (fun z => z.elim c' (fun y => c3 y.2.1)), fun c3 => ⟨fun c4 => no (fun z => z.elim c' (fun y => y.2.2.elim (fun w => ?_) (fun w => ?_))), fun c4 => yes (Or.inr ⟨c2, c3, ?_⟩)⟩⟩⟩
  · rw [w] at c4
    exact absurd c4 (by decide)
  · rw [w] at c4
    exact absurd c4 (by decide)
  · rcases st with w | w | w | w
    · exact Or.inl w
    · exact Or.inr w
    · rw [w] at c4
      exact absurd (by decide) c4
    · rw [w] at c4
      exact absurd (by decide) c4
theorem mj_sz_mo {v : Nat → Int32} (hp : p < mj_np Z) (hw : Z 21 p = 0) (hv : v p = nI l) : mj_sz Z v l p = if mj_cb (fun q => decide (mj_mo Z p q ∧ ¬ mj_rd Z v l p q)) (mj_np Z) = 0 then mj_cb (fun q => decide (mj_mo Z p q)) (mj_np Z) else 0 := by
  have rp : mj_rd Z v l p p := ⟨hw, hv, rfl⟩
  unfold mj_sz
  by_cases c : Z 25 p = -1
  · have e1 : mj_cb (fun q => decide (mj_mo Z p q ∧ ¬ mj_rd Z v l p q)) (mj_np Z) = 0 := mj_cb_0 _ (fun j hj => decide_eq_false (fun z => z.1.elim (fun e => z.2 (by rw [e]; exact rp)) (fun y => y.1 c)))
    have e2 : mj_cb (fun q => decide (mj_mo Z p q)) (mj_np Z) = mj_cb (fun q => decide (q = p)) (mj_np Z) := mj_cb_c _ (fun j hj => decide_eq_decide.mpr ⟨fun z => z.elim id (fun y => absurd c y.1), Or.inl⟩)
    rw [if_pos c, if_pos e1, e2, mj_cb_1 _ hp]
  · have mp : mj_mb Z p p := ⟨rfl, Or.inl hw⟩
    have eq : ∀ j, mj_mo Z p j ↔ mj_mb Z p j := fun j => ⟨fun z => z.elim (fun e => by rw [e]; exact mp) (fun y => y.2), fun z => Or.inr ⟨c, z⟩⟩
    have e1 : mj_cb (fun q => decide (mj_mo Z p q ∧ ¬ mj_rd Z v l p q)) (mj_np Z) = mj_cb (fun q => decide (mj_mb Z p q ∧ ¬ mj_rd Z v l p q)) (mj_np Z) := mj_cb_c _ (fun j hj => decide_eq_decide.mpr ⟨fun z => ⟨(eq j).mp z.1, z.2⟩, fun z => ⟨(eq j).mpr z.1, z.2⟩⟩)
    have e2 : mj_cb (fun q => decide (mj_mo Z p q)) (mj_np Z) = mj_cb (fun q => decide (mj_mb Z p q)) (mj_np Z) := mj_cb_c _ (fun j hj => decide_eq_decide.mpr (eq j))
    rw [if_neg c, e1, e2]
theorem sp130 (h : mj_Iv Z) {v : Nat → Int32} (hl : l < mj_nl Z) (hp : p < mj_np Z) (hw : Z 21 p = 0) (hv : v p = nI l) (hX : ∀ i, i < mj_np Z → X 4 i = v i) (hK : K 0 (nI (mj_sz Z v l p)) (mj_mm Z X)) : mj_Cm 130 3 [.ref 0, .int (nI l), .int (nI p)] (mj_mm Z X) K := by
  have yb := mj_qv h.s hp
  have db := mj_qc h.s hp
  rw [mj_sz_mo hp hw hv] at hK
  refine e130 ?_
  refine mj_down (P := fun k => (∀ q, q < k → mj_mo Z p q → mj_rd Z v l p q) → mj_W 1 130 3 5 [some (.ref 0), some (.int (nI l)), some (.int (nI p)), some (.int (nI (mj_cb (fun q => decide (mj_mo Z p q)) k))), some (.int (nI k))] [] (mj_mm Z X) 0 K) (mj_np Z) ?_ ?_ (fun q hq => absurd hq (Nat.not_lt_zero q))
  · intro hr
    rw [if_pos (mj_cb_0 _ (fun j hj => decide_eq_false (fun z => z.2 (hr j hj z.1))))] at hK
    exact t130_5 ⟨fun _ => hK, fun c => absurd (mj_pe h.s rfl) c⟩
  · intro k hk ih hr
    have ya := mj_qv h.s hk
    have da := mj_qc h.s hk
    have ecb : mj_cb (fun q => decide (mj_mo Z p q)) (k + 1) = mj_cb (fun q => decide (mj_mo Z p q)) k + (if decide (mj_mo Z p k) = true then 1 else 0) := rfl
    have bad : mj_mo Z p k → ¬ mj_rd Z v l p k → K 0 0 (mj_mm Z X) := by
      intro m n
      rw [if_neg (fun z => of_decide_eq_false (mj_cb_pos _ z k hk) ⟨m, n⟩)] at hK
      exact hK
    refine t130_5 ⟨fun c => (mj_ps h.s hk c).elim, fun _ => sp129 h hk hp ?_⟩
    refine t130_25 ⟨fun c => ?_, fun c => ?_⟩
    · rw [mj_bi0] at c
      rw [ecb, if_neg (fun z => c (of_decide_eq_true z)), Nat.add_zero] at ih
      rw [nI_1]
      refine ih (fun q hq m => ?_)
      by_cases e : q = k
      · subst e; exact absurd m c
      · exact hr q (by omega) m
    · rw [mj_bi1] at c
      simp only [mj_rP0 ya, mj_wP0 ya, eq_true (mj_vP0 ya), mj_rP1 ya, mj_wP1 ya, eq_true (mj_vP1 ya), mj_rP2 ya, mj_wP2 ya, eq_true (mj_vP2 ya), mj_rP3 ya, mj_wP3 ya, eq_true (mj_vP3 ya), mj_rP4 ya, mj_wP4 ya, eq_true (mj_vP4 ya), mj_rP5 ya, mj_wP5 ya, eq_true (mj_vP5 ya), mj_rP6 ya, mj_wP6 ya, eq_true (mj_vP6 ya), mj_rP7 ya, mj_wP7 ya, eq_true (mj_vP7 ya), mj_rP0 yb, mj_wP0 yb, eq_true (mj_vP0 yb), mj_rP1 yb, mj_wP1 yb, eq_true (mj_vP1 yb), mj_rP2 yb, mj_wP2 yb, eq_true (mj_vP2 yb), mj_rP3 yb, mj_wP3 yb, eq_true (mj_vP3 yb), mj_rP4 yb, mj_wP4 yb, eq_true (mj_vP4 yb), mj_rP5 yb, mj_wP5 yb, eq_true (mj_vP5 yb), mj_rP6 yb, mj_wP6 yb, eq_true (mj_vP6 yb), mj_rP7 yb, mj_wP7 yb, eq_true (mj_vP7 yb), da, db, true_and]
      refine ⟨fun c2 => bad c (fun z => c2 z.1), fun c2 => ⟨fun c3 => bad c (fun z => c3 z.2.2), fun c3 => ⟨ya, ?_⟩⟩⟩
      rw [show mj_mm Z X 4 k = X 4 k from rfl, hX k hk]
      refine ⟨fun c4 => ?_, fun c4 => bad c (fun z => c4 z.2.1)⟩
      rw [ecb, if_pos (decide_eq_true c)] at ih
      rw [nI_1, nI_1]
      refine ih (fun q hq m => ?_)
      by_cases e : q = k
      · subst e; exact ⟨c2, c4, c3⟩
      · exact hr q (by omega) m
theorem sp131 (h : mj_S Z) (hl : l < mj_nl Z) (hp : p < mj_np Z) (hr : vp_in (Z 22 p) 10) {b : Int32} (hK : K 0 0 (mj_mm (mj_on l (Z 22 p) b p Z) X)) : mj_Cm 131 2 [.ref 0, .int (nI l), .int (nI p), .int b] (mj_mm Z X) K := by
  have hx := mj_ql h hl
  have hc := mj_qlc h hl
  have ya := mj_qv h hp
  have da := mj_qc h hp
  unfold mj_on at hK
  refine e131 ?_
  simp only [mj_rL0 hx, mj_wL0 hx, eq_true (mj_vL0 hx), mj_rL1 hx, mj_wL1 hx, eq_true (mj_vL1 hx), mj_rL2 hx, mj_wL2 hx, eq_true (mj_vL2 hx), mj_rL3 hx, mj_wL3 hx, eq_true (mj_vL3 hx), mj_rL4 hx, mj_wL4 hx, eq_true (mj_vL4 hx), mj_rL5 hx, mj_wL5 hx, eq_true (mj_vL5 hx), mj_rL6 hx, mj_wL6 hx, eq_true (mj_vL6 hx), mj_rL7 hx, mj_wL7 hx, eq_true (mj_vL7 hx), mj_rL8 hx, mj_wL8 hx, eq_true (mj_vL8 hx), mj_rL9 hx, mj_wL9 hx, eq_true (mj_vL9 hx), mj_rL10 hx, mj_wL10 hx, eq_true (mj_vL10 hx), mj_rP0 ya, mj_wP0 ya, eq_true (mj_vP0 ya), mj_rP1 ya, mj_wP1 ya, eq_true (mj_vP1 ya), mj_rP2 ya, mj_wP2 ya, eq_true (mj_vP2 ya), mj_rP3 ya, mj_wP3 ya, eq_true (mj_vP3 ya), mj_rP4 ya, mj_wP4 ya, eq_true (mj_vP4 ya), mj_rP5 ya, mj_wP5 ya, eq_true (mj_vP5 ya), mj_rP6 ya, mj_wP6 ya, eq_true (mj_vP6 ya), mj_rP7 ya, mj_wP7 ya, eq_true (mj_vP7 ya), mj_rR0 hr, mj_wR0 hr, eq_true (mj_vR0 hr), mj_rR1 hr, mj_wR1 hr, eq_true (mj_vR1 hr), mj_rR2 hr, mj_wR2 hr, eq_true (mj_vR2 hr), mj_rR3 hr, mj_wR3 hr, eq_true (mj_vR3 hr), mj_rR4 hr, mj_wR4 hr, eq_true (mj_vR4 hr), hc, da, true_and, mj_rS1236, mj_wS1236, mj_rS1237, mj_wS1237, mj_rS1238, mj_wS1238, mj_rS1239, mj_wS1239, mj_rS1240, mj_wS1240, mj_rS1241, mj_wS1241]
  refine ⟨fun c => ?_, fun c => ?_⟩
  · rw [if_neg (fun z => c z.symm)] at hK
    rw [mj_uc _ _ _ (show 4 ≠ 21 by decide), mj_uc _ _ _ (show 4 ≠ 22 by decide), mj_uc _ _ _ (show 4 ≠ 26 by decide), mj_mm_4, mj_uc _ _ _ (show 15 ≠ 6 by decide), mj_uc _ _ _ (show 21 ≠ 22 by decide)] at hK
    exact hK
  · rw [if_pos c.symm] at hK
    rw [mj_uc _ _ _ (show 4 ≠ 21 by decide), mj_uc _ _ _ (show 4 ≠ 22 by decide), mj_uc _ _ _ (show 4 ≠ 26 by decide), mj_mm_4, mj_uc _ _ _ (show 14 ≠ 6 by decide), mj_uc _ _ _ (show 21 ≠ 22 by decide)] at hK
    exact hK
theorem mj_mline (h : mj_Iv Z) {k n : Nat} (hk : k < mj_np Z) (hl : l < mj_nl Z) (hn : n < 120) : ∀ (a : Nat) (X : mj_M), a ≤ n → (∀ i, i < a → ∃ q, q < mj_np Z ∧ X 5 i = nI q) → (∀ X' o4, (∀ c, c ≠ 5 → X' c = X c) → X' 5 = mj_is Z l k a (X 5) → mj_W 1 132 3 4 [some (.ref 0), some (.int (nI l)), some (.int (nI n + 1)), some (.int (nI k + 1)), o4] [] (mj_mm Z X') 0 K) → mj_W 1 132 3 29 [some (.ref 0), some (.int (nI l)), some (.int (nI n)), some (.int (nI k)), some (.int (nI a))] [] (mj_mm Z X) 0 K
  | 0, X, ha, hq, hK => by
    refine t132_29 ⟨fun _ => ⟨vp_in_nI (by omega) (by decide), ?_⟩, fun c => absurd (show nI 0 ≤ 0 by decide) c⟩
    rw [nI_clamp (by omega), mj_mm_wo _ _ _ _ (by decide)]
    refine hK _ _ (fun c h1 => by rw [mj_u_ne _ _ _ h1]) ?_
    rw [mj_u_same]; rfl
  | a + 1, X, ha, hq, hK => by
    obtain ⟨p, hp, ep⟩ := hq a (by omega)
    have hs1 : nI (a + 1) - 1 = nI a := nI_pred a
    have cl1 : (nI (a + 1)).toNatClampNeg = a + 1 := nI_clamp (by omega)
    have v1 : vp_in (nI (a + 1)) 120 := vp_in_nI (by omega) (by decide)
    refine t132_29 ⟨fun c => absurd c (nI_nle (by omega) (by omega)), fun _ => ?_⟩
    rw [hs1, nI_clamp (show a < 2 ^ 31 by omega), show mj_mm Z X 5 a = X 5 a from rfl, ep]
    refine ⟨vp_in_nI (by omega) (by decide), sp128 h hk hp hl (t132_49 ⟨fun c => ⟨v1, ?_⟩, fun c => ?_⟩)⟩
    · rw [mj_bi0] at c
      rw [cl1, mj_mm_wo _ _ _ _ (by decide)]
      refine hK _ _ (fun c h1 => by rw [mj_u_ne _ _ _ h1]) ?_
      rw [mj_u_same]
      unfold mj_is
      rw [ep, nI_clamp (by have := (mj_S_P h.s).1; omega), if_neg c]
    · rw [mj_bi1] at c
      rw [hs1, nI_clamp (show a < 2 ^ 31 by omega), show mj_mm Z X 5 a = X 5 a from rfl, ep, cl1, mj_mm_wo _ _ _ _ (by decide), show nI (a + 1) + -1 = nI (a + 1) - 1 by grind, hs1]
      refine ⟨vp_in_nI (by omega) (by decide), v1, ?_⟩
      refine mj_mline h hk hl hn a _ (by omega) (fun i hi => ?_) (fun X' o4 x1 x2 => ?_)
      · obtain ⟨p', hp', e'⟩ := hq i (by omega)
        refine ⟨p', hp', ?_⟩
        rw [mj_u_at, if_neg (by omega)]
        exact e'
      · refine hK X' o4 (fun c h1 => by rw [x1 c h1, mj_u_ne _ _ _ h1]) ?_
        rw [x2, mj_u_same]
        show _ = mj_is Z l k (a + 1) (X 5)
        rw [show mj_is Z l k (a + 1) (X 5) = if mj_ah Z l k (X 5 a).toNatClampNeg then mj_is Z l k a (upd (X 5) (a + 1) (X 5 a)) else upd (X 5) (a + 1) (nI k) from rfl, ep, nI_clamp (by have := (mj_S_P h.s).1; omega), if_pos c]
theorem sp132 (h : mj_Iv Z) {v : Nat → Int32} (hl : l < mj_nl Z) (hv : ∀ i, i < mj_np Z → X 4 i = v i) (hK : ∀ X', (∀ c, c ≠ 5 → X' c = X c) → X' 5 = (mj_ln Z v l (X 5) (mj_np Z)).2 → K 0 (nI (mj_ln Z v l (X 5) (mj_np Z)).1) (mj_mm Z X')) : mj_Cm 132 3 [.ref 0, .int (nI l)] (mj_mm Z X) K := by
  have hP := (mj_S_P h.s).1
  refine e132 ?_
  refine mj_down (P := fun k => ∀ X' o4, (∀ c, c ≠ 5 → X' c = X c) → X' 5 = (mj_ln Z v l (X 5) k).2 → mj_W 1 132 3 4 [some (.ref 0), some (.int (nI l)), some (.int (nI (mj_ln Z v l (X 5) k).1)), some (.int (nI k)), o4] [] (mj_mm Z X') 0 K) (mj_np Z) ?_ ?_ X none (fun _ _ => rfl) rfl
  · intro X' o4 x1 x2
    exact t132_4 ⟨fun _ => hK X' x1 x2, fun c => absurd (mj_pe h.s rfl) c⟩
  · intro k hk ih X' o4 x1 x2
    have hc := mj_qc h.s hk
    have e4 : X' 4 k = v k := by rw [x1 4 (by decide)]; exact hv k hk
    have eln : mj_ln Z v l (X 5) (k + 1) = if v k = nI l then ((mj_ln Z v l (X 5) k).1 + 1, mj_is Z l k (mj_ln Z v l (X 5) k).1 (mj_ln Z v l (X 5) k).2) else mj_ln Z v l (X 5) k := rfl
    obtain ⟨w1, w2⟩ := mj_ln_ok (Z := Z) (v := v) (l := l) (q := X 5) k
    refine t132_4 ⟨fun c => (mj_ps h.s hk c).elim, fun _ => ⟨mj_qv h.s hk, ?_⟩⟩
    rw [hc, show mj_mm Z X' 4 k = X' 4 k from rfl, e4]
    refine ⟨fun c => ?_, fun c => ?_⟩
    · rw [eln, if_neg c] at ih
      rw [nI_1]
      exact ih X' _ x1 x2
    · rw [eln, if_pos c] at ih
      refine mj_mline h hk hl (by omega) _ X' (Nat.le_refl _) (fun i hi => ?_) (fun X2 o4 y1 y2 => ?_)
      · obtain ⟨p, hp, e1, -⟩ := w2 i hi
        exact ⟨p, by omega, by rw [x2]; exact e1⟩
      · rw [nI_1, nI_1]
        refine ih X2 _ (fun c hc => by rw [y1 c hc, x1 c hc]) ?_
        rw [y2, x2]
end MOD
