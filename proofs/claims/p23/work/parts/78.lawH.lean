-- THE LAW'S METHODS, H: serve
section LWH
variable {Z Y Z3 X : mj_M} {K : mj_K} {p l r t a b i : Nat} {v : Nat → Int32} {q : Nat → Int32}
/-- who still waits has not been touched -/
def mz_we (Z Y : mj_M) : Prop := ∀ k, Y 21 k = 0 → Z 21 k = 0 ∧ Y 26 k = Z 26 k
theorem mz_we_be1 {d : Nat} (h : mz_we Z Y) : mz_we Z (mj_be1 v l i (Y, d)).1 ∧ ∀ k, ¬ Y 21 k = 0 → ¬ (mj_be1 v l i (Y, d)).1 21 k = 0 := by
  unfold mj_be1
  by_cases c : (Y, d).1 21 i = 0 ∧ ¬ mj_sz (Y, d).1 v l i = 0 ∧ mj_hp (Y, d).1 l (mj_sz (Y, d).1 v l i) (Y, d).2 i
  · rw [if_pos c]
    dsimp only
    refine ⟨fun k hk => ?_, fun k hk => ?_⟩
    · rw [mj_bk_21] at hk
      rw [mj_bk_26]
      split at hk
      · exact absurd hk (by decide)
      · rename_i n
        rw [if_neg n]
        exact h k hk
    · rw [mj_bk_21]
      split
      · decide
      · exact hk
  · rw [if_neg c]
    exact ⟨h, fun k hk => hk⟩
theorem mz_we_be : ∀ n, mz_we Z (mj_be v l q n Z).1
  | 0 => fun k hk => ⟨hk, rfl⟩
  | n + 1 => (mz_we_be1 (d := (mj_be v l q n Z).2) (mz_we_be n)).1
theorem mz_be_n {j : Nat} : ∀ (j' : Nat), j ≤ j' → (∀ i, j ≤ i → i < j' → ¬ (mj_be v l q j Z).1 21 (q i).toNatClampNeg = 0) → mj_be v l q j' Z = mj_be v l q j Z
  | 0, hj, _ => by
    have : j = 0 := by omega
    rw [this]
  | j' + 1, hj, h => by
    by_cases e : j = j' + 1
    · rw [e]
    · have ih := mz_be_n j' (by omega) (fun i h1 h2 => h i h1 (by omega))
      show mj_be1 v l (q j').toNatClampNeg (mj_be v l q j' Z) = _
      rw [ih]
      unfold mj_be1
      rw [if_neg (fun z => h j' (by omega) (by omega) z.1)]
theorem mz_sz_le (hi : i < mj_np Z) : mj_sz Z v l i ≤ mj_np Z := by
  unfold mj_sz
  split
  · omega
  · split
    · exact mj_cb_le _ _
    · omega
theorem mz_be_d (hP : mj_np Z ≤ 8) : ∀ n, (∀ i, i < n → (q i).toNatClampNeg < mj_np Z) → (mj_be v l q n Z).2 ≤ 8 * n ∧ mj_np (mj_be v l q n Z).1 = mj_np Z
  | 0, _ => ⟨Nat.le_refl _, rfl⟩
  | n + 1, h => by
    obtain ⟨i1, i2⟩ := mz_be_d hP n (fun i hi => h i (by omega))
    have hq := h n (by omega)
    show (mj_be1 v l (q n).toNatClampNeg (mj_be v l q n Z)).2 ≤ _ ∧ mj_np (mj_be1 v l (q n).toNatClampNeg (mj_be v l q n Z)).1 = _
    unfold mj_be1
    split
    · dsimp only
      have := mz_sz_le (v := v) (l := l) (Z := (mj_be v l q n Z).1) (i := (q n).toNatClampNeg) (by rw [i2]; exact hq)
      refine ⟨by omega, ?_⟩
      rw [(mj_n_pr (mj_bk_pr _ _ _ _ _)).1]
      exact i2
    · exact ⟨by omega, i2⟩
theorem mz_be_z (h6 : ¬ 0 < (mj_ra Z l).toInt) : ∀ n, mj_be v l q n Z = (Z, 0)
  | 0 => rfl
  | n + 1 => by
    show mj_be1 v l (q n).toNatClampNeg (mj_be v l q n Z) = _
    rw [mz_be_z h6 n]
    unfold mj_be1
    rw [if_neg]
    rintro ⟨-, c2, c3⟩
    rcases c3.1 with z | z
    · have c2' : ¬ mj_sz Z v l (q n).toNatClampNeg = 0 := c2
      have z' : ((0 + mj_sz Z v l (q n).toNatClampNeg : Nat) : Int) ≤ (mj_ra Z l).toInt := z
      omega
    · exact h6 z.2
theorem mz_ra_pr {Z' : mj_M} (h : mj_pr mj_s1 Z' = mj_pr mj_s1 Z) (l : Nat) : mj_ra Z' l = mj_ra Z l := by
  have h1 : mj_ra (mj_pr mj_s1 Z') l = mj_ra Z l := by rw [h]; rfl
  exact h1
theorem mz_ah_we (h : mz_we Z Y) (hp : mj_pr mj_s1 Y = mj_pr mj_s1 Z) (ha : Y 21 a = 0) (hb : Y 21 b = 0) : mj_ah Y l a b ↔ mj_ah Z l a b := by
  unfold mj_ah
  rw [mj_pr_at hp (show mj_s1 9 = true from rfl), mj_pr_at hp (show mj_s1 24 = true from rfl), (h a ha).2, (h b hb).2]
theorem mz_line (h3 : mj_Iv Z3) (h : mj_J Z) (hV : mj_Vw Z3 Z) (hB : mz_B Z) (hl : l < mj_nl Z) (hv : ∀ k, k < mj_np Z → X 5 k = mj_nv Z3 k) (h6' : 0 < (mj_ra Z l).toInt) {n : Nat} (hq : mz_so Z (mj_nv Z3) l (mj_np Z) (n, q)) (hn8 : n ≤ 8) (hK : K 0 0 (mz (mj_be (mj_nv Z3) l q n Z).1 X)) : ∀ (d j : Nat), d = n - j → j ≤ n → ∀ m, m < 256 → (∀ k, k < mj_np Z → m.testBit k = true → ∃ i, i < j ∧ q i = nI k) → (∀ i, i < j → ∀ k, k < mj_np Z → q i = nI k → m.testBit k = true ∨ ¬ (mj_be (mj_nv Z3) l q j Z).1 21 k = 0) → ∀ o10 o11 o12 o13 o14 o15 o16 o17, mj_W 3 101 3 70 (mz_LS l (mj_ra Z l) (nI (mj_be (mj_nv Z3) l q j Z).2) (nI m) 1 o10 o11 o12 o13 o14 o15 o16 o17) [] (mz (mj_be (mj_nv Z3) l q j Z).1 X) 0 K := by
  obtain ⟨q1, q2, q3⟩ := hq
  dsimp only at q1 q2 q3
  have hP := hB.2.2.1
  have hbt := mz_bts h.1.s
  have eq3 : mj_np Z = mj_np Z3 := (mj_n_pr hV.1).1
  have el3 : mj_nl Z = mj_nl Z3 := (mj_n_pr hV.1).2.2.1
  have cl : ∀ i, i < n → ∃ p, p < mj_np Z ∧ q i = nI p ∧ (q i).toNatClampNeg = p ∧ mj_nv Z3 p = nI l := fun i hi => by
    obtain ⟨p, a1, a2, a3⟩ := q1 i hi
    exact ⟨p, a1, a2, by rw [a2]; exact nI_clamp (by omega), a3⟩
  have dist : ∀ i j p, i < n → j < n → q i = nI p → q j = nI p → p < mj_np Z → i = j := by
    intro i j p hi hj e1 e2 hp
    have cp : (nI p).toNatClampNeg = p := nI_clamp (by omega)
    rcases Nat.lt_trichotomy i j with z | z | z
    · have := q2 i j z hj
      rw [e1, e2, cp] at this
      exact absurd this (mz_ah_ir hbt hp)
    · exact z
    · have := q2 j i z hi
      rw [e1, e2, cp] at this
      exact absurd this (mz_ah_ir hbt hp)
  intro d
  induction d using Nat.strongRecOn with
  | ind d ih =>
    intro j hd hj m hm hs hn o10 o11 o12 o13 o14 o15 o16 o17
    have hq9 : ∀ i, i < j → ∃ p, p < mj_np Z3 ∧ q i = nI p ∧ mj_nv Z3 p = nI l := fun i hi => by
      obtain ⟨p, a1, a2, -, a4⟩ := cl i (by omega)
      exact ⟨p, by omega, a2, a4⟩
    obtain ⟨j1, j2⟩ := mj_be_ok h3 (show l < mj_nl Z3 by omega) j Z hq9 h hV
    have jd := mz_be_d (v := mj_nv Z3) (l := l) (q := q) hP j (fun i hi => by
      obtain ⟨p, a1, -, a3, -⟩ := cl i (by omega)
      rw [a3]; exact a1)
    have jw := mz_we_be (Z := Z) (v := mj_nv Z3) (l := l) (q := q) j
    have noop := mz_be_n (Z := Z) (v := mj_nv Z3) (l := l) (q := q) (j := j)
    have hstep : ∀ i0, mj_be (mj_nv Z3) l q (i0 + 1) Z = mj_be1 (mj_nv Z3) l (q i0).toNatClampNeg (mj_be (mj_nv Z3) l q i0 Z) := fun _ => rfl
    have ih' := ih
    generalize hA : mj_be (mj_nv Z3) l q j Z = A at *
    obtain ⟨Y, dd⟩ := A
    dsimp only at j1 j2 jd jw noop hn ⊢
    obtain ⟨jd1, jd2⟩ := jd
    have hprZ : mj_pr mj_s1 Y = mj_pr mj_s1 Z := j2.1.trans hV.1.symm
    have hBY := mz_B_pr hprZ hB
    have hlY : l < mj_nl Y := by rw [(mj_n_pr hprZ).2.2.1]; exact hl
    have raY := mz_ra_pr hprZ l
    -- who is not yet in the line's first part has no mark
    have unm : ∀ i p, j ≤ i → i < n → q i = nI p → p < mj_np Z → m.testBit p = false := by
      intro i p h1 h2 h4 h5
      cases hx : m.testBit p with
      | false => rfl
      | true =>
        obtain ⟨i', g1, g2⟩ := hs p h5 hx
        have := dist i i' p h2 (by omega) h4 g2 h5
        omega
    refine t101_70 ⟨fun z => absurd z (by decide), fun _ => ?_⟩
    refine mz_scanL (v := mj_nv Z3) j1.1.s hBY hlY (fun k hk => hv k (by omega)) hm (fun f x11 o12 o13 o14 o15 o16 o17 hf hx11 => ?_) _ _ _ _ _ _
    rw [jd2] at hf
    refine t101_81 ⟨fun _ => ?_, fun z => absurd hx11 z⟩
    rcases hf with ⟨e, g⟩ | ⟨i, g1, g2, g3, g4⟩
    · -- nobody is left
      have fin : mj_be (mj_nv Z3) l q n Z = (Y, dd) := noop n hj (fun i h1 h2 => by
        obtain ⟨p, a1, a2, a3, a4⟩ := cl i h2
        rw [a3]
        exact fun z => g p a1 ⟨a4, z, unm i p h1 h2 a2 a1⟩)
      rw [fin] at hK
      refine ⟨fun _ => t101_177 ⟨fun _ => ?_, fun z => absurd rfl z⟩, fun z => absurd ?_ z⟩
      · exact t101_70 ⟨fun _ => hK, fun z => absurd rfl z⟩
      · rw [e]; decide
    · -- the first of them
      obtain ⟨c1, c2, c3⟩ := g3
      obtain ⟨i0, hi0, e0⟩ := q3 i g1 c1
      have hij : j ≤ i0 := by
        rcases Nat.lt_or_ge i0 j with z | z
        · rcases hn i0 z i g1 e0 with y | y
          · rw [y] at c3; exact absurd c3 (by decide)
          · exact absurd c2 y
        · exact z
      have ci : (q i0).toNatClampNeg = i := by
        have : q i0 = nI i := e0
        rw [this]; exact nI_clamp (by omega)
      have gap : ∀ i', j ≤ i' → i' < i0 → ¬ Y 21 (q i').toNatClampNeg = 0 := by
        intro i' h1 h2 z
        obtain ⟨p, a1, a2, a3, a4⟩ := cl i' (by have : i0 < n := hi0; omega)
        rw [a3] at z
        have hC : mz_C Y (mj_nv Z3) l m p := ⟨a4, z, unm i' p h1 (by have : i0 < n := hi0; omega) a2 a1⟩
        have so := q2 i' i0 h2 hi0
        rw [a3, ci] at so
        rcases g4 p a1 hC with w | w
        · rw [w] at so
          exact mz_ah_ir hbt g1 so
        · rw [mz_ah_we jw hprZ c2 z] at w
          exact mz_ah_as hbt g1 a1 w so
      have hbe : mj_be (mj_nv Z3) l q (i0 + 1) Z = mj_be1 (mj_nv Z3) l i (Y, dd) := by
        rw [hstep, noop i0 hij gap, ci]
      obtain ⟨r0, b0, hr0, hb0, -, e22, ebeh, -⟩ := mj_Vw_beh h3 j1.1 j2 hlY (show i < mj_np Y by rw [jd2]; exact g1) c1 c2
      rw [e22] at ebeh
      have hi0n : i0 < n := hi0
      refine ⟨fun z => ?_, fun _ => ?_⟩
      · rw [g2] at z
        exact absurd z (nI_pos (by omega))
      · rw [g2]
        refine mz_take (v := mj_nv Z3) j1 hBY hlY (show i < mj_np Y by rw [jd2]; exact g1) (fun k hk => hv k (by omega)) hr0 hb0 e22 ebeh c2 c1 (by omega) hm raY.symm h6' (fun o10 o11 o12 o13 o14 o15 o16 o17 => ?_)
        obtain ⟨f1, f2⟩ := mz_bit2 m hm i (by omega)
        have nxt := ih' (n - (i0 + 1)) (by omega) (i0 + 1) rfl (by omega) (m ||| 2 ^ i) f2 (fun k hk hx => ?_) (fun i' h1 k hk e => ?_) o10 o11 o12 o13 o14 o15 o16 o17
        · rw [hbe] at nxt
          exact nxt
        · rw [mz_tb, Bool.or_eq_true, decide_eq_true_eq] at hx
          rcases hx with hx | hx
          · obtain ⟨i', y1, y2⟩ := hs k hk hx
            exact ⟨i', by omega, y2⟩
          · exact ⟨i0, by omega, by rw [← hx]; exact e0⟩
        · rw [hbe]
          by_cases ei : i' = i0
          · left
            rw [ei] at e
            have : nI i = nI k := e0.symm.trans e
            have : i = k := (nI_eq (by omega) (by omega)).mp this
            rw [mz_tb, Bool.or_eq_true, decide_eq_true_eq]
            exact Or.inr this
          · by_cases ej : i' < j
            · rcases hn i' ej k hk e with y | y
              · left
                rw [mz_tb, Bool.or_eq_true]
                exact Or.inl y
              · right
                exact (mz_we_be1 (d := dd) jw).2 k y
            · right
              have := gap i' (by omega) (by omega)
              rw [e, nI_clamp (by omega)] at this
              exact (mz_we_be1 (d := dd) jw).2 k this
theorem sp101 (h3 : mj_Iv Z3) (h : mj_J Z) (hV : mj_Vw Z3 Z) (hB : mz_B Z) (hl : l < mj_nl Z) (hv : ∀ k, k < mj_np Z → X 5 k = mj_nv Z3 k) (h16 : Z 16 l = 0) (hK : K 0 0 (mz (mj_lk (mj_nv Z3) l Z) X)) : mj_Cm 101 3 [.ref 0, .ref 1, .ref 2, .ref 4, .ref 5, .int (nI l)] (mz Z X) K := by
  have hl5 := mz_l5 hB hl
  have hP := hB.2.2.1
  have b19 := (h.1.s.2.2.2.2.2.1 l hl).2.2.2.1
  have hst := hB.2.2.2.2.2 l hl
  have i0 : (0 : Int32).toInt = 0 := by decide
  unfold mj_lk at hK
  rw [if_pos h16] at hK
  have hso := mz_ln (l := l) (mz_bts h.1.s) (mj_S_P h.1.s).1 (v := mj_nv Z3) (q := fun _ => 0) (mj_np Z) (Nat.le_refl _)
  have hle := (mj_ln_ok (Z := Z) (v := mj_nv Z3) (l := l) (q := fun _ => 0) (mj_np Z)).1
  generalize mj_ln Z (mj_nv Z3) l (fun _ => 0) (mj_np Z) = s at hK hso hle
  obtain ⟨n, q⟩ := s
  dsimp only at hK hle
  have start : mj_W 3 101 3 50 [some (.ref 0), some (.ref 1), some (.ref 2), some (.ref 4), some (.ref 5), some (.int (nI l)), none, none, none, none, none, none, none, none, none, none, none, none] [.int (mj_ra Z l)] (mz Z X) 0 K := by
    refine t101_50 ⟨fun c => t101_68 ?_, fun c => t101_68 ?_⟩
    · rw [mj_le, i0] at c
      rw [mz_be_z (by omega)] at hK
      exact t101_70 ⟨fun _ => hK, fun z => absurd rfl z⟩
    · rw [mj_le, i0] at c
      exact mz_line h3 h hV hB hl hv (by omega) hso (by omega) hK n 0 rfl (Nat.zero_le _) 0 (by decide) (fun k _ hx => absurd hx (by rw [Nat.zero_testBit]; decide)) (fun i hi => absurd hi (Nat.not_lt_zero i)) _ _ _ _ _ _ _ _
  have ra0 : ¬ Z 19 l = 1 → mj_ra Z l = Z 13 l := fun z => by
    unfold mj_ra
    rw [if_pos ((mz_and2 _ b19).mp z)]
  have ra1 : Z 19 l = 1 → mj_ra Z l = (Z 13 l + 1) / 2 := fun z => by
    unfold mj_ra
    rw [if_neg (by rw [z]; decide)]
  refine e101 ?_
  simp only [mz_rL0 hl5, mz_wL0 hl5, eq_true (mz_vL0 hl5), mz_rL1 hl5, mz_wL1 hl5, eq_true (mz_vL1 hl5), mz_rL2 hl5, mz_wL2 hl5, eq_true (mz_vL2 hl5), mz_rL3 hl5, mz_wL3 hl5, eq_true (mz_vL3 hl5), mz_rL4 hl5, mz_wL4 hl5, eq_true (mz_vL4 hl5), mz_rL5 hl5, mz_wL5 hl5, eq_true (mz_vL5 hl5), mz_rL6 hl5, mz_wL6 hl5, eq_true (mz_vL6 hl5), mz_rL7 hl5, mz_wL7 hl5, eq_true (mz_vL7 hl5), mz_rL8 hl5, mz_wL8 hl5, eq_true (mz_vL8 hl5), mz_rL9 hl5, mz_wL9 hl5, eq_true (mz_vL9 hl5), mz_rL10 hl5, mz_wL10 hl5, eq_true (mz_vL10 hl5), true_and]
  refine ⟨fun c => ?_, fun c => ⟨fun c2 => ?_, fun c2 => ?_⟩⟩
  · rw [← ra0 (fun z => c (hst (by rw [z]; decide)))]
    exact start
  · rw [← ra0 c2]
    exact start
  · rw [← ra1 c2]
    exact start
end LWH
