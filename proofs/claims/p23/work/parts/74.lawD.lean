-- THE LAW'S METHODS, D: a train's boarding
section LWD
variable {Z X : mj_M} {K : mj_K} {p l r t a : Nat}
/-- q is the first of those from lo to hi who wait for a train in room r (the least since, then the lowest) -/
def mz_ft (Z : mj_M) (r : Int32) (lo hi : Nat) (q : Int32) : Prop := (q = -1 ∧ ∀ j, lo ≤ j → j < hi → ¬ mj_wn Z r j) ∨ ∃ i, q = nI i ∧ lo ≤ i ∧ i < hi ∧ mj_wn Z r i ∧ ∀ j, lo ≤ j → j < hi → mj_wn Z r j → (Z 26 i).toInt < (Z 26 j).toInt ∨ ((Z 26 i).toInt = (Z 26 j).toInt ∧ i ≤ j)
theorem mz_ft_fi {r : Int32} : ∀ n, n < 1000 → mz_ft Z r 0 n (mj_fi Z r n)
  | 0, _ => Or.inl ⟨rfl, fun j _ h => absurd h (Nat.not_lt_zero j)⟩
  | n + 1, hn => by
    have ih := mz_ft_fi (r := r) n (by omega)
    unfold mj_fi
    rcases ih with ⟨e, h⟩ | ⟨i, e, h1, h2, h3, h4⟩
    · by_cases w : mj_wn Z r n
      · rw [if_pos ⟨w, Or.inl e⟩]
        refine Or.inr ⟨n, rfl, Nat.zero_le _, by omega, w, fun j _ hj hw => ?_⟩
        by_cases q : j = n
        · subst q; exact Or.inr ⟨rfl, Nat.le_refl _⟩
        · exact absurd hw (h j (Nat.zero_le _) (by omega))
      · rw [if_neg (fun z => w z.1)]
        refine Or.inl ⟨e, fun j _ hj => ?_⟩
        by_cases q : j = n
        · subst q; exact w
        · exact h j (Nat.zero_le _) (by omega)
    · have ne : ¬ mj_fi Z r n = -1 := by rw [e]; exact mj_nI_m1 (by omega)
      have ec : (mj_fi Z r n).toNatClampNeg = i := by rw [e]; exact nI_clamp (by omega)
      rw [ec]
      by_cases w : mj_wn Z r n ∧ (mj_fi Z r n = -1 ∨ Z 26 n < Z 26 i)
      · rw [if_pos w]
        have lt := w.2.resolve_left ne
        rw [mj_lt] at lt
        refine Or.inr ⟨n, rfl, Nat.zero_le _, by omega, w.1, fun j _ hj hw => ?_⟩
        by_cases q : j = n
        · subst q; exact Or.inr ⟨rfl, Nat.le_refl _⟩
        · have := h4 j (Nat.zero_le _) (by omega) hw
          exact Or.inl (by omega)
      · rw [if_neg w]
        refine Or.inr ⟨i, e, Nat.zero_le _, by omega, h3, fun j _ hj hw => ?_⟩
        by_cases q : j = n
        · subst q
          have nl : ¬ Z 26 j < Z 26 i := fun z => w ⟨hw, Or.inr z⟩
          rw [mj_lt] at nl
          by_cases q2 : (Z 26 i).toInt = (Z 26 j).toInt
          · exact Or.inr ⟨q2, by omega⟩
          · exact Or.inl (by omega)
        · exact h4 j (Nat.zero_le _) (by omega) hw
theorem mz_ft_u {r : Int32} {lo hi : Nat} {q q' : Int32} (hhi : hi < 1000) (h : mz_ft Z r lo hi q) (h' : mz_ft Z r lo hi q') : q = q' := by
  rcases h with ⟨e, h⟩ | ⟨i, e, h1, h2, h3, h4⟩
  · rcases h' with ⟨e', h'⟩ | ⟨i', e', h1', h2', h3', h4'⟩
    · rw [e, e']
    · exact absurd h3' (h i' h1' h2')
  · rcases h' with ⟨e', h'⟩ | ⟨i', e', h1', h2', h3', h4'⟩
    · exact absurd h3 (h' i h1 h2)
    · have a1 := h4 i' h1' h2' h3'
      have a2 := h4' i h1 h2 h3
      have : i = i' := by omega
      rw [e, e', this]
theorem mz_ft_s {r : Int32} {k n : Nat} {q : Int32} (hk : k < n) (hn : n < 1000) (h : mz_ft Z r (k + 1) n q) : (mj_wn Z r k → (q < 0 ∨ ¬ Z 26 q.toNatClampNeg < Z 26 k) → mz_ft Z r k n (nI k)) ∧ (¬ (mj_wn Z r k ∧ (q < 0 ∨ ¬ Z 26 q.toNatClampNeg < Z 26 k)) → mz_ft Z r k n q) := by
  rcases h with ⟨e, h⟩ | ⟨i, e, h1, h2, h3, h4⟩
  · constructor
    · intro w _
      refine Or.inr ⟨k, rfl, Nat.le_refl _, hk, w, fun j hj hj2 hw => ?_⟩
      by_cases q : j = k
      · subst q; exact Or.inr ⟨rfl, Nat.le_refl _⟩
      · exact absurd hw (h j (by omega) hj2)
    · intro w
      refine Or.inl ⟨e, fun j hj hj2 hw => ?_⟩
      by_cases q : j = k
      · subst q
        exact w ⟨hw, Or.inl (by rw [e]; decide)⟩
      · exact h j (by omega) hj2 hw
  · have npos : ¬ q < 0 := by rw [e]; exact nI_pos (by omega)
    have ec : q.toNatClampNeg = i := by rw [e]; exact nI_clamp (by omega)
    rw [ec, mj_lt (Z 26 i) (Z 26 k)]
    constructor
    · intro w z
      have lt := z.resolve_left npos
      refine Or.inr ⟨k, rfl, Nat.le_refl _, hk, w, fun j hj hj2 hw => ?_⟩
      by_cases q : j = k
      · subst q; exact Or.inr ⟨rfl, Nat.le_refl _⟩
      · have := h4 j (by omega) hj2 hw
        by_cases q2 : (Z 26 k).toInt = (Z 26 j).toInt
        · exact Or.inr ⟨q2, by omega⟩
        · exact Or.inl (by omega)
    · intro w
      refine Or.inr ⟨i, e, by omega, h2, h3, fun j hj hj2 hw => ?_⟩
      by_cases q : j = k
      · subst q
        have : (Z 26 i).toInt < (Z 26 j).toInt := by
          rcases Int.lt_or_le (Z 26 i).toInt (Z 26 j).toInt with z | z
          · exact z
          · exact absurd ⟨hw, Or.inr (by omega)⟩ w
        exact Or.inl this
      · exact h4 j (by omega) hj2 hw
theorem mz_ft_n {r : Int32} {n : Nat} : mz_ft Z r n n (-1) := Or.inl ⟨rfl, fun j h1 h2 => by omega⟩
/-- the inner loop: who is first, how many wait -/
theorem mz_scan (h : mj_S Z) (hB : mz_B Z) (ht : t < mj_nt Z) {x6 x7 : Int32} (hK : ∀ (w : Nat) (x10 : Int32) (o11 : Option Value), w < 100 → (w = 0 ↔ mj_first Z t = -1) → x10 < 0 → mj_W 1 99 1 34 [some (.ref 0), some (.ref 2), some (.ref 3), some (.ref 4), some (.int (nI t)), some (.int (6 * nI t)), some (.int x6), some (.int x7), some (.int (nI w)), some (.int (mj_first Z t)), some (.int x10), o11] [] (mz Z X) 0 K) : ∀ (k w : Nat) (q : Int32) (o11 : Option Value), k ≤ mj_np Z → w + k < 100 → (w = 0 ↔ q = -1) → mz_ft Z (Z 29 t) k (mj_np Z) q → mj_W 1 99 1 34 [some (.ref 0), some (.ref 2), some (.ref 3), some (.ref 4), some (.int (nI t)), some (.int (6 * nI t)), some (.int x6), some (.int x7), some (.int (nI w)), some (.int q), some (.int (nI k - 1)), o11] [] (mz Z X) 0 K := by
  have ht3 := mz_t3 hB ht
  have hP := (mj_S_P h).1
  intro k
  induction k with
  | zero =>
    intro w q o11 hk hw hwq hf
    have e := mz_ft_u (by omega) hf (mz_ft_fi (mj_np Z) (by omega))
    rw [e]
    rw [e] at hwq
    exact hK w _ o11 (by omega) hwq (by decide)
  | succ k ih =>
    intro w q o11 hk hw hwq hf
    have hk2 : k < mj_np Z := by omega
    have hk8 := mz_p8 hB hk2
    have e1 : nI (k + 1) - 1 = nI k := by rw [← nI_1]; grind
    have e2 : nI k + (-1) = nI k - 1 := by grind
    have b27 := (h.2.2.2.1 k hk2).2.2
    have b27' := mj_bit1 b27
    obtain ⟨s1, s2⟩ := mz_ft_s hk2 (by omega) hf
    rw [e1]
    have no : ¬ mj_wn Z (Z 29 t) k → mj_W 1 99 1 100 [some (.ref 0), some (.ref 2), some (.ref 3), some (.ref 4), some (.int (nI t)), some (.int (6 * nI t)), some (.int x6), some (.int x7), some (.int (nI w)), some (.int q), some (.int (nI k)), o11] [.int 0] (mz Z X) 0 K := by
      intro c
      refine t99_100 ⟨fun _ => t99_114 ⟨fun _ => t99_157 ?_, fun z => absurd rfl z⟩, fun z => absurd rfl z⟩
      rw [e2, mz_a0]
      exact ih w q _ (by omega) (by omega) hwq (s2 (fun z => c z.1))
    have q0 : q = -1 ∨ ∃ i, q = nI i ∧ i < mj_np Z := by
      rcases hf with z | ⟨i, z1, -, z2, -⟩
      · exact Or.inl z.1
      · exact Or.inr ⟨i, z1, z2⟩
    have yes : mj_wn Z (Z 29 t) k → mj_W 1 99 1 100 [some (.ref 0), some (.ref 2), some (.ref 3), some (.ref 4), some (.int (nI t)), some (.int (6 * nI t)), some (.int x6), some (.int x7), some (.int (nI w)), some (.int q), some (.int (nI k)), o11] [.int 1] (mz Z X) 0 K := by
      intro c
      have ek : ¬ nI k = -1 := mj_nI_m1 (by omega)
      refine t99_100 ⟨fun z => absurd z (by decide), fun _ => t99_114 ⟨fun z => absurd z (by decide), fun _ => ⟨fun z => t99_157 ?_, fun z => ?_⟩⟩⟩
      · rw [e2, nI_1]
        refine ih (w + 1) (nI k) _ (by omega) (by omega) ⟨fun y => absurd y (by omega), fun y => absurd y ek⟩ (s1 c (Or.inl z))
      · rcases q0 with e | ⟨i, e, hi⟩
        · rw [e] at z
          exact absurd (by decide) z
        · have hi8 := mz_p8 hB hi
          have ec : q.toNatClampNeg = i := by rw [e]; exact nI_clamp (by omega)
          rw [ec] at s1 s2
          rw [e]
          simp only [mz_rP0 hk8, mz_wP0 hk8, eq_true (mz_vP0 hk8), mz_rP1 hk8, mz_wP1 hk8, eq_true (mz_vP1 hk8), mz_rP2 hk8, mz_wP2 hk8, eq_true (mz_vP2 hk8), mz_rP3 hk8, mz_wP3 hk8, eq_true (mz_vP3 hk8), mz_rP4 hk8, mz_wP4 hk8, eq_true (mz_vP4 hk8), mz_rP5 hk8, mz_wP5 hk8, eq_true (mz_vP5 hk8), mz_rP6 hk8, mz_wP6 hk8, eq_true (mz_vP6 hk8), mz_rP7 hk8, mz_wP7 hk8, eq_true (mz_vP7 hk8), mz_rP0 hi8, mz_wP0 hi8, eq_true (mz_vP0 hi8), mz_rP1 hi8, mz_wP1 hi8, eq_true (mz_vP1 hi8), mz_rP2 hi8, mz_wP2 hi8, eq_true (mz_vP2 hi8), mz_rP3 hi8, mz_wP3 hi8, eq_true (mz_vP3 hi8), mz_rP4 hi8, mz_wP4 hi8, eq_true (mz_vP4 hi8), mz_rP5 hi8, mz_wP5 hi8, eq_true (mz_vP5 hi8), mz_rP6 hi8, mz_wP6 hi8, eq_true (mz_vP6 hi8), mz_rP7 hi8, mz_wP7 hi8, eq_true (mz_vP7 hi8), true_and]
          refine ⟨fun y => t99_157 ?_, fun y => t99_157 ?_⟩
          · rw [e2, nI_1, ← e]
            refine ih (w + 1) q _ (by omega) (by omega) ⟨fun y => absurd y (by omega), fun y => ?_⟩ (s2 (fun w => w.2.elim (fun v => z v) (fun v => v y)))
            rw [e] at y
            exact absurd y (mj_nI_m1 (by omega))
          · rw [e2, nI_1]
            exact ih (w + 1) (nI k) _ (by omega) (by omega) ⟨fun y => absurd y (by omega), fun y => absurd y ek⟩ (s1 c (Or.inr y))
    refine t99_34 ⟨fun c => absurd c (nI_pos (by omega)), fun _ => ?_⟩
    simp only [mz_rP0 hk8, mz_wP0 hk8, eq_true (mz_vP0 hk8), mz_rP1 hk8, mz_wP1 hk8, eq_true (mz_vP1 hk8), mz_rP2 hk8, mz_wP2 hk8, eq_true (mz_vP2 hk8), mz_rP3 hk8, mz_wP3 hk8, eq_true (mz_vP3 hk8), mz_rP4 hk8, mz_wP4 hk8, eq_true (mz_vP4 hk8), mz_rP5 hk8, mz_wP5 hk8, eq_true (mz_vP5 hk8), mz_rP6 hk8, mz_wP6 hk8, eq_true (mz_vP6 hk8), mz_rP7 hk8, mz_wP7 hk8, eq_true (mz_vP7 hk8), mz_rT0 ht3, mz_wT0 ht3, eq_true (mz_vT0 ht3), mz_rT1 ht3, mz_wT1 ht3, eq_true (mz_vT1 ht3), mz_rT2 ht3, mz_wT2 ht3, eq_true (mz_vT2 ht3), mz_rT3 ht3, mz_wT3 ht3, eq_true (mz_vT3 ht3), mz_rT4 ht3, mz_wT4 ht3, eq_true (mz_vT4 ht3), mz_rT5 ht3, mz_wT5 ht3, eq_true (mz_vT5 ht3), true_and]
    refine ⟨fun c => no (fun z => c z.2.1), fun c => ⟨fun c2 => no (fun z => c2 z.1), fun c2 => ⟨fun c3 => no (fun z => c3 z.2.2.1), fun c3 => ⟨fun c4 => no (fun z => c4 (b27'.mpr z.2.2.2)), fun c4 => yes ⟨c2, c, c3, b27'.mp c4⟩⟩⟩⟩⟩
/-- nobody more goes aboard -/
theorem mz_lo_fix {f : mj_M → mj_M} {n : Nat} (h : f (mj_lo (fun _ => f) n Z) = mj_lo (fun _ => f) n Z) : ∀ m, n ≤ m → mj_lo (fun _ => f) m Z = mj_lo (fun _ => f) n Z
  | 0, hm => by
    have : n = 0 := by omega
    rw [this]
  | m + 1, hm => by
    by_cases e : n = m + 1
    · rw [e]
    · have ih := mz_lo_fix h m (by omega)
      show f (mj_lo (fun _ => f) m Z) = _
      rw [ih, h]
theorem mz_fi_u {c i : Nat} {v : Int32} {r : Int32} (h1 : c ≠ 21) (h2 : c ≠ 22) (h3 : c ≠ 23) (h4 : c ≠ 26) (h5 : c ≠ 27) : ∀ n, mj_fi (mj_u Z c i v) r n = mj_fi Z r n
  | 0 => rfl
  | n + 1 => by
    have ih := mz_fi_u (i := i) (v := v) (r := r) h1 h2 h3 h4 h5 n
    unfold mj_fi mj_wn
    rw [ih, mj_u_ne _ _ _ (fun e => h1 e.symm), mj_u_ne _ _ _ (fun e => h2 e.symm), mj_u_ne _ _ _ (fun e => h3 e.symm), mj_u_ne _ _ _ (fun e => h4 e.symm), mj_u_ne _ _ _ (fun e => h5 e.symm)]
theorem mz_uu {c i : Nat} {v w : Int32} : mj_u (mj_u Z c i v) c i w = mj_u Z c i w := by
  funext c' i'
  by_cases e : c' = c ∧ i' = i
  · rw [mj_u_at, if_pos e, mj_u_at, if_pos e]
  · rw [mj_u_at, if_neg e, mj_u_at, if_neg e, mj_u_at, if_neg e]
theorem mz_uid {c i : Nat} : mj_u Z c i (Z c i) = Z := by
  funext c' i'
  rw [mj_u_at]
  by_cases e : c' = c ∧ i' = i
  · rw [if_pos e, e.1, e.2]
  · rw [if_neg e]
theorem mz_uc {c i c2 i2 : Nat} {v w : Int32} (h : c ≠ c2) : mj_u (mj_u Z c i v) c2 i2 w = mj_u (mj_u Z c2 i2 w) c i v := by
  funext c' i'
  by_cases e : c' = c2 ∧ i' = i2
  · rw [mj_u_at, if_pos e, mj_u_at, if_neg (fun z => h (z.1.symm.trans e.1)), mj_u_at, if_pos e]
  · rw [mj_u_at, if_neg e, mj_u_at]
    by_cases e3 : c' = c ∧ i' = i
    · rw [if_pos e3, mj_u_at, if_pos e3]
    · rw [if_neg e3, mj_u_at, if_neg e3, mj_u_at, if_neg e]
/-- the train leaves, or is pressed -/
def mz_pz (t : Nat) (Z : mj_M) : Prop := Z 31 t = 1 ∧ ¬ 3 ≤ Z 32 t ∧ ¬ Z 30 t ≤ Z 33 t ∧ ¬ mj_first Z t = -1
theorem mz_b23 (hT : mz_pz t Z) : mj_b2 t (mj_b3 t Z) = mj_u Z 32 t (Z 32 t + 1) := by
  obtain ⟨h1, h2, h3, h4⟩ := hT
  have e1 : mj_b3 t Z 31 t = 0 := by
    show mj_u Z 31 t (Z 31 t - 1) 31 t = 0
    rw [mj_u_at, if_pos ⟨rfl, rfl⟩, h1]; decide
  have e2 : mj_first (mj_b3 t Z) t = mj_first Z t := mz_fi_u (by decide) (by decide) (by decide) (by decide) (by decide) _
  have c : mj_b3 t Z 31 t = 0 ∧ mj_b3 t Z 33 t < mj_b3 t Z 30 t ∧ ¬ mj_first (mj_b3 t Z) t = -1 ∧ mj_b3 t Z 32 t < 3 := ⟨e1, Int32.not_le.mp h3, by rw [e2]; exact h4, Int32.not_le.mp h2⟩
  unfold mj_b2
  rw [if_pos c]
  show mj_u (mj_u (mj_u Z 31 t (Z 31 t - 1)) 32 t (Z 32 t + 1)) 31 t 1 = _
  rw [mz_uc (by decide), mz_uu]
  have : mj_u Z 31 t 1 = Z := by rw [← h1]; exact mz_uid
  rw [this]
theorem mz_b23n (hT : ¬ mz_pz t Z) : mj_b2 t (mj_b3 t Z) = mj_u Z 31 t (Z 31 t - 1) := by
  have e2 : mj_first (mj_b3 t Z) t = mj_first Z t := mz_fi_u (by decide) (by decide) (by decide) (by decide) (by decide) _
  unfold mj_b2
  rw [if_neg]
  · rfl
  · rintro ⟨c1, c2, c3, c4⟩
    have c1' : Z 31 t - 1 = 0 := by
      have : mj_u Z 31 t (Z 31 t - 1) 31 t = 0 := c1
      rw [mj_u_at, if_pos ⟨rfl, rfl⟩] at this
      exact this
    rw [e2] at c3
    exact hT ⟨by grind, Int32.not_le.mpr c4, Int32.not_le.mpr c2, c3⟩
theorem mz_bend (h : mj_S Z) (hB : mz_B Z) (ht : t < mj_nt Z) {w : Nat} (hw : w < 100) (hwq : w = 0 ↔ mj_first Z t = -1) (hK : K 0 0 (mz (mj_b2 t (mj_b3 t Z)) X)) {x6 : Int32} {o9 o10 o11 : Option Value} : mj_W 1 99 1 16 [some (.ref 0), some (.ref 2), some (.ref 3), some (.ref 4), some (.int (nI t)), some (.int (6 * nI t)), some (.int x6), some (.int 0), some (.int (nI w)), o9, o10, o11] [] (mz Z X) 0 K := by
  have ht3 := mz_t3 hB ht
  have vt : ∀ f : Nat, f < 6 → vp_in (6 * nI t + nI f) 18 := fun f hf => by
    rw [show (6 * nI t + nI f : Int32) = nI 6 * nI t + nI f from rfl]
    exact mz_iv (by omega) (by decide)
  have yes : mz_pz t Z → mj_W 1 99 1 288 [some (.ref 0), some (.ref 2), some (.ref 3), some (.ref 4), some (.int (nI t)), some (.int (6 * nI t)), some (.int x6), some (.int 0), some (.int (nI w)), o9, o10, o11] [.int 1] (mz Z X) 0 K := by
    intro c
    rw [mz_b23 c] at hK
    refine t99_288 ?_
    simp only [mz_rT0 ht3, mz_wT0 ht3, eq_true (mz_vT0 ht3), mz_rT1 ht3, mz_wT1 ht3, eq_true (mz_vT1 ht3), mz_rT2 ht3, mz_wT2 ht3, eq_true (mz_vT2 ht3), mz_rT3 ht3, mz_wT3 ht3, eq_true (mz_vT3 ht3), mz_rT4 ht3, mz_wT4 ht3, eq_true (mz_vT4 ht3), mz_rT5 ht3, mz_wT5 ht3, eq_true (mz_vT5 ht3), true_and]
    refine ⟨fun z => absurd z (by decide), fun _ => t99_307 ?_⟩
    simp only [mz_rT0 ht3, mz_wT0 ht3, eq_true (mz_vT0 ht3), mz_rT1 ht3, mz_wT1 ht3, eq_true (mz_vT1 ht3), mz_rT2 ht3, mz_wT2 ht3, eq_true (mz_vT2 ht3), mz_rT3 ht3, mz_wT3 ht3, eq_true (mz_vT3 ht3), mz_rT4 ht3, mz_wT4 ht3, eq_true (mz_vT4 ht3), mz_rT5 ht3, mz_wT5 ht3, eq_true (mz_vT5 ht3), true_and]
    refine ⟨fun z => absurd z (by decide), fun _ => t99_326 ?_⟩
    simp only [mz_rT0 ht3, mz_wT0 ht3, eq_true (mz_vT0 ht3), mz_rT1 ht3, mz_wT1 ht3, eq_true (mz_vT1 ht3), mz_rT2 ht3, mz_wT2 ht3, eq_true (mz_vT2 ht3), mz_rT3 ht3, mz_wT3 ht3, eq_true (mz_vT3 ht3), mz_rT4 ht3, mz_wT4 ht3, eq_true (mz_vT4 ht3), mz_rT5 ht3, mz_wT5 ht3, eq_true (mz_vT5 ht3), true_and]
    have e : mj_u Z 32 t (Z 32 t + 1) 31 t - 0 = Z 31 t := by
      rw [mj_u_ne _ _ _ (by decide)]; grind
    rw [e]
    have e3 : mj_u (mj_u Z 32 t (Z 32 t + 1)) 31 t (Z 31 t) = mj_u Z 32 t (Z 32 t + 1) := by
      rw [mz_uc (by decide), mz_uid]
    rw [e3]
    exact hK
  have no : ¬ mz_pz t Z → mj_W 1 99 1 288 [some (.ref 0), some (.ref 2), some (.ref 3), some (.ref 4), some (.int (nI t)), some (.int (6 * nI t)), some (.int x6), some (.int 0), some (.int (nI w)), o9, o10, o11] [.int 0] (mz Z X) 0 K := by
    intro c
    rw [mz_b23n c] at hK
    refine t99_288 ?_
    simp only [mz_rT0 ht3, mz_wT0 ht3, eq_true (mz_vT0 ht3), mz_rT1 ht3, mz_wT1 ht3, eq_true (mz_vT1 ht3), mz_rT2 ht3, mz_wT2 ht3, eq_true (mz_vT2 ht3), mz_rT3 ht3, mz_wT3 ht3, eq_true (mz_vT3 ht3), mz_rT4 ht3, mz_wT4 ht3, eq_true (mz_vT4 ht3), mz_rT5 ht3, mz_wT5 ht3, eq_true (mz_vT5 ht3), true_and]
    refine ⟨fun _ => t99_307 ?_, fun z => (z (by first | rfl | trivial)).elim⟩
    simp only [mz_rT0 ht3, mz_wT0 ht3, eq_true (mz_vT0 ht3), mz_rT1 ht3, mz_wT1 ht3, eq_true (mz_vT1 ht3), mz_rT2 ht3, mz_wT2 ht3, eq_true (mz_vT2 ht3), mz_rT3 ht3, mz_wT3 ht3, eq_true (mz_vT3 ht3), mz_rT4 ht3, mz_wT4 ht3, eq_true (mz_vT4 ht3), mz_rT5 ht3, mz_wT5 ht3, eq_true (mz_vT5 ht3), true_and]
    refine ⟨fun _ => t99_326 ?_, fun z => (z (by first | rfl | trivial)).elim⟩
    simp only [mz_rT0 ht3, mz_wT0 ht3, eq_true (mz_vT0 ht3), mz_rT1 ht3, mz_wT1 ht3, eq_true (mz_vT1 ht3), mz_rT2 ht3, mz_wT2 ht3, eq_true (mz_vT2 ht3), mz_rT3 ht3, mz_wT3 ht3, eq_true (mz_vT3 ht3), mz_rT4 ht3, mz_wT4 ht3, eq_true (mz_vT4 ht3), mz_rT5 ht3, mz_wT5 ht3, eq_true (mz_vT5 ht3), true_and]
    rw [mz_a0, mz_uid]
    exact hK
  have hpos : nI w ≤ 0 ↔ w = 0 := by
    rw [show (0 : Int32) = nI 0 from rfl, nI_leI (by omega) (by omega)]
    omega
  refine t99_16 ⟨fun _ => ?_, fun z => absurd rfl z⟩
  simp only [mz_rT0 ht3, mz_wT0 ht3, eq_true (mz_vT0 ht3), mz_rT1 ht3, mz_wT1 ht3, eq_true (mz_vT1 ht3), mz_rT2 ht3, mz_wT2 ht3, eq_true (mz_vT2 ht3), mz_rT3 ht3, mz_wT3 ht3, eq_true (mz_vT3 ht3), mz_rT4 ht3, mz_wT4 ht3, eq_true (mz_vT4 ht3), mz_rT5 ht3, mz_wT5 ht3, eq_true (mz_vT5 ht3), true_and]
  refine ⟨fun c => no (fun z => c z.1), fun c => ⟨fun c2 => no (fun z => z.2.1 c2), fun c2 => ⟨fun c3 => no (fun z => z.2.2.1 c3), fun c3 => ⟨fun c4 => no (fun z => z.2.2.2 (hwq.mp (hpos.mp c4))), fun c4 => yes ⟨c, c2, c3, fun z => c4 (hpos.mpr (hwq.mpr z))⟩⟩⟩⟩⟩
theorem sp99 (h : mj_J Z) (hB : mz_B Z) (ht : t < mj_nt Z) (hpos : 0 < Z 31 t) (hK : K 0 0 (mz (mj_sv t Z) X)) : mj_Cm 99 1 [.ref 0, .ref 2, .ref 3, .ref 4, .int (nI t)] (mz Z X) K := by
  have ht3 := mz_t3 hB ht
  unfold mj_sv at hK
  rw [if_pos hpos] at hK
  have key : ∀ (n : Nat), n ≤ 4 → ∀ x8 o9 o10 o11, mj_W 1 99 1 16 [some (.ref 0), some (.ref 2), some (.ref 3), some (.ref 4), some (.int (nI t)), some (.int (6 * nI t)), some (.int (nI n)), some (.int 1), some (.int x8), o9, o10, o11] [] (mz (mj_lo (fun _ => mj_b1 t) n Z) X) 0 K := by
    intro n hn
    obtain ⟨d, hd⟩ : ∃ d, d = 4 - n := ⟨_, rfl⟩
    induction d generalizing n with
    | zero =>
      intro x8 o9 o10 o11
      have e : n = 4 := by omega
      subst e
      obtain ⟨j1, j2⟩ := mj_bs_k h ht 4
      have hB' := mz_B_pr j2 hB
      have ht' : t < mj_nt (mj_lo (fun _ => mj_b1 t) 4 Z) := by rw [(mj_n_pr j2).2.2.2]; exact ht
      generalize mj_lo (fun _ => mj_b1 t) 4 Z = A at hK j1 j2 hB' ht' ⊢
      refine t99_16 ⟨fun z => absurd z (by decide), fun _ => ?_⟩
      rw [show mz A X 4 4 = nI (mj_np A) from (mj_S_P j1.1.s).2]
      refine mz_scan j1.1.s hB' ht' (fun w x10 o11 hw hwq hx => ?_) (mj_np A) 0 (-1) _ (Nat.le_refl _) (by have := mz_B_pr j2 hB; have := this.2.2.1; omega) ⟨fun _ => rfl, fun _ => rfl⟩ mz_ft_n
      refine t99_34 ⟨fun _ => ?_, fun z => absurd hx z⟩
      have last : mj_W 1 99 1 196 [some (.ref 0), some (.ref 2), some (.ref 3), some (.ref 4), some (.int (nI t)), some (.int (6 * nI t)), some (.int (nI 4)), some (.int 1), some (.int (nI w)), some (.int (mj_first A t)), some (.int x10), o11] [.int 0] (mz A X) 0 K := t99_196 ⟨fun _ => mz_bend j1.1.s hB' ht' hw hwq hK, fun z => absurd rfl z⟩
      exact ⟨fun _ => last, fun _ => ⟨fun _ => last, fun z => absurd (by decide) z⟩⟩
    | succ d ih =>
      intro x8 o9 o10 o11
      obtain ⟨j1, j2⟩ := mj_bs_k h ht n
      have hB' := mz_B_pr j2 hB
      have ht' : t < mj_nt (mj_lo (fun _ => mj_b1 t) n Z) := by rw [(mj_n_pr j2).2.2.2]; exact ht
      have hnext := ih (n + 1) (by omega) (by omega)
      have hstep : mj_lo (fun _ => mj_b1 t) (n + 1) Z = mj_b1 t (mj_lo (fun _ => mj_b1 t) n Z) := rfl
      have hfix : mj_b1 t (mj_lo (fun _ => mj_b1 t) n Z) = mj_lo (fun _ => mj_b1 t) n Z → K 0 0 (mz (mj_b2 t (mj_b3 t (mj_lo (fun _ => mj_b1 t) n Z))) X) := by
        intro z
        have := mz_lo_fix z 4 (by omega)
        rw [this] at hK
        exact hK
      rw [hstep] at hnext
      generalize mj_lo (fun _ => mj_b1 t) n Z = A at hnext hfix j1 j2 hB' ht' ⊢
      have hA := j1.1.s
      refine t99_16 ⟨fun z => absurd z (by decide), fun _ => ?_⟩
      rw [show mz A X 4 4 = nI (mj_np A) from (mj_S_P hA).2]
      refine mz_scan hA hB' ht' (fun w x10 o11 hw hwq hx => ?_) (mj_np A) 0 (-1) _ (Nat.le_refl _) (by have := hB'.2.2.1; omega) ⟨fun _ => rfl, fun _ => rfl⟩ mz_ft_n
      refine t99_34 ⟨fun _ => ?_, fun z => absurd hx z⟩
      have stop : ¬ (A 33 t < A 30 t ∧ ¬ mj_first A t = -1) → mj_W 1 99 1 196 [some (.ref 0), some (.ref 2), some (.ref 3), some (.ref 4), some (.int (nI t)), some (.int (6 * nI t)), some (.int (nI n)), some (.int 1), some (.int (nI w)), some (.int (mj_first A t)), some (.int x10), o11] [.int 0] (mz A X) 0 K := by
        intro c
        have e : mj_b1 t A = A := by
          unfold mj_b1
          rw [if_neg c]
        exact t99_196 ⟨fun _ => mz_bend hA hB' ht' hw hwq (hfix e), fun z => absurd rfl z⟩
      by_cases q : mj_first A t = -1
      · refine ⟨fun _ => stop (fun z => z.2 q), fun z => ?_⟩
        rw [q] at z
        exact absurd (by decide) z
      · obtain ⟨i, hi, e1, e2, hwn⟩ := mj_first_ok hA t q
        have hi8 := mz_p8 hB' hi
        obtain ⟨r, er, hr, ecr⟩ := mz_rm hA (hA.2.2.2.2.2.2.1 t ht').1
        have hr6 := mz_r6 hB' hr
        refine ⟨fun z => ?_, fun _ => ⟨fun z => absurd z (nI_ge (show n < 4 by omega) (by decide)), fun _ => ?_⟩⟩
        · rw [e1] at z
          exact absurd z (nI_pos (by omega))
        · simp only [mz_rT0 ht3, mz_wT0 ht3, eq_true (mz_vT0 ht3), mz_rT1 ht3, mz_wT1 ht3, eq_true (mz_vT1 ht3), mz_rT2 ht3, mz_wT2 ht3, eq_true (mz_vT2 ht3), mz_rT3 ht3, mz_wT3 ht3, eq_true (mz_vT3 ht3), mz_rT4 ht3, mz_wT4 ht3, eq_true (mz_vT4 ht3), mz_rT5 ht3, mz_wT5 ht3, eq_true (mz_vT5 ht3), true_and]
          refine ⟨fun z => stop (fun y => (Int32.not_le.mpr y.1) z), fun z => ?_⟩
          have c : A 33 t < A 30 t ∧ ¬ mj_first A t = -1 := ⟨Int32.not_le.mp z, q⟩
          unfold mj_b1 at hnext
          rw [if_pos c, e2] at hnext
          unfold mj_b0 at hnext
          rw [ecr] at hnext
          rw [e1]
          refine t99_196 ⟨fun z => absurd z (by decide), fun _ => ?_⟩
          simp only [mz_rP0 hi8, mz_wP0 hi8, eq_true (mz_vP0 hi8), mz_rP1 hi8, mz_wP1 hi8, eq_true (mz_vP1 hi8), mz_rP2 hi8, mz_wP2 hi8, eq_true (mz_vP2 hi8), mz_rP3 hi8, mz_wP3 hi8, eq_true (mz_vP3 hi8), mz_rP4 hi8, mz_wP4 hi8, eq_true (mz_vP4 hi8), mz_rP5 hi8, mz_wP5 hi8, eq_true (mz_vP5 hi8), mz_rP6 hi8, mz_wP6 hi8, eq_true (mz_vP6 hi8), mz_rP7 hi8, mz_wP7 hi8, eq_true (mz_vP7 hi8), mz_rT0 ht3, mz_wT0 ht3, eq_true (mz_vT0 ht3), mz_rT1 ht3, mz_wT1 ht3, eq_true (mz_vT1 ht3), mz_rT2 ht3, mz_wT2 ht3, eq_true (mz_vT2 ht3), mz_rT3 ht3, mz_wT3 ht3, eq_true (mz_vT3 ht3), mz_rT4 ht3, mz_wT4 ht3, eq_true (mz_vT4 ht3), mz_rT5 ht3, mz_wT5 ht3, eq_true (mz_vT5 ht3), true_and]
          simp only [er, mz_rR0 hr6, mz_wR0 hr6, eq_true (mz_vR0 hr6), mz_rR1 hr6, mz_wR1 hr6, eq_true (mz_vR1 hr6), mz_rR2 hr6, mz_wR2 hr6, eq_true (mz_vR2 hr6), mz_rR3 hr6, mz_wR3 hr6, eq_true (mz_vR3 hr6), mz_rR4 hr6, mz_wR4 hr6, eq_true (mz_vR4 hr6), mz_rT0 ht3, mz_wT0 ht3, eq_true (mz_vT0 ht3), mz_rT1 ht3, mz_wT1 ht3, eq_true (mz_vT1 ht3), mz_rT2 ht3, mz_wT2 ht3, eq_true (mz_vT2 ht3), mz_rT3 ht3, mz_wT3 ht3, eq_true (mz_vT3 ht3), mz_rT4 ht3, mz_wT4 ht3, eq_true (mz_vT4 ht3), mz_rT5 ht3, mz_wT5 ht3, eq_true (mz_vT5 ht3), true_and]
          rw [nI_1]
          exact hnext _ _ _ _
  refine e99 ?_
  exact key 0 (Nat.zero_le _) 0 _ _ _
end LWD
