-- THE LAW'S METHODS, E: the order at a link
section LWE
variable {Z Z' X : mj_M} {K : mj_K} {p l r t a b : Nat}
/-- who stands ahead, as three numbers -/
def mz_ky (Z : mj_M) (l a : Nat) : Nat := if Z 9 l = 2 ∧ ¬ Z 24 a = 0 then 0 else 1
theorem mz_ah (ha : mj_bit (Z 24 a)) (hb : mj_bit (Z 24 b)) : mj_ah Z l a b ↔ mz_ky Z l a < mz_ky Z l b ∨ (mz_ky Z l a = mz_ky Z l b ∧ ((Z 26 a).toInt < (Z 26 b).toInt ∨ ((Z 26 a).toInt = (Z 26 b).toInt ∧ a < b))) := by
  have key : Z 9 l = 2 ∧ ¬ Z 24 a = Z 24 b ↔ ¬ mz_ky Z l a = mz_ky Z l b := by
    unfold mz_ky
    by_cases c : Z 9 l = 2
    · by_cases x : Z 24 a = 0
      · by_cases y : Z 24 b = 0
        · rw [if_neg (fun z => z.2 x), if_neg (fun z => z.2 y)]
          exact ⟨fun z => absurd (x.trans y.symm) z.2, fun z => absurd rfl z⟩
        · rw [if_neg (fun z => z.2 x), if_pos ⟨c, y⟩]
          exact ⟨fun _ => by decide, fun _ => ⟨c, fun z => y (z.symm.trans x)⟩⟩
      · by_cases y : Z 24 b = 0
        · rw [if_pos ⟨c, x⟩, if_neg (fun z => z.2 y)]
          exact ⟨fun _ => by decide, fun _ => ⟨c, fun z => x (z.trans y)⟩⟩
        · rw [if_pos ⟨c, x⟩, if_pos ⟨c, y⟩]
          refine ⟨fun z => absurd ?_ z.2, fun z => absurd rfl z⟩
          rw [ha.resolve_left x, hb.resolve_left y]
    · rw [if_neg (fun z => c z.1), if_neg (fun z => c z.1)]
      exact ⟨fun z => absurd z.1 c, fun z => absurd rfl z⟩
  have k1 : ∀ x, mz_ky Z l x = 0 ∨ mz_ky Z l x = 1 := fun x => by
    unfold mz_ky
    split
    · exact Or.inl rfl
    · exact Or.inr rfl
  unfold mj_ah
  rw [mj_lt, mj_eq (Z 26 a) (Z 26 b)]
  by_cases c : Z 9 l = 2 ∧ ¬ Z 24 a = Z 24 b
  · have c' := key.mp c
    have e : ¬ Z 24 a = 0 ↔ mz_ky Z l a < mz_ky Z l b := by
      have := k1 a
      have := k1 b
      have h0 : mz_ky Z l a = 0 ↔ ¬ Z 24 a = 0 := by
        unfold mz_ky
        by_cases x : Z 24 a = 0
        · rw [if_neg (fun z => z.2 x)]
          exact ⟨fun z => absurd z (by decide), fun z => absurd x z⟩
        · rw [if_pos ⟨c.1, x⟩]
          exact ⟨fun _ => x, fun _ => rfl⟩
      rw [← h0]
      omega
    constructor
    · rintro (z | z)
      · exact Or.inl (e.mp z.2.2)
      · exact absurd c z.1
    · rintro (z | z)
      · exact Or.inl ⟨c.1, c.2, e.mpr z⟩
      · exact absurd z.1 c'
  · have c' : mz_ky Z l a = mz_ky Z l b := Decidable.not_not.mp (fun z => c (key.mpr z))
    constructor
    · rintro (z | z)
      · exact absurd ⟨z.1, z.2.1⟩ c
      · exact Or.inr ⟨c', z.2⟩
    · rintro (z | z)
      · omega
      · exact Or.inr ⟨c, z.2⟩
/-- all have a chair or none -/
def mz_bt (Z : mj_M) : Prop := ∀ q, q < mj_np Z → mj_bit (Z 24 q)
theorem mz_ah_tr (h : mz_bt Z) {x y z : Nat} (hx : x < mj_np Z) (hy : y < mj_np Z) (hz : z < mj_np Z) (h1 : mj_ah Z l x y) (h2 : mj_ah Z l y z) : mj_ah Z l x z := by
  rw [mz_ah (h _ hx) (h _ hy)] at h1
  rw [mz_ah (h _ hy) (h _ hz)] at h2
  rw [mz_ah (h _ hx) (h _ hz)]
  omega
theorem mz_ah_to (h : mz_bt Z) {x y : Nat} (hx : x < mj_np Z) (hy : y < mj_np Z) (hne : x ≠ y) (h1 : ¬ mj_ah Z l x y) : mj_ah Z l y x := by
  rw [mz_ah (h _ hx) (h _ hy)] at h1
  rw [mz_ah (h _ hy) (h _ hx)]
  omega
theorem mz_ah_as (h : mz_bt Z) {x y : Nat} (hx : x < mj_np Z) (hy : y < mj_np Z) (h1 : mj_ah Z l x y) : ¬ mj_ah Z l y x := by
  rw [mz_ah (h _ hx) (h _ hy)] at h1
  rw [mz_ah (h _ hy) (h _ hx)]
  omega
theorem mz_ah_ir (h : mz_bt Z) {x : Nat} (hx : x < mj_np Z) : ¬ mj_ah Z l x x := fun z => mz_ah_as h hx hx z z
/-- one more in the line: where he comes -/
theorem mz_is {k : Nat} : ∀ (n : Nat) (q : Nat → Int32), ∃ s, s ≤ n ∧ (∀ i, i < s → mj_is Z l k n q i = q i) ∧ mj_is Z l k n q s = nI k ∧ (∀ i, s < i → i ≤ n → mj_is Z l k n q i = q (i - 1)) ∧ (∀ i, n < i → mj_is Z l k n q i = q i) ∧ (0 < s → ¬ mj_ah Z l k (q (s - 1)).toNatClampNeg) ∧ ∀ i, s ≤ i → i < n → mj_ah Z l k (q i).toNatClampNeg
  | 0, q => by
    refine ⟨0, Nat.le_refl _, fun i hi => absurd hi (Nat.not_lt_zero i), ?_, fun i h1 h2 => by omega, fun i hi => ?_, fun h => absurd h (Nat.lt_irrefl 0), fun i h1 h2 => by omega⟩
    · show upd q 0 (nI k) 0 = _
      unfold upd; rw [if_pos rfl]
    · show upd q 0 (nI k) i = _
      unfold upd; rw [if_neg (by omega)]
  | n + 1, q => by
    unfold mj_is
    by_cases c : mj_ah Z l k (q n).toNatClampNeg
    · rw [if_pos c]
      obtain ⟨s, h1, h2, h3, h4, h5, h6, h7⟩ := mz_is n (upd q (n + 1) (q n))
      have u : ∀ i, i < n + 1 → upd q (n + 1) (q n) i = q i := fun i hi => by unfold upd; rw [if_neg (by omega)]
      refine ⟨s, by omega, fun i hi => by rw [h2 i hi, u i (by omega)], h3, fun i hi hi2 => ?_, fun i hi => ?_, fun hs => ?_, fun i hi hi2 => ?_⟩
      · by_cases e : i = n + 1
        · subst e
          rw [h5 _ (by omega)]
          unfold upd
          rw [if_pos rfl]; rfl
        · rw [h4 i hi (by omega), u _ (by omega)]
      · rw [h5 i (by omega)]
        unfold upd
        rw [if_neg (by omega)]
      · have := h6 hs
        rw [u _ (by omega)] at this
        exact this
      · by_cases e : i = n
        · subst e; exact c
        · have := h7 i hi (by omega)
          rw [u _ (by omega)] at this
          exact this
    · rw [if_neg c]
      refine ⟨n + 1, Nat.le_refl _, fun i hi => ?_, ?_, fun i h1 h2 => by omega, fun i hi => ?_, fun _ => c, fun i h1 h2 => by omega⟩
      · unfold upd; rw [if_neg (by omega)]
      · unfold upd; rw [if_pos rfl]
      · unfold upd; rw [if_neg (by omega)]
/-- the line in order -/
def mz_so (Z : mj_M) (v : Nat → Int32) (l m : Nat) (s : Nat × (Nat → Int32)) : Prop := (∀ i, i < s.1 → ∃ p, p < m ∧ s.2 i = nI p ∧ v p = nI l) ∧ (∀ i j, i < j → j < s.1 → mj_ah Z l (s.2 i).toNatClampNeg (s.2 j).toNatClampNeg) ∧ ∀ p, p < m → v p = nI l → ∃ i, i < s.1 ∧ s.2 i = nI p
theorem mz_ln (h : mz_bt Z) (hP : mj_np Z ≤ 120) {v : Nat → Int32} {q : Nat → Int32} : ∀ m, m ≤ mj_np Z → mz_so Z v l m (mj_ln Z v l q m)
  | 0, _ => ⟨fun i hi => absurd hi (Nat.not_lt_zero i), fun i j _ hj => absurd hj (Nat.not_lt_zero j), fun p hp => absurd hp (Nat.not_lt_zero p)⟩
  | m + 1, hm => by
    have ih := mz_ln h hP (v := v) (q := q) m (by omega)
    unfold mj_ln
    generalize mj_ln Z v l q m = s at ih ⊢
    obtain ⟨n, f⟩ := s
    obtain ⟨i1, i2, i3⟩ := ih
    by_cases c : v m = nI l
    · rw [if_pos c]
      obtain ⟨s, h1, h2, h3, h4, h5, h6, h7⟩ := mz_is (Z := Z) (l := l) (k := m) n f
      dsimp only at i1 i2 i3 ⊢
      have cl : ∀ i, i < n → ∃ p, p < m ∧ f i = nI p ∧ (f i).toNatClampNeg = p ∧ v p = nI l := fun i hi => by
        obtain ⟨p, a1, a2, a3⟩ := i1 i hi
        exact ⟨p, a1, a2, by rw [a2]; exact nI_clamp (by omega), a3⟩
      have cm : (nI m).toNatClampNeg = m := nI_clamp (by omega)
      -- those before s are ahead of m
      have before : ∀ i, i < s → mj_ah Z l (f i).toNatClampNeg m := by
        intro i hi
        have hs : 0 < s := by omega
        obtain ⟨p, a1, -, a3, -⟩ := cl (s - 1) (by omega)
        have b1 := h6 hs
        rw [a3] at b1
        have b2 := mz_ah_to h (by omega) (by omega) (by omega) b1
        by_cases e : i = s - 1
        · rw [e, a3]; exact b2
        · obtain ⟨p2, d1, -, d3, -⟩ := cl i (by omega)
          have b3 := i2 i (s - 1) (by omega) (by omega)
          rw [d3, a3] at b3
          rw [d3]
          exact mz_ah_tr h (by omega) (by omega) (by omega) b3 b2
      show (∀ i, i < n + 1 → ∃ p, p < m + 1 ∧ mj_is Z l m n f i = nI p ∧ v p = nI l) ∧ (∀ i j, i < j → j < n + 1 → mj_ah Z l (mj_is Z l m n f i).toNatClampNeg (mj_is Z l m n f j).toNatClampNeg) ∧ ∀ p, p < m + 1 → v p = nI l → ∃ i, i < n + 1 ∧ mj_is Z l m n f i = nI p
      refine ⟨fun i hi => ?_, fun i j hij hj => ?_, fun p hp hv => ?_⟩
      · by_cases e1 : i < s
        · obtain ⟨p, a1, a2, a3⟩ := i1 i (by omega)
          exact ⟨p, by omega, by rw [h2 i e1]; exact a2, a3⟩
        · by_cases e2 : i = s
          · subst e2
            exact ⟨m, by omega, h3, c⟩
          · obtain ⟨p, a1, a2, a3⟩ := i1 (i - 1) (by omega)
            exact ⟨p, by omega, by rw [h4 i (by omega) (by omega)]; exact a2, a3⟩
      · by_cases e1 : j < s
        · rw [h2 i (by omega), h2 j e1]
          exact i2 i j hij (by omega)
        · by_cases e2 : j = s
          · subst e2
            rw [h2 i hij, h3, cm]
            exact before i hij
          · rw [h4 j (by omega) (by omega)]
            by_cases e3 : i < s
            · rw [h2 i e3]
              exact i2 i (j - 1) (by omega) (by omega)
            · by_cases e4 : i = s
              · subst e4
                rw [h3, cm]
                exact h7 (j - 1) (by omega) (by omega)
              · rw [h4 i (by omega) (by omega)]
                exact i2 (i - 1) (j - 1) (by omega) (by omega)
      · by_cases e : p = m
        · subst e
          exact ⟨s, by omega, h3⟩
        · obtain ⟨i, hi, e1⟩ := i3 p (by omega) hv
          by_cases e2 : i < s
          · exact ⟨i, by omega, by rw [h2 i e2]; exact e1⟩
          · exact ⟨i + 1, by omega, by rw [h4 (i + 1) (by omega) (by omega)]; exact e1⟩
    · rw [if_neg c]
      refine ⟨fun i hi => ?_, i2, fun p hp hv => ?_⟩
      · obtain ⟨p, a1, a2, a3⟩ := i1 i hi
        exact ⟨p, by omega, a2, a3⟩
      · by_cases e : p = m
        · subst e; exact absurd hv c
        · exact i3 p (by omega) hv
-- marks in a number of eight bits
theorem mz_bit1 : ∀ m, m < 256 → ∀ k, k < 8 → (nI m >>> (nI k &&& 31)) &&& 1 = if m.testBit k then 1 else 0 := by decide +kernel
theorem mz_bit2 : ∀ m, m < 256 → ∀ k, k < 8 → nI m ||| ((1 : Int32) <<< (nI k &&& 31)) = nI (m ||| 2 ^ k) ∧ m ||| 2 ^ k < 256 := by decide +kernel
theorem mz_bit3 : ∀ k, k < 8 → (1 : Int32) <<< (nI k &&& 31) = nI (2 ^ k) ∧ 2 ^ k < 256 := by decide +kernel
theorem mz_tb (m k i : Nat) : (m ||| 2 ^ k).testBit i = (m.testBit i || decide (k = i)) := by
  rw [Nat.testBit_or, Nat.testBit_two_pow]
theorem mz_tb0 (k i : Nat) : (2 ^ k).testBit i = decide (k = i) := Nat.testBit_two_pow
end LWE
