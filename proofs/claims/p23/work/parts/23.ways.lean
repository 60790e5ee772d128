-- WAYS: n links, A l a b: link l leads from room a to room b, st its steps
def mj_wk (n : Nat) (A : Nat → Nat → Nat → Prop) (st : Nat → Nat) (g : Nat) : Nat → Nat → Nat → Prop
  | 0, m, a => m = 0 ∧ a = g
  | e + 1, m, a => ∃ l b m', l < n ∧ A l a b ∧ mj_wk n A st g e m' b ∧ m = m' + st l
def mj_re (n : Nat) (A : Nat → Nat → Nat → Prop) (st : Nat → Nat) (g m a : Nat) : Prop := ∃ e, mj_wk n A st g e m a
/-- the distance; 1000000 if there is no way -/
noncomputable def mj_ds (n : Nat) (A : Nat → Nat → Nat → Prop) (st : Nat → Nat) (a g : Nat) : Nat := @dite Nat (∃ m, mj_re n A st g m a) (Classical.propDecidable _) (fun h => Classical.choose (pk_least (fun m => mj_re n A st g m a) h)) (fun _ => 1000000)
section WAYS
variable {n R : Nat} {A : Nat → Nat → Nat → Prop} {st : Nat → Nat} {a b g l m : Nat}
theorem mj_re_0 : mj_re n A st g 0 g := ⟨0, rfl, rfl⟩
theorem mj_re_s (hl : l < n) (hA : A l a b) (h : mj_re n A st g m b) : mj_re n A st g (m + st l) a := by
  obtain ⟨e, he⟩ := h
  exact ⟨e + 1, l, b, m, hl, hA, he, rfl⟩
theorem mj_ds_pos (h : ∃ m, mj_re n A st g m a) : mj_re n A st g (mj_ds n A st a g) a ∧ ∀ m, mj_re n A st g m a → mj_ds n A st a g ≤ m := by
  unfold mj_ds
  rw [dif_pos h]
  have h2 := Classical.choose_spec (pk_least (fun m => mj_re n A st g m a) h)
  refine ⟨h2.1, fun m hm => ?_⟩
  rcases Nat.lt_or_ge m (Classical.choose (pk_least (fun m => mj_re n A st g m a) h)) with q | q
  · exact absurd hm (h2.2 m q)
  · exact q
theorem mj_ds_neg (h : ¬ ∃ m, mj_re n A st g m a) : mj_ds n A st a g = 1000000 := by
  unfold mj_ds
  rw [dif_neg h]
theorem mj_ds_le (h : mj_re n A st g m a) : mj_ds n A st a g ≤ m := (mj_ds_pos ⟨m, h⟩).2 m h
theorem mj_ds_0 : mj_ds n A st g g = 0 := Nat.le_zero.mp (mj_ds_le mj_re_0)
/-- from elsewhere: a first link by which the distance is kept -/
theorem mj_ds_step (h : ∃ m, mj_re n A st g m a) (hne : a ≠ g) : ∃ l b, l < n ∧ A l a b ∧ (∃ m, mj_re n A st g m b) ∧ mj_ds n A st a g = mj_ds n A st b g + st l := by
  obtain ⟨h1, h2⟩ := mj_ds_pos h
  obtain ⟨e, he⟩ := h1
  cases e with
  | zero => exact absurd he.2 hne
  | succ e =>
    obtain ⟨l, b, m', hl, hA, hw, hm⟩ := he
    have hb : ∃ m, mj_re n A st g m b := ⟨m', e, hw⟩
    refine ⟨l, b, hl, hA, hb, ?_⟩
    have h3 := mj_ds_le (show mj_re n A st g m' b from ⟨e, hw⟩)
    have h4 := h2 _ (mj_re_s hl hA (mj_ds_pos hb).1)
    omega
theorem mj_ds_tri (hl : l < n) (hA : A l a b) (hb : ∃ m, mj_re n A st g m b) : (∃ m, mj_re n A st g m a) ∧ mj_ds n A st a g ≤ mj_ds n A st b g + st l := by
  have h := mj_re_s hl hA (mj_ds_pos hb).1
  exact ⟨⟨_, h⟩, mj_ds_le h⟩
/-- how many rooms are nearer -/
def mj_nr1 (n : Nat) (A : Nat → Nat → Nat → Prop) (st : Nat → Nat) (g d : Nat) : (Nat → Bool) → Nat → Nat
  | _, 0 => 0
  | p, r + 1 => mj_nr1 n A st g d p r + (if p r then 1 else 0)
def mj_cb (p : Nat → Bool) : Nat → Nat
  | 0 => 0
  | r + 1 => mj_cb p r + (if p r then 1 else 0)
theorem mj_cb_le (p : Nat → Bool) : ∀ r, mj_cb p r ≤ r
  | 0 => Nat.le_refl _
  | r + 1 => by
    have := mj_cb_le p r
    unfold mj_cb
    split <;> omega
theorem mj_cb_mono {p q : Nat → Bool} (h : ∀ i, p i = true → q i = true) : ∀ r, mj_cb p r ≤ mj_cb q r
  | 0 => Nat.le_refl _
  | r + 1 => by
    have := mj_cb_mono h r
    unfold mj_cb
    by_cases hp : p r = true
    · rw [if_pos hp, if_pos (h r hp)]; omega
    · rw [if_neg hp]; omega
theorem mj_cb_lt {p q : Nat → Bool} (h : ∀ i, p i = true → q i = true) {i : Nat} (hp : p i = false) (hq : q i = true) : ∀ r, i < r → mj_cb p r < mj_cb q r
  | 0, hi => by omega
  | r + 1, hi => by
    have hm := mj_cb_mono h r
    unfold mj_cb
    by_cases e : i = r
    · subst e
      rw [hp, hq]
      simp only [Bool.false_eq_true, if_false, if_true]
      omega
    · have := mj_cb_lt h hp hq r (by omega)
      by_cases hpr : p r = true
      · rw [if_pos hpr, if_pos (h r hpr)]; omega
      · rw [if_neg hpr]; omega
noncomputable def mj_nearer (n : Nat) (A : Nat → Nat → Nat → Prop) (st : Nat → Nat) (g R a : Nat) : Nat := mj_cb (fun r => decide (mj_ds n A st r g < mj_ds n A st a g)) R
theorem mj_nearer_lt (hb : b < R) (h : mj_ds n A st b g < mj_ds n A st a g) : mj_nearer n A st g R b < mj_nearer n A st g R a := by
  unfold mj_nearer
  refine mj_cb_lt (i := b) (fun i hi => ?_) ?_ ?_ R hb
  · rw [decide_eq_true_eq] at hi ⊢; omega
  · rw [decide_eq_false_iff_not]; omega
  · rw [decide_eq_true_eq]; exact h
/-- what can be reached is near -/
theorem mj_ds_near (hR : ∀ l a b, l < n → A l a b → b < R) (hst : ∀ l, l < n → 1 ≤ st l ∧ st l ≤ 5) : ∀ (d a : Nat), mj_ds n A st a g ≤ d → (∃ m, mj_re n A st g m a) → mj_ds n A st a g ≤ 5 * mj_nearer n A st g R a
  | d, a, hd, h => by
    by_cases hne : a = g
    · subst hne; rw [mj_ds_0]; omega
    · obtain ⟨l, b, hl, hA, hb, e⟩ := mj_ds_step h hne
      have h1 := hst l hl
      have hlt : mj_ds n A st b g < mj_ds n A st a g := by omega
      have h2 := mj_nearer_lt (R := R) (hR l a b hl hA) hlt
      cases d with
      | zero => omega
      | succ d =>
        have h3 := mj_ds_near hR hst d b (by omega) hb
        omega
theorem mj_ds_50 (hR : ∀ l a b, l < n → A l a b → b < R) (hst : ∀ l, l < n → 1 ≤ st l ∧ st l ≤ 5) (h10 : R ≤ 10) (h : ∃ m, mj_re n A st g m a) : mj_ds n A st a g ≤ 50 := by
  have h1 := mj_ds_near hR hst _ a (Nat.le_refl _) h
  have h2 : mj_nearer n A st g R a ≤ R := mj_cb_le _ R
  omega
theorem mj_ds_iff (hR : ∀ l a b, l < n → A l a b → b < R) (hst : ∀ l, l < n → 1 ≤ st l ∧ st l ≤ 5) (h10 : R ≤ 10) : (∃ m, mj_re n A st g m a) ↔ mj_ds n A st a g < 1000 := by
  constructor
  · intro h
    have := mj_ds_50 hR hst h10 h
    omega
  · intro h
    by_cases q : ∃ m, mj_re n A st g m a
    · exact q
    · rw [mj_ds_neg q] at h; omega
/-- what keeps to the links and is a way's length is the distance -/
theorem mj_ds_uniq {v : Nat → Int} {F : Int} (hR : ∀ l a b, l < n → A l a b → a < R ∧ b < R) (h0 : v g ≤ 0) (htri : ∀ l a b, l < n → A l a b → v a ≤ v b + st l) (hs : ∀ a, a < R → v a < F → ∃ m : Nat, v a = m ∧ mj_re n A st g m a) (hF : ∀ a, a < R → v a ≤ F) (hg : g < R) (hbig : ∀ a, (∃ m, mj_re n A st g m a) → (mj_ds n A st a g : Int) < F) {a : Nat} (ha : a < R) : v a = @ite Int (∃ m, mj_re n A st g m a) (Classical.propDecidable _) (mj_ds n A st a g : Int) F := by
  have comp : ∀ (e m a : Nat), mj_wk n A st g e m a → v a ≤ m := by
    intro e
    induction e with
    | zero => rintro m a ⟨rfl, rfl⟩; exact h0
    | succ e ih =>
      rintro m a ⟨l, b, m', hl, hA, hw, rfl⟩
      have h1 := ih m' b hw
      have h2 := htri l a b hl hA
      omega
  by_cases h : ∃ m, mj_re n A st g m a
  · rw [if_pos h]
    obtain ⟨h1, h2⟩ := mj_ds_pos h
    obtain ⟨e, he⟩ := h1
    have h3 := comp e _ a he
    have h4 := hbig a h
    obtain ⟨m, hm, hre⟩ := hs a ha (by omega)
    have h5 := h2 m hre
    omega
  · rw [if_neg h]
    have h1 := hF a ha
    by_cases q : v a < F
    · obtain ⟨m, hm, hre⟩ := hs a ha q
      exact absurd ⟨m, hre⟩ h
    · omega
end WAYS
/-- the first of n with p -/
def mj_ff (p : Nat → Bool) : Nat → Int32
  | 0 => -1
  | k + 1 => if mj_ff p k = -1 then (if p k then nI k else -1) else mj_ff p k
theorem mj_nI_m1 {k : Nat} (h : k < 2 ^ 31) : nI k ≠ -1 := by
  intro e
  have h1 := nI_toInt h
  rw [e] at h1
  have : (-1 : Int32).toInt = -1 := by decide
  omega
theorem mj_ff_no {p : Nat → Bool} : ∀ {k : Nat}, k < 2 ^ 31 → (mj_ff p k = -1 ↔ ∀ i, i < k → p i = false)
  | 0, _ => ⟨fun _ i hi => by omega, fun _ => rfl⟩
  | k + 1, hk => by
    have ih := mj_ff_no (p := p) (k := k) (by omega)
    unfold mj_ff
    by_cases h : mj_ff p k = -1
    · rw [if_pos h]
      by_cases hp : p k = true
      · rw [if_pos hp]
        constructor
        · intro e; exact absurd e (mj_nI_m1 (by omega))
        · intro e; rw [e k (by omega)] at hp; cases hp
      · rw [if_neg hp]
        refine ⟨fun _ i hi => ?_, fun _ => rfl⟩
        by_cases e : i = k
        · subst e; simpa using hp
        · exact ih.mp h i (by omega)
    · rw [if_neg h]
      refine ⟨fun e => absurd e h, fun e => ih.mpr fun i hi => e i (by omega)⟩
theorem mj_ff_yes {p : Nat → Bool} : ∀ {k : Nat}, k < 2 ^ 31 → mj_ff p k ≠ -1 → ∃ i, i < k ∧ mj_ff p k = nI i ∧ p i = true ∧ ∀ j, j < i → p j = false
  | 0, _, h => absurd rfl h
  | k + 1, hk, h => by
    have hk' : k < 2 ^ 31 := by omega
    unfold mj_ff at h ⊢
    by_cases h1 : mj_ff p k = -1
    · rw [if_pos h1] at h ⊢
      by_cases hp : p k = true
      · rw [if_pos hp]
        exact ⟨k, by omega, rfl, hp, (mj_ff_no hk').mp h1⟩
      · rw [if_neg hp] at h; exact absurd rfl h
    · rw [if_neg h1] at h ⊢
      obtain ⟨i, a, b, c, d⟩ := mj_ff_yes hk' h1
      exact ⟨i, by omega, b, c, d⟩
