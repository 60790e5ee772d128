-- THE LAW'S METHODS, C: distance, found forwards; the next link
section LWC0
variable {n R : Nat} {A : Nat → Nat → Nat → Prop} {st : Nat → Nat} {a b g l m : Nat}
/-- the last link of a way -/
theorem mz_snoc : ∀ (e m a : Nat), mj_wk n A st b (e + 1) m a → ∃ l c m', l < n ∧ A l c b ∧ mj_wk n A st c e m' a ∧ m = m' + st l
  | 0, m, a, h => by
    obtain ⟨l, c, m', hl, hA, ⟨rfl, rfl⟩, rfl⟩ := h
    exact ⟨l, a, 0, hl, hA, ⟨rfl, rfl⟩, rfl⟩
  | e + 1, m, a, h => by
    obtain ⟨l, c, m', hl, hA, hw, rfl⟩ := h
    obtain ⟨l2, c2, m2, hl2, hA2, hw2, rfl⟩ := mz_snoc e m' c hw
    exact ⟨l2, c2, m2 + st l, hl2, hA2, ⟨l, c, m2, hl, hA, hw2, rfl⟩, by omega⟩
/-- a shortest way of few links -/
theorem mz_few (hR : ∀ l a b, l < n → A l a b → b < R) (hst : ∀ l, l < n → 1 ≤ st l ∧ st l ≤ 5) : ∀ (d a : Nat), mj_ds n A st a g ≤ d → (∃ m, mj_re n A st g m a) → ∃ e, e ≤ mj_nearer n A st g R a ∧ mj_wk n A st g e (mj_ds n A st a g) a
  | d, a, hd, h => by
    by_cases hne : a = g
    · subst hne
      exact ⟨0, Nat.zero_le _, mj_ds_0, rfl⟩
    · obtain ⟨l, b, hl, hA, hb, e⟩ := mj_ds_step h hne
      have h1 := hst l hl
      have hlt : mj_ds n A st b g < mj_ds n A st a g := by omega
      have h2 := mj_nearer_lt (R := R) (hR l a b hl hA) hlt
      cases d with
      | zero => omega
      | succ d =>
        obtain ⟨e3, h3, h4⟩ := mz_few hR hst d b (by omega) hb
        exact ⟨e3 + 1, by omega, l, b, mj_ds n A st b g, hl, hA, h4, e⟩
end LWC0
section LWC
variable {Z X : mj_M} {K : mj_K} {p l r t a : Nat} {c k : Int32}
/-- the row of the distances from room a, as far as it is known -/
def mz_FI (Z : mj_M) (c k : Int32) (a : Nat) (F : Nat → Int32) : Prop := (∀ b, b < 6 → 0 ≤ (F b).toInt ∧ (F b).toInt ≤ 99) ∧ (F a).toInt ≤ 0 ∧ ∀ b, b < 6 → (F b).toInt < 99 → mj_re (mj_nl Z) (mj_arc Z c k) (mj_sp Z) b (F b).toInt.toNat a
def mz_FL (F F' : Nat → Int32) : Prop := ∀ b, b < 6 → (F' b).toInt ≤ (F b).toInt
theorem mz_12 (h : mj_S Z) (hl : l < mj_nl Z) : (Z 12 l).toInt = (mj_sp Z l : Int) ∧ 1 ≤ mj_sp Z l ∧ mj_sp Z l ≤ 5 := by
  obtain ⟨-, -, -, h3, h4⟩ := h.1.2.2 l hl
  have := mj_sp15 h.1 l hl
  refine ⟨?_, this⟩
  unfold mj_sp
  rw [mj_clN]
  omega
theorem mz_relax (h : mj_S Z) (hR : mj_nr Z ≤ 6) {F : Nat → Int32} (hF : mz_FI Z c k a F) (hl : l < mj_nl Z) {b0 b : Nat} (hA : mj_arc Z c k l b0 b) (hlt : ¬ F b ≤ F b0 + Z 12 l) : mz_FI Z c k a (upd F b (F b0 + Z 12 l)) ∧ mz_FL F (upd F b (F b0 + Z 12 l)) ∧ (F b0 + Z 12 l).toInt = (F b0).toInt + mj_sp Z l := by
  obtain ⟨s1, s2, s3⟩ := mz_12 h hl
  obtain ⟨f1, f2, f3⟩ := hF
  have hb0 : b0 < 6 := by have := hA.2.1; omega
  have hb : b < 6 := by have := hA.2.2; omega
  have r0 := f1 b0 hb0
  have r1 := f1 b hb
  have hs : (F b0 + Z 12 l).toInt = (F b0).toInt + mj_sp Z l := by
    rw [fb_addI (by omega) (by omega), s1]
  have hlt' : (F b0).toInt + mj_sp Z l < (F b).toInt := by
    rw [mj_le, hs] at hlt
    omega
  refine ⟨⟨fun x hx => ?_, ?_, fun x hx hx9 => ?_⟩, fun x hx => ?_, hs⟩
  · unfold upd
    split
    · rw [hs]; omega
    · exact f1 x hx
  · unfold upd
    split
    · rename_i e
      rw [e] at f2
      rw [hs]; omega
    · exact f2
  · unfold upd at hx9 ⊢
    by_cases e : x = b
    · rw [if_pos e] at hx9 ⊢
      rw [hs] at hx9 ⊢
      have w := f3 b0 hb0 (by omega)
      have w2 : mj_re (mj_nl Z) (mj_arc Z c k) (mj_sp Z) x (mj_sp Z l) b0 := by
        have := mj_re_s (n := mj_nl Z) (A := mj_arc Z c k) (st := mj_sp Z) (g := x) hl (by rw [e]; exact hA) mj_re_0
        rw [Nat.zero_add] at this
        exact this
      have w3 := mj_re_trans w w2
      rw [show ((F b0).toInt + (mj_sp Z l : Int)).toNat = (F b0).toInt.toNat + mj_sp Z l by omega]
      exact w3
    · rw [if_neg e] at hx9 ⊢
      exact f3 x hx hx9
  · unfold upd
    split
    · rename_i e
      rw [hs, e]; omega
    · exact Int.le_refl _
/-- what a round has done: links before l -/
def mz_FR (Z : mj_M) (c k : Int32) (F0 F : Nat → Int32) (l : Nat) : Prop := ∀ j, j < l → ∀ x y, mj_arc Z c k j x y → (F y).toInt ≤ (F0 x).toInt + mj_sp Z j
theorem mz_FR_le (hR : mj_nr Z ≤ 6) {F0 F F' : Nat → Int32} (h : mz_FR Z c k F0 F l) (h2 : mz_FL F F') : mz_FR Z c k F0 F' l := by
  intro j hj x y hA
  have := h j hj x y hA
  have := h2 y (by have := hA.2.2; omega)
  omega
def mz_FG (Z : mj_M) (c k : Int32) (a j : Nat) (F : Nat → Int32) : Prop := ∀ e, e ≤ j → ∀ b m, b < 6 → mj_wk (mj_nl Z) (mj_arc Z c k) (mj_sp Z) b e m a → (F b).toInt ≤ m
theorem mz_FG_s (hR : mj_nr Z ≤ 6) {F0 F : Nat → Int32} {j : Nat} (h : mz_FG Z c k a j F0) (hr : mz_FR Z c k F0 F (mj_nl Z)) (hl : mz_FL F0 F) : mz_FG Z c k a (j + 1) F := by
  intro e he b m hb hw
  by_cases q : e ≤ j
  · have := h e q b m hb hw
    have := hl b hb
    omega
  · have : e = j + 1 := by omega
    subst this
    obtain ⟨l, x, m', hl2, hA, hw2, rfl⟩ := mz_snoc j m a hw
    have h1 := h j (Nat.le_refl _) x m' (by have := hA.2.1; omega) hw2
    have h2 := hr l hl2 x b hA
    omega
theorem mz_FG_end (h : mj_S Z) (hR : mj_nr Z ≤ 6) {F : Nat → Int32} (hF : mz_FI Z c k a F) (hG : mz_FG Z c k a 6 F) {g : Nat} (hg : g < mj_nr Z) : (¬ (99 : Int32) ≤ F g → F g = mj_dv Z c k a g) ∧ ((99 : Int32) ≤ F g → -1 = mj_dv Z c k a g) := by
  have i99 : (99 : Int32).toInt = 99 := by decide
  have g6 : g < 6 := by omega
  obtain ⟨f1, f2, f3⟩ := hF
  have r := f1 g g6
  have hdi : mj_di Z c k a g = mj_ds (mj_nl Z) (mj_arc Z c k) (mj_sp Z) a g := rfl
  have reach : (∃ m, mj_re (mj_nl Z) (mj_arc Z c k) (mj_sp Z) g m a) → (F g).toInt ≤ mj_di Z c k a g ∧ mj_di Z c k a g ≤ 50 := by
    intro q
    obtain ⟨e, he, hw⟩ := mz_few (A := mj_arc Z c k) (R := mj_nr Z) (g := g) (fun l x y hl hA => (mj_arc_R l x y hl hA).2) (mj_sp15 h.1) _ a (Nat.le_refl _) q
    have hn : mj_nearer (mj_nl Z) (mj_arc Z c k) (mj_sp Z) g (mj_nr Z) a ≤ mj_nr Z := mj_cb_le _ _
    have h1 := hG e (by omega) g _ g6 hw
    have h2 := (mj_D_iff h.1).mp q
    rcases mj_D_cases h.1 (c := c) (k := k) a g with z | z
    · exact ⟨h1, z⟩
    · omega
  unfold mj_dv
  constructor
  · intro q
    rw [mj_le, i99] at q
    have w := f3 g g6 (by omega)
    obtain ⟨u1, u2⟩ := reach ⟨_, w⟩
    have u3 : mj_di Z c k a g ≤ (F g).toInt.toNat := mj_ds_le w
    rw [if_pos (by omega), mj_eq, nI_toInt (by omega)]
    omega
  · intro q
    rw [mj_le, i99] at q
    by_cases w : ∃ m, mj_re (mj_nl Z) (mj_arc Z c k) (mj_sp Z) g m a
    · obtain ⟨u1, u2⟩ := reach w
      omega
    · rw [if_neg (fun z => w ((mj_D_iff h.1).mpr z))]
theorem mz_rb_end (h : mj_S Z) (hl : l < mj_nl Z) {x : Nat} (hx : ¬ mj_rb Z c k l (nI x) = -1) : nI x = Z 10 l ∨ nI x = Z 11 l := by
  unfold mj_rb at hx
  by_cases q : mj_opn Z k l ∧ mj_car Z c l
  · rw [if_pos q] at hx
    unfold mj_beh at hx
    by_cases q1 : nI x = Z 10 l ∧ mj_fwd Z l
    · exact Or.inl q1.1
    · rw [if_neg q1] at hx
      by_cases q2 : nI x = Z 11 l ∧ mj_bwd Z l
      · exact Or.inr q2.1
      · rw [if_neg q2] at hx
        exact absurd rfl hx
  · rw [if_neg q] at hx
    exact absurd rfl hx
theorem mz_i6 {b : Nat} (h : b < 6) : (6 + nI b : Int32).toNatClampNeg = 6 + b ∧ vp_in (6 + nI b : Int32) 12 := by
  have e : (6 + nI b : Int32) = nI (6 + b) := by
    rw [show (6 : Int32) = nI 6 from rfl, nI_add]
  rw [e]
  exact ⟨nI_clamp (by omega), vp_in_nI (by omega) (by decide)⟩
def mz_ro (X : mj_M) : Nat → Int32 := fun b => X 4 (6 + b)
theorem mz_ro_u {b : Nat} {v : Int32} : mz_ro (mj_u X 4 (6 + b) v) = upd (mz_ro X) b v := by
  funext x
  unfold mz_ro upd
  rw [mj_u_at]
  by_cases e : x = b
  · rw [if_pos ⟨rfl, by omega⟩, if_pos e]
  · rw [if_neg (fun z => e (by omega)), if_neg e]
def mz_X4 (X X' : mj_M) : Prop := ∀ c, c ≠ 4 → X' c = X c
theorem mz_X4_u {X X' : mj_M} {i : Nat} {v : Int32} (h : mz_X4 X X') : mz_X4 X (mj_u X' 4 i v) := fun c hc => by rw [mj_u_ne _ _ _ hc]; exact h c hc
/-- one end of a link -/
theorem mz_end {X0 : mj_M} {F0 : Nat → Int32} (h : mj_S Z) (hB : mz_B Z) (hl : l < mj_nl Z) (hp : p < mj_np Z) (hk : mj_bit (Z 40 p)) {x5 x6 x8 : Int32} {f : Nat} (hf : f < mj_nr Z) (hz : (x8 = 1 ∧ Z 10 l = nI f) ∨ (x8 = 2 ∧ Z 11 l = nI f)) {x4 : Int32} {X' : mj_M} (hX : mz_X4 X0 X') (hF : mz_FI Z (Z 24 p) (Z 40 p) a (mz_ro X')) (h0 : mz_FL F0 (mz_ro X'))
    (hK : ∀ X'' o9 o10, mz_X4 X0 X'' → mz_FI Z (Z 24 p) (Z 40 p) a (mz_ro X'') → mz_FL (mz_ro X') (mz_ro X'') → (∀ y, mj_arc Z (Z 24 p) (Z 40 p) l f y → (mz_ro X'' y).toInt ≤ (F0 f).toInt + mj_sp Z l) → mj_W 1 93 2 60 [some (.ref 0), some (.ref 1), some (.ref 4), some (.int (nI p)), some (.int x4), some (.int x5), some (.int x6), some (.int (nI l)), some (.int (x8 + 1)), o9, o10] [] (mz Z X'') 0 K) : ∀ o9 o10, mj_W 1 93 2 60 [some (.ref 0), some (.ref 1), some (.ref 4), some (.int (nI p)), some (.int x4), some (.int x5), some (.int x6), some (.int (nI l)), some (.int x8), o9, o10] [] (mz Z X') 0 K := by
  intro o9 o10
  have hl5 := mz_l5 hB hl
  have hR : mj_nr Z ≤ 6 := hB.1
  have f6 : f < 6 := by omega
  have main : mj_W 1 93 2 89 [some (.ref 0), some (.ref 1), some (.ref 4), some (.int (nI p)), some (.int x4), some (.int x5), some (.int x6), some (.int (nI l)), some (.int x8), some (.int (nI f)), o10] [.int (mj_rb Z (Z 24 p) (Z 40 p) l (nI f))] (mz Z X') 0 K := by
    by_cases q : mj_rb Z (Z 24 p) (Z 40 p) l (nI f) = -1
    · rw [q]
      refine t93_89 ⟨fun _ => hK X' _ _ hX hF (fun b _ => Int.le_refl _) (fun y hA => ?_), fun z => absurd (by decide) z⟩
      have := hA.1
      rw [q] at this
      exact absurd this.symm (mj_nI_m1 (by have := hA.2.2; omega))
    · have hA := mj_arc_of h.1 hl q
      obtain ⟨e1, e2⟩ := mj_vin ((mj_rb_in h.1 hl (nI f) (c := Z 24 p) (k := Z 40 p)).resolve_left q).1
      rw [nI_clamp (by omega)] at hA
      obtain ⟨y, hy⟩ : ∃ y, y = (mj_rb Z (Z 24 p) (Z 40 p) l (nI f)).toNatClampNeg := ⟨_, rfl⟩
      rw [← hy] at e1 e2 hA
      rw [e1]
      have y6 : y < 6 := by omega
      obtain ⟨s1, s2, s3⟩ := mz_12 h hl
      have uniq : ∀ y', mj_arc Z (Z 24 p) (Z 40 p) l f y' → y' = y := fun y' hA' => (nI_eq (by have := hA'.2.2; omega) (by omega)).mp (hA'.1.symm.trans hA.1)
      refine t93_89 ⟨fun z => absurd z (nI_pos (by omega)), fun _ => ⟨(mz_i6 f6).2, ?_⟩⟩
      rw [(mz_i6 f6).1, (mz_i6 y6).1]
      simp only [mz_rL0 hl5, mz_wL0 hl5, eq_true (mz_vL0 hl5), mz_rL1 hl5, mz_wL1 hl5, eq_true (mz_vL1 hl5), mz_rL2 hl5, mz_wL2 hl5, eq_true (mz_vL2 hl5), mz_rL3 hl5, mz_wL3 hl5, eq_true (mz_vL3 hl5), mz_rL4 hl5, mz_wL4 hl5, eq_true (mz_vL4 hl5), mz_rL5 hl5, mz_wL5 hl5, eq_true (mz_vL5 hl5), mz_rL6 hl5, mz_wL6 hl5, eq_true (mz_vL6 hl5), mz_rL7 hl5, mz_wL7 hl5, eq_true (mz_vL7 hl5), mz_rL8 hl5, mz_wL8 hl5, eq_true (mz_vL8 hl5), mz_rL9 hl5, mz_wL9 hl5, eq_true (mz_vL9 hl5), mz_rL10 hl5, mz_wL10 hl5, eq_true (mz_vL10 hl5), true_and]
      rw [mz_rX (by omega), mz_rX (by omega)]
      refine ⟨(mz_i6 y6).2, fun z => ?_, fun z => ?_⟩
      · refine hK X' _ _ hX hF (fun b _ => Int.le_refl _) (fun y' hA' => ?_)
        rw [uniq y' hA']
        have r0 := hF.1 f f6
        have l0 := h0 f f6
        have z' : mz_ro X' y ≤ mz_ro X' f + Z 12 l := z
        rw [mj_le, fb_addI (by omega) (by omega), s1] at z'
        omega
      · have z' : ¬ mz_ro X' y ≤ mz_ro X' f + Z 12 l := z
        obtain ⟨g1, g2, g3⟩ := mz_relax h hR hF hl hA z'
        have l0 := h0 f f6
        rw [mz_uX (by omega)]
        refine hK _ _ _ (mz_X4_u hX) ?_ ?_ (fun y' hA' => ?_)
        · rw [mz_ro_u]; exact g1
        · rw [mz_ro_u]; exact g2
        · rw [uniq y' hA', mz_ro_u]
          unfold upd
          rw [if_pos rfl]
          show (mz_ro X' f + Z 12 l).toInt ≤ _
          rw [g3]
          omega
  rcases hz with ⟨rfl, e⟩ | ⟨rfl, e⟩
  · refine t93_60 ⟨fun z => absurd z (by decide), fun _ => ?_⟩
    simp only [mz_rL0 hl5, mz_wL0 hl5, eq_true (mz_vL0 hl5), mz_rL1 hl5, mz_wL1 hl5, eq_true (mz_vL1 hl5), mz_rL2 hl5, mz_wL2 hl5, eq_true (mz_vL2 hl5), mz_rL3 hl5, mz_wL3 hl5, eq_true (mz_vL3 hl5), mz_rL4 hl5, mz_wL4 hl5, eq_true (mz_vL4 hl5), mz_rL5 hl5, mz_wL5 hl5, eq_true (mz_vL5 hl5), mz_rL6 hl5, mz_wL6 hl5, eq_true (mz_vL6 hl5), mz_rL7 hl5, mz_wL7 hl5, eq_true (mz_vL7 hl5), mz_rL8 hl5, mz_wL8 hl5, eq_true (mz_vL8 hl5), mz_rL9 hl5, mz_wL9 hl5, eq_true (mz_vL9 hl5), mz_rL10 hl5, mz_wL10 hl5, eq_true (mz_vL10 hl5), true_and]
    rw [e]
    exact sp92 h hB hl hp hk main
  · refine t93_60 ⟨fun z => absurd z (by decide), fun _ => ?_⟩
    simp only [mz_rL0 hl5, mz_wL0 hl5, eq_true (mz_vL0 hl5), mz_rL1 hl5, mz_wL1 hl5, eq_true (mz_vL1 hl5), mz_rL2 hl5, mz_wL2 hl5, eq_true (mz_vL2 hl5), mz_rL3 hl5, mz_wL3 hl5, eq_true (mz_vL3 hl5), mz_rL4 hl5, mz_wL4 hl5, eq_true (mz_vL4 hl5), mz_rL5 hl5, mz_wL5 hl5, eq_true (mz_vL5 hl5), mz_rL6 hl5, mz_wL6 hl5, eq_true (mz_vL6 hl5), mz_rL7 hl5, mz_wL7 hl5, eq_true (mz_vL7 hl5), mz_rL8 hl5, mz_wL8 hl5, eq_true (mz_vL8 hl5), mz_rL9 hl5, mz_wL9 hl5, eq_true (mz_vL9 hl5), mz_rL10 hl5, mz_wL10 hl5, eq_true (mz_vL10 hl5), true_and]
    rw [e]
    exact sp92 h hB hl hp hk main
/-- a round -/
theorem mz_round {X0 : mj_M} {F0 : Nat → Int32} (h : mj_S Z) (hB : mz_B Z) (hp : p < mj_np Z) (hk : mj_bit (Z 40 p)) {x4 x5 x6 : Int32} (hK : ∀ X'' o8 o9 o10, mz_X4 X0 X'' → mz_FI Z (Z 24 p) (Z 40 p) a (mz_ro X'') → mz_FL F0 (mz_ro X'') → mz_FR Z (Z 24 p) (Z 40 p) F0 (mz_ro X'') (mj_nl Z) → mj_W 1 93 2 39 [some (.ref 0), some (.ref 1), some (.ref 4), some (.int (nI p)), some (.int x4), some (.int x5), some (.int (x6 + 1)), some (.int (nI (mj_nl Z))), o8, o9, o10] [] (mz Z X'') 0 K) : ∀ (l : Nat), l ≤ mj_nl Z → ∀ X' o8 o9 o10, mz_X4 X0 X' → mz_FI Z (Z 24 p) (Z 40 p) a (mz_ro X') → mz_FL F0 (mz_ro X') → mz_FR Z (Z 24 p) (Z 40 p) F0 (mz_ro X') l → mj_W 1 93 2 49 [some (.ref 0), some (.ref 1), some (.ref 4), some (.int (nI p)), some (.int x4), some (.int x5), some (.int x6), some (.int (nI l)), o8, o9, o10] [] (mz Z X') 0 K := by
  have hR : mj_nr Z ≤ 6 := hB.1
  intro l hl
  obtain ⟨d, hd⟩ : ∃ d, d = mj_nl Z - l := ⟨_, rfl⟩
  induction d generalizing l with
  | zero =>
    intro X' o8 o9 o10 hX hF h0 hr
    have e : l = mj_nl Z := by omega
    subst e
    exact t93_49 ⟨fun _ => hK X' _ _ _ hX hF h0 hr, fun c => absurd (mj_lle h rfl) c⟩
  | succ d ih =>
    intro X' o8 o9 o10 hX hF h0 hr
    have hl2 : l < mj_nl Z := by omega
    obtain ⟨v1, v2, -⟩ := h.1.2.2 l hl2
    obtain ⟨f, ef, hf, -⟩ := mz_rm h v1
    obtain ⟨t, et, ht, -⟩ := mz_rm h v2
    refine t93_49 ⟨fun c => absurd c (mj_lls h hl2), fun _ => ?_⟩
    refine mz_end (F0 := F0) h hB hl2 hp hk hf (Or.inl ⟨rfl, ef⟩) hX hF h0 (fun X1 o9 o10 x1 x2 x3 x4 => ?_) _ _
    have h01 : mz_FL F0 (mz_ro X1) := fun b hb => Int.le_trans (x3 b hb) (h0 b hb)
    rw [show (1 : Int32) + 1 = 2 by decide]
    refine mz_end (F0 := F0) h hB hl2 hp hk ht (Or.inr ⟨rfl, et⟩) x1 x2 h01 (fun X2 o9 o10 y1 y2 y3 y4 => ?_) _ _
    rw [show (2 : Int32) + 1 = 3 by decide]
    refine t93_60 ⟨fun _ => ?_, fun z => absurd (by decide) z⟩
    rw [nI_1]
    refine ih (l + 1) (by omega) (by omega) X2 _ _ _ y1 y2 (fun b hb => Int.le_trans (y3 b hb) (h01 b hb)) (fun j hj x y hA => ?_)
    by_cases e : j = l
    · subst e
      have hx6 : x < 6 := by have := hA.2.1; omega
      have hne : ¬ mj_rb Z (Z 24 p) (Z 40 p) j (nI x) = -1 := by
        rw [hA.1]
        exact mj_nI_m1 (by have := hA.2.2; omega)
      rcases mz_rb_end h hl2 hne with q | q
      · rw [ef, nI_eq (by omega) (by omega)] at q
        subst q
        have := x4 y hA
        have := y3 y (by have := hA.2.2; omega)
        omega
      · rw [et, nI_eq (by omega) (by omega)] at q
        subst q
        exact y4 y hA
    · have q1 := mz_FR_le hR hr x3
      have q2 := mz_FR_le hR q1 y3
      exact q2 j (by omega) x y hA
theorem mz_rounds {X0 : mj_M} (h : mj_S Z) (hB : mz_B Z) (hp : p < mj_np Z) (hk : mj_bit (Z 40 p)) {x4 : Int32} {g : Nat} (hg : g < mj_nr Z) (hK : ∀ X'', mz_X4 X0 X'' → K 0 (mj_dv Z (Z 24 p) (Z 40 p) a g) (mz Z X'')) : ∀ (j : Nat), j ≤ 6 → ∀ X' o7 o8 o9 o10, mz_X4 X0 X' → mz_FI Z (Z 24 p) (Z 40 p) a (mz_ro X') → mz_FG Z (Z 24 p) (Z 40 p) a j (mz_ro X') → mj_W 1 93 2 39 [some (.ref 0), some (.ref 1), some (.ref 4), some (.int (nI p)), some (.int x4), some (.int (nI g)), some (.int (nI j)), o7, o8, o9, o10] [] (mz Z X') 0 K := by
  have hR : mj_nr Z ≤ 6 := hB.1
  intro j hj
  obtain ⟨d, hd⟩ : ∃ d, d = 6 - j := ⟨_, rfl⟩
  induction d generalizing j with
  | zero =>
    intro X' o7 o8 o9 o10 hX hF hG
    have e : j = 6 := by omega
    subst e
    have g6 : g < 6 := by omega
    obtain ⟨e1, e2⟩ := mz_FG_end h hR hF hG hg
    refine t93_39 ⟨fun _ => ⟨(mz_i6 g6).2, ?_⟩, fun c => absurd (by decide) c⟩
    rw [(mz_i6 g6).1, mz_rX (by omega)]
    refine ⟨fun z => t93_188 ?_, fun z => t93_188 ?_⟩
    · rw [e2 z]; exact hK X' hX
    · have := e1 z
      show K 0 (mz_ro X' g) (mz Z X')
      rw [this]; exact hK X' hX
  | succ d ih =>
    intro X' o7 o8 o9 o10 hX hF hG
    refine t93_39 ⟨fun c => absurd c ?_, fun _ => ?_⟩
    · exact nI_ge (show j < 6 by omega) (by decide)
    · refine mz_round (F0 := mz_ro X') (X0 := X0) h hB hp hk (fun X2 o8 o9 o10 y1 y2 y3 y4 => ?_) 0 (Nat.zero_le _) X' _ _ _ hX hF (fun b _ => Int.le_refl _) (fun j hj => absurd hj (Nat.not_lt_zero j))
      rw [nI_1]
      exact ih (j + 1) (by omega) (by omega) X2 _ _ _ _ y1 y2 (mz_FG_s hR hG y4 y3)
theorem sp93 (h : mj_S Z) (hB : mz_B Z) (hp : p < mj_np Z) (hk : mj_bit (Z 40 p)) (ha : a < mj_nr Z) {g : Nat} (hg : g < mj_nr Z) (hK : ∀ X', mz_X4 X X' → K 0 (mj_dv Z (Z 24 p) (Z 40 p) a g) (mz Z X')) : mj_Cm 93 2 [.ref 0, .ref 1, .ref 4, .int (nI p), .int (nI a), .int (nI g)] (mz Z X) K := by
  have hR : mj_nr Z ≤ 6 := hB.1
  refine e93 ?_
  have i0 : (0 : Int32).toInt = 0 := by decide
  have i9 : (99 : Int32).toInt = 99 := by decide
  have key : ∀ (k : Nat), k ≤ 6 → ∀ X' o7 o8 o9 o10, mz_X4 X X' → (∀ b, b < k → mz_ro X' b = if b = a then 0 else 99) → mj_W 1 93 2 3 [some (.ref 0), some (.ref 1), some (.ref 4), some (.int (nI p)), some (.int (nI a)), some (.int (nI g)), some (.int (nI k)), o7, o8, o9, o10] [] (mz Z X') 0 K := by
    intro k hk6
    obtain ⟨d, hd⟩ : ∃ d, d = 6 - k := ⟨_, rfl⟩
    induction d generalizing k with
    | zero =>
      intro X' o7 o8 o9 o10 hX hv
      have e : k = 6 := by omega
      subst e
      refine t93_3 ⟨fun _ => ?_, fun c => absurd (by decide) c⟩
      refine mz_rounds (X0 := X) h hB hp hk hg hK 0 (by omega) X' _ _ _ _ hX ⟨fun b hb => ?_, ?_, fun b hb hlt => ?_⟩ (fun e he b m hb hw => ?_)
      · rw [hv b hb]
        split
        · rw [i0]; omega
        · rw [i9]; omega
      · rw [hv a (by omega), if_pos rfl, i0]
        exact Int.le_refl _
      · rw [hv b hb] at hlt ⊢
        by_cases e : b = a
        · rw [if_pos e, i0, e]
          exact mj_re_0
        · rw [if_neg e, i9] at hlt
          omega
      · have e0 : e = 0 := by omega
        subst e0
        obtain ⟨rfl, rfl⟩ := hw
        rw [hv a hb, if_pos rfl, i0]
        exact Int.le_refl _
    | succ d ih =>
      intro X' o7 o8 o9 o10 hX hv
      have hk6' : k < 6 := by omega
      have step : ∀ v : Int32, v = (if k = a then 0 else 99) → mj_W 1 93 2 29 [some (.ref 0), some (.ref 1), some (.ref 4), some (.int (nI p)), some (.int (nI a)), some (.int (nI g)), some (.int (nI k)), o7, o8, o9, o10] [.int v, .int (6 + nI k), .ref 4] (mz Z X') 0 K := by
        intro v hvv
        refine t93_29 ⟨(mz_i6 hk6').2, ?_⟩
        rw [(mz_i6 hk6').1, mz_uX (by omega), nI_1]
        refine ih (k + 1) (by omega) (by omega) _ _ _ _ _ (mz_X4_u hX) (fun b hb => ?_)
        rw [mz_ro_u]
        unfold upd
        by_cases e : b = k
        · rw [if_pos e, hvv, e]
        · rw [if_neg e]
          exact hv b (by omega)
      refine t93_3 ⟨fun c => absurd c (nI_ge hk6' (by decide)), fun _ => ⟨fun c => step 99 ?_, fun c => step 0 ?_⟩⟩
      · rw [if_neg (fun z => c (by rw [z]))]
      · rw [if_pos ((nI_eq (by omega) (by omega)).mp c)]
  exact key 0 (Nat.zero_le _) X _ _ _ _ (fun _ _ => rfl) (fun b hb => absurd hb (Nat.not_lt_zero b))
theorem mz_dv1 (h : mj_S Z) {g : Nat} : (mj_di Z c k a g ≤ 50 ∧ mj_dv Z c k a g = nI (mj_di Z c k a g)) ∨ (1000 ≤ mj_di Z c k a g ∧ mj_dv Z c k a g = -1) := by
  unfold mj_dv
  rcases mj_D_cases h.1 (c := c) (k := k) a g with z | z
  · exact Or.inl ⟨z, by rw [if_pos (by omega)]⟩
  · exact Or.inr ⟨by omega, by rw [if_neg (by omega)]⟩
theorem sp94 (h : mj_S Z) (hB : mz_B Z) (hD : mj_Da Z) (hp : p < mj_np Z) (hK : ∀ X', mz_X4 X X' → K 0 (mj_nl1 Z p) (mz Z X')) : mj_Cm 94 3 [.ref 0, .ref 1, .ref 4, .int (nI p)] (mz Z X) K := by
  have hp8 := mz_p8 hB hp
  obtain ⟨-, v22, hk, -⟩ := hD p hp
  obtain ⟨a, ea, ha, ca⟩ := mz_rm h v22
  obtain ⟨g, eg, hg, cg⟩ := mz_rm h (h.2.2.2.1 p hp).1
  have hR : mj_nr Z ≤ 6 := hB.1
  unfold mj_nl1 at hK
  rw [ca, cg] at hK
  refine e94 ?_
  simp only [mz_rP0 hp8, mz_wP0 hp8, eq_true (mz_vP0 hp8), mz_rP1 hp8, mz_wP1 hp8, eq_true (mz_vP1 hp8), mz_rP2 hp8, mz_wP2 hp8, eq_true (mz_vP2 hp8), mz_rP3 hp8, mz_wP3 hp8, eq_true (mz_vP3 hp8), mz_rP4 hp8, mz_wP4 hp8, eq_true (mz_vP4 hp8), mz_rP5 hp8, mz_wP5 hp8, eq_true (mz_vP5 hp8), mz_rP6 hp8, mz_wP6 hp8, eq_true (mz_vP6 hp8), mz_rP7 hp8, mz_wP7 hp8, eq_true (mz_vP7 hp8), true_and]
  rw [ea, eg]
  refine sp93 h hB hp hk ha hg (fun X1 hX1 => ?_)
  refine t94_29 ?_
  simp only [mz_rP0 hp8, mz_wP0 hp8, eq_true (mz_vP0 hp8), mz_rP1 hp8, mz_wP1 hp8, eq_true (mz_vP1 hp8), mz_rP2 hp8, mz_wP2 hp8, eq_true (mz_vP2 hp8), mz_rP3 hp8, mz_wP3 hp8, eq_true (mz_vP3 hp8), mz_rP4 hp8, mz_wP4 hp8, eq_true (mz_vP4 hp8), mz_rP5 hp8, mz_wP5 hp8, eq_true (mz_vP5 hp8), mz_rP6 hp8, mz_wP6 hp8, eq_true (mz_vP6 hp8), mz_rP7 hp8, mz_wP7 hp8, eq_true (mz_vP7 hp8), true_and]
  refine ⟨fun c => ?_, fun c => ?_⟩
  · have := hK X1 hX1
    rw [if_neg c] at this
    exact this
  · have hK' : ∀ X', mz_X4 X X' → K 0 (mj_nx Z (Z 24 p) (Z 40 p) a g) (mz Z X') := fun X' hX' => by
      have := hK X' hX'
      rw [if_pos c] at this
      exact this
    have i1 : (1 : Int32).toInt = 1 := by decide
    refine ⟨fun c2 => ?_, fun c2 => ?_⟩
    · rcases mz_dv1 h (c := Z 24 p) (k := Z 40 p) (a := a) (g := g) with ⟨d1, d2⟩ | ⟨d1, d2⟩
      · -- there is a way
        have key : ∀ (l : Nat), l ≤ mj_nl Z → ∀ X' o8 o9, mz_X4 X X' → (∀ j, j < l → ¬ mj_nP Z (Z 24 p) (Z 40 p) a g j) → mj_W 1 94 3 53 [some (.ref 0), some (.ref 1), some (.ref 4), some (.int (nI p)), some (.int (nI a)), some (.int (nI g)), some (.int (nI (mj_di Z (Z 24 p) (Z 40 p) a g))), some (.int (nI l)), o8, o9] [] (mz Z X') 0 K := by
          intro l hl
          obtain ⟨d, hd⟩ : ∃ d, d = mj_nl Z - l := ⟨_, rfl⟩
          induction d generalizing l with
          | zero =>
            intro X' o8 o9 hX hno
            have e : l = mj_nl Z := by omega
            subst e
            refine t94_53 ⟨fun _ => ?_, fun c => absurd (mj_lle h rfl) c⟩
            have := hK' X' hX
            rw [(mj_nx_none h.1).mpr hno] at this
            exact this
          | succ d ih =>
            intro X' o8 o9 hX hno
            have hl2 : l < mj_nl Z := by omega
            have hl5 := mz_l5 hB hl2
            have nxt : ¬ mj_nP Z (Z 24 p) (Z 40 p) a g l → ∀ X' o8 o9, mz_X4 X X' → mj_W 1 94 3 53 [some (.ref 0), some (.ref 1), some (.ref 4), some (.int (nI p)), some (.int (nI a)), some (.int (nI g)), some (.int (nI (mj_di Z (Z 24 p) (Z 40 p) a g))), some (.int (nI l + 1)), o8, o9] [] (mz Z X') 0 K := by
              intro hn X' o8 o9 hX'
              rw [nI_1]
              refine ih (l + 1) (by omega) (by omega) X' _ _ hX' (fun j hj => ?_)
              by_cases e : j = l
              · rw [e]; exact hn
              · exact hno j (by omega)
            refine t94_53 ⟨fun c => absurd c (mj_lls h hl2), fun _ => ?_⟩
            refine sp92 h hB hl2 hp hk ?_
            by_cases q : mj_rb Z (Z 24 p) (Z 40 p) l (nI a) = -1
            · rw [q]
              refine t94_72 ⟨fun z => absurd z (by decide), fun _ => nxt (fun z => z.1 q) X' _ _ hX⟩
            · obtain ⟨e1, e2⟩ := mj_vin ((mj_rb_in h.1 hl2 (nI a) (c := Z 24 p) (k := Z 40 p)).resolve_left q).1
              obtain ⟨y, hy⟩ : ∃ y, y = (mj_rb Z (Z 24 p) (Z 40 p) l (nI a)).toNatClampNeg := ⟨_, rfl⟩
              rw [← hy] at e1 e2
              rw [e1]
              obtain ⟨s1, s2, s3⟩ := mz_12 h hl2
              refine t94_72 ⟨fun _ => ?_, fun z => absurd (nI_pos' (by omega)) z⟩
              refine sp93 h hB hp hk e2 hg (fun X2 hX2 => ?_)
              have hX3 : mz_X4 X X2 := fun c hc => by rw [hX2 c hc]; exact hX c hc
              rcases mz_dv1 h (c := Z 24 p) (k := Z 40 p) (a := y) (g := g) with ⟨f1, f2⟩ | ⟨f1, f2⟩
              · rw [f2]
                refine t94_94 ⟨fun z => absurd z (nI_pos (by omega)), fun _ => ?_⟩
                simp only [mz_rL0 hl5, mz_wL0 hl5, eq_true (mz_vL0 hl5), mz_rL1 hl5, mz_wL1 hl5, eq_true (mz_vL1 hl5), mz_rL2 hl5, mz_wL2 hl5, eq_true (mz_vL2 hl5), mz_rL3 hl5, mz_wL3 hl5, eq_true (mz_vL3 hl5), mz_rL4 hl5, mz_wL4 hl5, eq_true (mz_vL4 hl5), mz_rL5 hl5, mz_wL5 hl5, eq_true (mz_vL5 hl5), mz_rL6 hl5, mz_wL6 hl5, eq_true (mz_vL6 hl5), mz_rL7 hl5, mz_wL7 hl5, eq_true (mz_vL7 hl5), mz_rL8 hl5, mz_wL8 hl5, eq_true (mz_vL8 hl5), mz_rL9 hl5, mz_wL9 hl5, eq_true (mz_vL9 hl5), mz_rL10 hl5, mz_wL10 hl5, eq_true (mz_vL10 hl5), true_and]
                have hs : nI (mj_di Z (Z 24 p) (Z 40 p) y g) + Z 12 l = nI (mj_di Z (Z 24 p) (Z 40 p) y g + mj_sp Z l) := by
                  rw [← nI_add]
                  congr 1
                  rw [mj_eq, s1, nI_toInt (by omega)]
                rw [hs, nI_eq (by omega) (by omega)]
                refine ⟨fun z => nxt (fun w => z ?_) X2 _ _ hX3, fun z => ?_⟩
                · have := w.2.2
                  rw [← hy] at this
                  exact this
                · have hP : mj_nP Z (Z 24 p) (Z 40 p) a g l := ⟨q, by omega, by rw [← hy]; exact z⟩
                  have := hK' X2 hX3
                  rw [mj_nx_is h.1 hl2 hP hno] at this
                  exact this
              · rw [f2]
                refine t94_94 ⟨fun _ => nxt (fun w => ?_) X2 _ _ hX3, fun z => absurd (by decide) z⟩
                have := w.2.2
                rw [← hy] at this
                omega
        rw [d2]
        exact key 0 (Nat.zero_le _) X1 _ _ hX1 (fun j hj => absurd hj (Nat.not_lt_zero j))
      · rw [d2] at c2
        exact absurd c2 (by decide)
    · -- no way, or there already
      have hno : mj_nx Z (Z 24 p) (Z 40 p) a g = -1 := by
        rw [mj_nx_none h.1]
        rintro l hl ⟨n1, n2, n3⟩
        have s := mj_sp15 h.1 l hl
        rcases mz_dv1 h (c := Z 24 p) (k := Z 40 p) (a := a) (g := g) with ⟨d1, d2⟩ | ⟨d1, d2⟩
        · rw [d2, mj_le, i1, nI_toInt (by omega)] at c2
          omega
        · omega
      have := hK' X1 hX1
      rw [hno] at this
      exact this
end LWC
