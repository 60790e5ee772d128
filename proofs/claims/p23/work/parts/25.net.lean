-- the links as a walker sees them: c with a chair, k who knows the place
abbrev mj_opn (Z : mj_M) (k : Int32) (l : Nat) : Prop := (k = 0 ∧ Z 17 l = 0) ∨ (¬ k = 0 ∧ Z 16 l = 0)
abbrev mj_car (Z : mj_M) (c : Int32) (l : Nat) : Prop := c = 0 ∨ Z 9 l = 0 ∨ Z 9 l = 2 ∨ Z 9 l = 4
abbrev mj_fwd (Z : mj_M) (l : Nat) : Prop := ¬ Z 9 l = 3 ∨ ¬ Z 19 l = 0 ∨ Z 18 l = 0
abbrev mj_bwd (Z : mj_M) (l : Nat) : Prop := (¬ Z 9 l = 3 ∧ (¬ Z 9 l = 4 ∨ ¬ Z 8 1 = 0)) ∨ (Z 9 l = 3 ∧ (¬ Z 19 l = 0 ∨ ¬ Z 18 l = 0))
def mj_beh (Z : mj_M) (l : Nat) (a : Int32) : Int32 := if a = Z 10 l ∧ mj_fwd Z l then Z 11 l else if a = Z 11 l ∧ mj_bwd Z l then Z 10 l else -1
def mj_rb (Z : mj_M) (c k : Int32) (l : Nat) (a : Int32) : Int32 := if mj_opn Z k l ∧ mj_car Z c l then mj_beh Z l a else -1
def mj_nr (Z : mj_M) : Nat := (Z 1 0).toNatClampNeg
def mj_nl (Z : mj_M) : Nat := (Z 8 0).toNatClampNeg
def mj_np (Z : mj_M) : Nat := (Z 20 0).toNatClampNeg
def mj_nt (Z : mj_M) : Nat := (Z 28 0).toNatClampNeg
def mj_bit (x : Int32) : Prop := x = 0 ∨ x = 1
/-- rooms and links are as the calls make them -/
def mj_In (Z : mj_M) : Prop := (0 ≤ (Z 1 0).toInt ∧ (Z 1 0).toInt ≤ 10) ∧ (0 ≤ (Z 8 0).toInt ∧ (Z 8 0).toInt ≤ 14) ∧ ∀ l, l < mj_nl Z → vp_in (Z 10 l) (mj_nr Z) ∧ vp_in (Z 11 l) (mj_nr Z) ∧ ¬ Z 10 l = Z 11 l ∧ 1 ≤ (Z 12 l).toInt ∧ (Z 12 l).toInt ≤ 5
def mj_arc (Z : mj_M) (c k : Int32) (l a b : Nat) : Prop := mj_rb Z c k l (nI a) = nI b ∧ a < mj_nr Z ∧ b < mj_nr Z
def mj_sp (Z : mj_M) (l : Nat) : Nat := (Z 12 l).toNatClampNeg
noncomputable def mj_di (Z : mj_M) (c k : Int32) (a g : Nat) : Nat := mj_ds (mj_nl Z) (mj_arc Z c k) (mj_sp Z) a g
def mj_nP (Z : mj_M) (c k : Int32) (a g l : Nat) : Prop := ¬ mj_rb Z c k l (nI a) = -1 ∧ mj_di Z c k a g < 1000 ∧ mj_di Z c k (mj_rb Z c k l (nI a)).toNatClampNeg g + mj_sp Z l = mj_di Z c k a g
/-- the next link -/
noncomputable def mj_nx (Z : mj_M) (c k : Int32) (a g : Nat) : Int32 := mj_ff (fun l => @decide (mj_nP Z c k a g l) (Classical.propDecidable _)) (mj_nl Z)
section NET
variable {Z : mj_M} {c k : Int32} {l a b g : Nat}
theorem mj_toN {x : Int32} (h : 0 ≤ x.toInt) : x = nI x.toNatClampNeg := by
  rw [mj_eq, mj_clN, nI_toInt]
  · omega
  · have := fb_x x
    omega
where fb_x (x : Int32) : x.toInt < 2147483648 := x.toInt_lt
theorem mj_nrle (h : mj_In Z) : mj_nr Z ≤ 10 := by
  have := h.1
  unfold mj_nr; rw [mj_clN]; omega
theorem mj_nlle (h : mj_In Z) : mj_nl Z ≤ 14 := by
  have := h.2.1
  unfold mj_nl; rw [mj_clN]; omega
theorem mj_vin {x : Int32} {n : Nat} (h : vp_in x n) : x = nI x.toNatClampNeg ∧ x.toNatClampNeg < n := ⟨mj_toN (mj_vi.mp h).1, mj_xlt h⟩
theorem mj_vN {j n : Nat} (h : j < n) (hn : n < 2 ^ 31) : vp_in (nI j) n := vp_in_nI h hn
theorem mj_vmono {x : Int32} {n m : Nat} (h : vp_in x n) (hm : n ≤ m) : vp_in x m := by
  rw [mj_vi] at h ⊢; omega
/-- what a link leads to is a room -/
theorem mj_rb_in (h : mj_In Z) (hl : l < mj_nl Z) (x : Int32) : mj_rb Z c k l x = -1 ∨ (vp_in (mj_rb Z c k l x) (mj_nr Z) ∧ vp_in x (mj_nr Z)) := by
  obtain ⟨h1, h2, -⟩ := h.2.2 l hl
  unfold mj_rb
  split
  · unfold mj_beh
    split
    · rename_i q; exact Or.inr ⟨h2, by rw [q.1]; exact h1⟩
    · split
      · rename_i q; exact Or.inr ⟨h1, by rw [q.1]; exact h2⟩
      · exact Or.inl rfl
  · exact Or.inl rfl
theorem mj_m1_in {n : Nat} {x : Int32} (h : vp_in x n) : ¬ x = -1 := by
  rintro rfl
  rw [mj_vi] at h
  exact absurd h.1 (by decide)
theorem mj_arc_of (h : mj_In Z) (hl : l < mj_nl Z) {x : Int32} (hne : ¬ mj_rb Z c k l x = -1) : mj_arc Z c k l x.toNatClampNeg (mj_rb Z c k l x).toNatClampNeg := by
  rcases mj_rb_in h hl x (c := c) (k := k) with q | ⟨q1, q2⟩
  · exact absurd q hne
  · obtain ⟨e1, e2⟩ := mj_vin q1
    obtain ⟨e3, e4⟩ := mj_vin q2
    exact ⟨by rw [← e3, ← e1], e4, e2⟩
theorem mj_arc_b (hR : mj_nr Z ≤ 10) (h : mj_arc Z c k l a b) : ¬ mj_rb Z c k l (nI a) = -1 ∧ (mj_rb Z c k l (nI a)).toNatClampNeg = b := by
  obtain ⟨h1, h2, h3⟩ := h
  rw [h1]
  exact ⟨mj_nI_m1 (by omega), nI_clamp (by omega)⟩
theorem mj_arc_R : ∀ l a b, l < mj_nl Z → mj_arc Z c k l a b → a < mj_nr Z ∧ b < mj_nr Z := fun _ _ _ _ h => h.2
theorem mj_sp15 (h : mj_In Z) : ∀ l, l < mj_nl Z → 1 ≤ mj_sp Z l ∧ mj_sp Z l ≤ 5 := by
  intro l hl
  obtain ⟨-, -, -, h3, h4⟩ := h.2.2 l hl
  unfold mj_sp
  rw [mj_clN]
  omega
theorem mj_D_iff (h : mj_In Z) : (∃ m, mj_re (mj_nl Z) (mj_arc Z c k) (mj_sp Z) g m a) ↔ mj_di Z c k a g < 1000 := mj_ds_iff (R := mj_nr Z) (fun l a b hl hA => (mj_arc_R l a b hl hA).2) (mj_sp15 h) (mj_nrle h)
theorem mj_D_cases (h : mj_In Z) (a g : Nat) : mj_di Z c k a g ≤ 50 ∨ mj_di Z c k a g = 1000000 := by
  by_cases q : ∃ m, mj_re (mj_nl Z) (mj_arc Z c k) (mj_sp Z) g m a
  · exact Or.inl (mj_ds_50 (R := mj_nr Z) (fun l a b hl hA => (mj_arc_R l a b hl hA).2) (mj_sp15 h) (mj_nrle h) q)
  · exact Or.inr (mj_ds_neg q)
/-- a table of numbers v that keeps to the links, sound, capped by F, holds the distances -/
theorem mj_D_uniq (h : mj_In Z) {v : Nat → Int} {F : Int} (hF1 : 51 ≤ F) (h0 : v g ≤ 0) (htri : ∀ l a b, l < mj_nl Z → mj_arc Z c k l a b → v a ≤ v b + mj_sp Z l) (hs : ∀ a, a < mj_nr Z → v a < F → ∃ m : Nat, v a = m ∧ mj_re (mj_nl Z) (mj_arc Z c k) (mj_sp Z) g m a) (hF : ∀ a, a < mj_nr Z → v a ≤ F) (hg : g < mj_nr Z) {a : Nat} (ha : a < mj_nr Z) : v a = if mj_di Z c k a g < 1000 then (mj_di Z c k a g : Int) else F := by
  have h1 := mj_ds_uniq (R := mj_nr Z) mj_arc_R h0 htri hs hF hg (fun a q => by
    have := mj_ds_50 (A := mj_arc Z c k) (R := mj_nr Z) (fun l a b hl hA => (mj_arc_R l a b hl hA).2) (mj_sp15 h) (mj_nrle h) q
    omega) ha
  rw [h1]
  by_cases q : ∃ m, mj_re (mj_nl Z) (mj_arc Z c k) (mj_sp Z) g m a
  · rw [if_pos q, if_pos ((mj_D_iff h).mp q)]; rfl
  · rw [if_neg q, if_neg (fun z => q ((mj_D_iff h).mpr z))]
theorem mj_re_trans {n : Nat} {A : Nat → Nat → Nat → Prop} {st : Nat → Nat} {v : Nat} : ∀ {m1 a : Nat}, mj_re n A st v m1 a → ∀ {m2 g : Nat}, mj_re n A st g m2 v → mj_re n A st g (m1 + m2) a := by
  intro m1 a h
  obtain ⟨e, he⟩ := h
  induction e generalizing m1 a with
  | zero =>
    obtain ⟨rfl, rfl⟩ := he
    intro m2 g h2
    rw [Nat.zero_add]; exact h2
  | succ e ih =>
    obtain ⟨l, b, m', hl, hA, hw, rfl⟩ := he
    intro m2 g h2
    have h3 := mj_re_s hl hA (ih hw h2)
    rw [show m' + st l + m2 = m' + m2 + st l by omega]
    exact h3
/-- which link is the next one -/
theorem mj_nx_none (h : mj_In Z) : mj_nx Z c k a g = -1 ↔ ∀ l, l < mj_nl Z → ¬ mj_nP Z c k a g l := by
  unfold mj_nx
  rw [mj_ff_no (by have := mj_nlle h; omega)]
  refine ⟨fun q l hl => @of_decide_eq_false _ (Classical.propDecidable _) (q l hl), fun q l hl => @decide_eq_false _ (Classical.propDecidable _) (q l hl)⟩
theorem mj_nx_some (h : mj_In Z) (hne : ¬ mj_nx Z c k a g = -1) : ∃ l, l < mj_nl Z ∧ mj_nx Z c k a g = nI l ∧ mj_nP Z c k a g l ∧ ∀ j, j < l → ¬ mj_nP Z c k a g j := by
  obtain ⟨l, h1, h2, h3, h4⟩ := mj_ff_yes (by have := mj_nlle h; omega) hne
  exact ⟨l, h1, h2, @of_decide_eq_true _ (Classical.propDecidable _) h3, fun j hj => @of_decide_eq_false _ (Classical.propDecidable _) (h4 j hj)⟩
theorem mj_nx_is (h : mj_In Z) (hl : l < mj_nl Z) (h1 : mj_nP Z c k a g l) (h2 : ∀ j, j < l → ¬ mj_nP Z c k a g j) : mj_nx Z c k a g = nI l := by
  by_cases q : mj_nx Z c k a g = -1
  · exact absurd h1 ((mj_nx_none h).mp q l hl)
  · obtain ⟨l', e1, e2, e3, e4⟩ := mj_nx_some h q
    rcases Nat.lt_trichotomy l l' with z | z | z
    · exact absurd h1 (e4 l z)
    · rw [e2, z]
    · exact absurd e3 (h2 l' z)
end NET
/-- the code's 'roomBehind' -/
theorem mj_f12 {M : mj_M} {x a w c k : Int32} (hx : p7 M x) (hc : mj_bit c) (hk : mj_bit k) (hw : w = c + 2 * k) : f12 M x a w = mj_rb M c k x.toNatClampNeg a := by
  obtain ⟨b1, b2, -⟩ := mj_bits c k hc hk
  have e1 : p13 M x w ↔ mj_opn M k x.toNatClampNeg := by
    unfold p13 mj_opn
    rw [hw, b2]
  have e2 : p14 M x w ↔ mj_car M c x.toNatClampNeg := by
    unfold p14 mj_car
    rw [hw, b1]
  unfold f12 mj_rb
  rw [if_pos hx]
  by_cases q1 : p13 M x w
  · rw [if_pos q1]
    by_cases q2 : p14 M x w
    · rw [if_pos q2, if_pos (show mj_opn M k x.toNatClampNeg ∧ mj_car M c x.toNatClampNeg from ⟨e1.mp q1, e2.mp q2⟩)]
      have e3 : p15 M x ↔ mj_fwd M x.toNatClampNeg := Iff.rfl
      have e4 : p16 M x ↔ mj_bwd M x.toNatClampNeg := Iff.rfl
      unfold mj_beh
      simp only [e3, e4]
      by_cases r1 : a = M 10 x.toNatClampNeg
      · simp only [eq_true r1, true_and, if_true]
        by_cases r2 : mj_fwd M x.toNatClampNeg
        · simp only [eq_true r2, if_true]
        · simp only [eq_false r2, if_false]
          by_cases r3 : a = M 11 x.toNatClampNeg
          · simp only [eq_true r3, true_and, if_true]
          · simp only [eq_false r3, false_and, if_false]
      · simp only [eq_false r1, false_and, if_false]
        by_cases r3 : a = M 11 x.toNatClampNeg
        · simp only [eq_true r3, true_and, if_true]
        · simp only [eq_false r3, false_and, if_false]
    · rw [if_neg q2, if_neg (fun z => q2 (e2.mpr z.2))]
  · rw [if_neg q1, if_neg (fun z => q1 (e1.mpr z.1))]
theorem mj_f35 {M : mj_M} {w a g : Nat} (hw : w < 4) (ha : a < 10) (hg : g < 10) : f35 M (nI w) (nI a) (nI g) = nI ((w * 10 + a) * 10 + g) := by
  unfold f35
  have n4 : (4 : Int32) = nI 4 := rfl
  have n10 : (10 : Int32) = nI 10 := rfl
  rw [if_neg (nI_pos (by omega)), n4, if_neg (nI_ge hw (by omega)), if_neg (nI_pos (by omega)), n10, if_neg (nI_ge ha (by omega)), if_neg (nI_pos (by omega)), if_neg (nI_ge hg (by omega)), pk_mul, nI_add, pk_mul, nI_add]
