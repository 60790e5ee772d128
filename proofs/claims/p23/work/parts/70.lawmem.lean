-- THE LAW'S ROWS p, l, r, t, m AS THE STATE: mz Z X (Z the state of 20, X what else there is)
def mz_lc (f : Nat) : Nat := match f with
  | 0 => 9
  | 1 => 10
  | 2 => 11
  | 3 => 12
  | 4 => 13
  | 5 => 16
  | 6 => 17
  | 7 => 18
  | 8 => 19
  | 9 => 14
  | _ => 15
def mz_m (Z X : mj_M) (i : Nat) : Int32 := if i = 0 then Z 0 5 else if i = 1 then Z 8 1 else if i = 2 then Z 1 0 else if i = 3 then Z 8 0 else if i = 4 then Z 20 0 else if i = 5 then Z 28 0 else X 4 i
def mz (Z X : mj_M) : mj_M := fun c => match c with
  | 0 => fun i => Z (mj_pc (i % 8)) (i / 8)
  | 1 => fun i => Z (mz_lc (i % 11)) (i / 11)
  | 2 => fun i => Z (mj_rc (i % 5)) (i / 5)
  | 3 => fun i => Z (mj_tc (i % 6)) (i / 6)
  | 4 => mz_m Z X
  | c => X c
theorem mz_lc_inj : ∀ f, f < 11 → ∀ g, g < 11 → mz_lc f = mz_lc g → f = g := by decide
theorem mz_lc_r : ∀ f, f < 11 → 9 ≤ mz_lc f ∧ mz_lc f ≤ 19 := by decide
section MZA
variable {Z X : mj_M} {k f : Nat} {v : Int32}
theorem mz_o {c : Nat} (h : 5 ≤ c) : mz Z X c = X c := by
  match c, h with
  | c + 5, _ => rfl
theorem mz_5 : mz Z X 5 = X 5 := rfl
theorem mz_ext {M : mj_M} (h0 : ∀ i, M 0 i = Z (mj_pc (i % 8)) (i / 8)) (h1 : ∀ i, M 1 i = Z (mz_lc (i % 11)) (i / 11)) (h2 : ∀ i, M 2 i = Z (mj_rc (i % 5)) (i / 5)) (h3 : ∀ i, M 3 i = Z (mj_tc (i % 6)) (i / 6)) (h4 : ∀ i, M 4 i = mz_m Z X i) (h5 : ∀ c i, M (c + 5) i = X (c + 5) i) : M = mz Z X := by
  funext c i
  match c with
  | 0 => exact h0 i
  | 1 => exact h1 i
  | 2 => exact h2 i
  | 3 => exact h3 i
  | 4 => exact h4 i
  | c + 5 => exact h5 c i
theorem mz_mZ {Z' : mj_M} (h1 : Z' 0 5 = Z 0 5) (h2 : Z' 8 1 = Z 8 1) (h3 : Z' 1 0 = Z 1 0) (h4 : Z' 8 0 = Z 8 0) (h5 : Z' 20 0 = Z 20 0) (h6 : Z' 28 0 = Z 28 0) (i : Nat) : mz_m Z' X i = mz_m Z X i := by
  unfold mz_m
  rw [h1, h2, h3, h4, h5, h6]
theorem mz_uP (hf : f < 8) : mj_u (mz Z X) 0 (8 * k + f) v = mz (mj_u Z (mj_pc f) k v) X := by
  have hr := mj_pc_r f hf
  refine mz_ext (fun i => ?_) (fun i => ?_) (fun i => ?_) (fun i => ?_) (fun i => ?_) (fun c i => ?_)
  · rw [mj_u_same]
    unfold upd
    rw [mj_u_at]
    by_cases e : i = 8 * k + f
    · subst e
      rw [if_pos rfl, if_pos ⟨by rw [show (8 * k + f) % 8 = f by omega], by omega⟩]
    · rw [if_neg e, if_neg]
      · rfl
      · rintro ⟨e1, e2⟩
        have := mj_pc_inj _ (Nat.mod_lt i (by decide)) _ hf e1
        omega
  · have h2 := mz_lc_r (i % 11) (Nat.mod_lt _ (by decide))
    rw [mj_u_ne _ _ _ (by decide), mj_u_ne _ _ _ (by omega)]; rfl
  · have h2 := mj_rc_r (i % 5) (Nat.mod_lt _ (by decide))
    rw [mj_u_ne _ _ _ (by decide), mj_u_ne _ _ _ (by omega)]; rfl
  · have h2 := mj_tc_r (i % 6) (Nat.mod_lt _ (by decide))
    rw [mj_u_ne _ _ _ (by decide), mj_u_ne _ _ _ (by omega)]; rfl
  · rw [mj_u_ne _ _ _ (by decide)]
    refine (mz_mZ ?_ ?_ ?_ ?_ ?_ ?_ i).symm <;> rw [mj_u_ne _ _ _ (by omega)]
  · rw [mj_u_ne _ _ _ (by omega)]; rfl
theorem mz_uL (hf : f < 11) : mj_u (mz Z X) 1 (11 * k + f) v = mz (mj_u Z (mz_lc f) k v) X := by
  have hr := mz_lc_r f hf
  refine mz_ext (fun i => ?_) (fun i => ?_) (fun i => ?_) (fun i => ?_) (fun i => ?_) (fun c i => ?_)
  · have h2 := mj_pc_r (i % 8) (Nat.mod_lt _ (by decide))
    rw [mj_u_ne _ _ _ (by decide), mj_u_ne _ _ _ (by omega)]; rfl
  · rw [mj_u_same]
    unfold upd
    rw [mj_u_at]
    by_cases e : i = 11 * k + f
    · subst e
      rw [if_pos rfl, if_pos ⟨by rw [show (11 * k + f) % 11 = f by omega], by omega⟩]
    · rw [if_neg e, if_neg]
      · rfl
      · rintro ⟨e1, e2⟩
        have := mz_lc_inj _ (Nat.mod_lt i (by decide)) _ hf e1
        omega
  · have h2 := mj_rc_r (i % 5) (Nat.mod_lt _ (by decide))
    rw [mj_u_ne _ _ _ (by decide), mj_u_ne _ _ _ (by omega)]; rfl
  · have h2 := mj_tc_r (i % 6) (Nat.mod_lt _ (by decide))
    rw [mj_u_ne _ _ _ (by decide), mj_u_ne _ _ _ (by omega)]; rfl
  · rw [mj_u_ne _ _ _ (by decide)]
    refine (mz_mZ ?_ ?_ ?_ ?_ ?_ ?_ i).symm
    · rw [mj_u_ne _ _ _ (by omega)]
    · rw [mj_u_ne _ _ _ (by omega)]
    · rw [mj_u_ne _ _ _ (by omega)]
    · rw [mj_u_ne _ _ _ (by omega)]
    · rw [mj_u_ne _ _ _ (by omega)]
    · rw [mj_u_ne _ _ _ (by omega)]
  · rw [mj_u_ne _ _ _ (by omega)]; rfl
theorem mz_uR (hf : f < 5) : mj_u (mz Z X) 2 (5 * k + f) v = mz (mj_u Z (mj_rc f) k v) X := by
  have hr := mj_rc_r f hf
  refine mz_ext (fun i => ?_) (fun i => ?_) (fun i => ?_) (fun i => ?_) (fun i => ?_) (fun c i => ?_)
  · have h2 := mj_pc_r (i % 8) (Nat.mod_lt _ (by decide))
    rw [mj_u_ne _ _ _ (by decide), mj_u_ne _ _ _ (by omega)]; rfl
  · have h2 := mz_lc_r (i % 11) (Nat.mod_lt _ (by decide))
    rw [mj_u_ne _ _ _ (by decide), mj_u_ne _ _ _ (by omega)]; rfl
  · rw [mj_u_same]
    unfold upd
    rw [mj_u_at]
    by_cases e : i = 5 * k + f
    · subst e
      rw [if_pos rfl, if_pos ⟨by rw [show (5 * k + f) % 5 = f by omega], by omega⟩]
    · rw [if_neg e, if_neg]
      · rfl
      · rintro ⟨e1, e2⟩
        have := mj_rc_inj _ (Nat.mod_lt i (by decide)) _ hf e1
        omega
  · have h2 := mj_tc_r (i % 6) (Nat.mod_lt _ (by decide))
    rw [mj_u_ne _ _ _ (by decide), mj_u_ne _ _ _ (by omega)]; rfl
  · rw [mj_u_ne _ _ _ (by decide)]
    refine (mz_mZ ?_ ?_ ?_ ?_ ?_ ?_ i).symm <;> rw [mj_u_ne _ _ _ (by omega)]
  · rw [mj_u_ne _ _ _ (by omega)]; rfl
theorem mz_uT (hf : f < 6) : mj_u (mz Z X) 3 (6 * k + f) v = mz (mj_u Z (mj_tc f) k v) X := by
  have hr := mj_tc_r f hf
  refine mz_ext (fun i => ?_) (fun i => ?_) (fun i => ?_) (fun i => ?_) (fun i => ?_) (fun c i => ?_)
  · have h2 := mj_pc_r (i % 8) (Nat.mod_lt _ (by decide))
    rw [mj_u_ne _ _ _ (by decide), mj_u_ne _ _ _ (by omega)]; rfl
  · have h2 := mz_lc_r (i % 11) (Nat.mod_lt _ (by decide))
    rw [mj_u_ne _ _ _ (by decide), mj_u_ne _ _ _ (by omega)]; rfl
  · have h2 := mj_rc_r (i % 5) (Nat.mod_lt _ (by decide))
    rw [mj_u_ne _ _ _ (by decide), mj_u_ne _ _ _ (by omega)]; rfl
  · rw [mj_u_same]
    unfold upd
    rw [mj_u_at]
    by_cases e : i = 6 * k + f
    · subst e
      rw [if_pos rfl, if_pos ⟨by rw [show (6 * k + f) % 6 = f by omega], by omega⟩]
    · rw [if_neg e, if_neg]
      · rfl
      · rintro ⟨e1, e2⟩
        have := mj_tc_inj _ (Nat.mod_lt i (by decide)) _ hf e1
        omega
  · rw [mj_u_ne _ _ _ (by decide)]
    refine (mz_mZ ?_ ?_ ?_ ?_ ?_ ?_ i).symm <;> rw [mj_u_ne _ _ _ (by omega)]
  · rw [mj_u_ne _ _ _ (by omega)]; rfl
/-- the scalars -/
def mz_sc (i : Nat) : Nat × Nat := match i with
  | 0 => (0, 5)
  | 1 => (8, 1)
  | 2 => (1, 0)
  | 3 => (8, 0)
  | 4 => (20, 0)
  | _ => (28, 0)
theorem mz_uS {i c j : Nat} (hi : i < 6) (h : mz_sc i = (c, j)) : mj_u (mz Z X) 4 i v = mz (mj_u Z c j v) X := by
  have hcs : (i = 0 ∧ c = 0 ∧ j = 5) ∨ (i = 1 ∧ c = 8 ∧ j = 1) ∨ (i = 2 ∧ c = 1 ∧ j = 0) ∨ (i = 3 ∧ c = 8 ∧ j = 0) ∨ (i = 4 ∧ c = 20 ∧ j = 0) ∨ (i = 5 ∧ c = 28 ∧ j = 0) := by
    match i, hi, h with
    | 0, _, h => cases h; decide
    | 1, _, h => cases h; decide
    | 2, _, h => cases h; decide
    | 3, _, h => cases h; decide
    | 4, _, h => cases h; decide
    | 5, _, h => cases h; decide
  have hc : c = 0 ∨ c = 8 ∨ c = 1 ∨ c = 20 ∨ c = 28 := by omega
  refine mz_ext (fun i => ?_) (fun i => ?_) (fun i => ?_) (fun i => ?_) (fun q => ?_) (fun c i => ?_)
  · have h2 := mj_pc_r (i % 8) (Nat.mod_lt _ (by decide))
    rw [mj_u_ne _ _ _ (by decide), mj_u_ne _ _ _ (by omega)]; rfl
  · have h2 := mz_lc_r (i % 11) (Nat.mod_lt _ (by decide))
    rw [mj_u_ne _ _ _ (by decide), mj_u_ne _ _ _ (by omega)]; rfl
  · have h2 := mj_rc_r (i % 5) (Nat.mod_lt _ (by decide))
    rw [mj_u_ne _ _ _ (by decide), mj_u_ne _ _ _ (by omega)]; rfl
  · have h2 := mj_tc_r (i % 6) (Nat.mod_lt _ (by decide))
    rw [mj_u_ne _ _ _ (by decide), mj_u_ne _ _ _ (by omega)]; rfl
  · rw [mj_u_same]
    show (if q = i then v else mz_m Z X q) = _
    rcases hcs with ⟨rfl, rfl, rfl⟩ | ⟨rfl, rfl, rfl⟩ | ⟨rfl, rfl, rfl⟩ | ⟨rfl, rfl, rfl⟩ | ⟨rfl, rfl, rfl⟩ | ⟨rfl, rfl, rfl⟩
    · by_cases e : q = 0
      · subst e; simp [mz_m, mj_u_at]
      · rw [if_neg e]; simp [mz_m, mj_u_at, e]
    · by_cases e : q = 1
      · subst e; simp [mz_m, mj_u_at]
      · rw [if_neg e]; simp [mz_m, mj_u_at, e]
    · by_cases e : q = 2
      · subst e; simp [mz_m, mj_u_at]
      · rw [if_neg e]; simp [mz_m, mj_u_at, e]
    · by_cases e : q = 3
      · subst e; simp [mz_m, mj_u_at]
      · rw [if_neg e]; simp [mz_m, mj_u_at, e]
    · by_cases e : q = 4
      · subst e; simp [mz_m, mj_u_at]
      · rw [if_neg e]; simp [mz_m, mj_u_at, e]
    · by_cases e : q = 5
      · subst e; simp [mz_m, mj_u_at]
      · rw [if_neg e]; simp [mz_m, mj_u_at, e]
  · rw [mj_u_ne _ _ _ (by omega)]; rfl
theorem mz_uX {i : Nat} (hi : 6 ≤ i) : mj_u (mz Z X) 4 i v = mz Z (mj_u X 4 i v) := by
  refine mz_ext (fun i => ?_) (fun i => ?_) (fun i => ?_) (fun i => ?_) (fun q => ?_) (fun c i => ?_)
  · rw [mj_u_ne _ _ _ (by decide)]; rfl
  · rw [mj_u_ne _ _ _ (by decide)]; rfl
  · rw [mj_u_ne _ _ _ (by decide)]; rfl
  · rw [mj_u_ne _ _ _ (by decide)]; rfl
  · rw [mj_u_same]
    show (if q = i then v else mz_m Z X q) = _
    unfold mz_m
    by_cases e : q = i
    · rw [if_pos e, if_neg (by omega), if_neg (by omega), if_neg (by omega), if_neg (by omega), if_neg (by omega), if_neg (by omega), mj_u_at, if_pos ⟨rfl, e⟩]
    · rw [if_neg e, mj_u_at, if_neg (show ¬ (4 = 4 ∧ q = i) from fun z => e z.2)]
  · rw [mj_u_ne _ _ _ (by omega), mj_u_ne _ _ _ (by omega)]; rfl
theorem mz_rX {i : Nat} (hi : 6 ≤ i) : mz Z X 4 i = X 4 i := by
  show mz_m Z X i = _
  unfold mz_m
  rw [if_neg (by omega), if_neg (by omega), if_neg (by omega), if_neg (by omega), if_neg (by omega), if_neg (by omega)]
theorem mz_u5 {c i : Nat} (hc : 5 ≤ c) : mj_u (mz Z X) c i v = mz Z (mj_u X c i v) := by
  refine mz_ext (fun i => ?_) (fun i => ?_) (fun i => ?_) (fun i => ?_) (fun q => ?_) (fun c' i => ?_)
  · rw [mj_u_ne _ _ _ (by omega)]; rfl
  · rw [mj_u_ne _ _ _ (by omega)]; rfl
  · rw [mj_u_ne _ _ _ (by omega)]; rfl
  · rw [mj_u_ne _ _ _ (by omega)]; rfl
  · rw [mj_u_ne _ _ _ (by omega)]
    show mz_m Z X q = _
    unfold mz_m
    rw [mj_u_ne _ _ _ (show 4 ≠ c by omega)]
  · rw [mj_u_at, mj_u_at]; rfl
/-- the law sees all cells but the fourth -/
theorem mz_4 {c : Nat} (h : c = 4) (i : Nat) (v : Int32) : mz (mj_u Z c i v) X = mz Z X := by
  subst h
  refine mz_ext (fun i => ?_) (fun i => ?_) (fun i => ?_) (fun i => ?_) (fun q => ?_) (fun c' i => rfl)
  · have h2 := mj_pc_r (i % 8) (Nat.mod_lt _ (by decide))
    show mj_u Z 4 _ v _ _ = _
    rw [mj_u_ne _ _ _ (by omega)]
  · have h2 := mz_lc_r (i % 11) (Nat.mod_lt _ (by decide))
    show mj_u Z 4 _ v _ _ = _
    rw [mj_u_ne _ _ _ (by omega)]
  · have h2 := mj_rc_r (i % 5) (Nat.mod_lt _ (by decide))
    have h3 : mj_rc (i % 5) ≠ 4 := by
      have : ∀ f, f < 5 → mj_rc f ≠ 4 := by decide
      exact this _ (Nat.mod_lt _ (by decide))
    show mj_u Z 4 _ v _ _ = _
    rw [mj_u_ne _ _ _ h3]
  · have h2 := mj_tc_r (i % 6) (Nat.mod_lt _ (by decide))
    show mj_u Z 4 _ v _ _ = _
    rw [mj_u_ne _ _ _ (by omega)]
  · rfl
theorem mz_eq4 {Z' : mj_M} (h : ∀ c, c ≠ 4 → Z' c = Z c) : mz Z' X = mz Z X := by
  refine mz_ext (fun i => ?_) (fun i => ?_) (fun i => ?_) (fun i => ?_) (fun q => ?_) (fun c' i => rfl)
  · have h2 := mj_pc_r (i % 8) (Nat.mod_lt _ (by decide))
    show Z' _ _ = _
    rw [h _ (by omega)]
  · have h2 := mz_lc_r (i % 11) (Nat.mod_lt _ (by decide))
    show Z' _ _ = _
    rw [h _ (by omega)]
  · have h3 : mj_rc (i % 5) ≠ 4 := by
      have : ∀ f, f < 5 → mj_rc f ≠ 4 := by decide
      exact this _ (Nat.mod_lt _ (by decide))
    show Z' _ _ = _
    rw [h _ h3]
  · have h2 := mj_tc_r (i % 6) (Nat.mod_lt _ (by decide))
    show Z' _ _ = _
    rw [h _ (by omega)]
  · refine mz_mZ ?_ ?_ ?_ ?_ ?_ ?_ q <;> rw [h _ (by decide)]
theorem mz_ix {a b k : Nat} (h : a * k + b < 2 ^ 31) : (nI a * nI k + nI b).toNatClampNeg = a * k + b := by
  rw [pk_mul, nI_add, nI_clamp h]
theorem mz_ix0 {a k : Nat} (h : a * k < 2 ^ 31) : (nI a * nI k).toNatClampNeg = a * k := by
  rw [pk_mul, nI_clamp h]
theorem mz_iv {a b k n : Nat} (h : a * k + b < n) (hn : n ≤ 100) : vp_in (nI a * nI k + nI b) n := by
  rw [pk_mul, nI_add]
  exact vp_in_nI h (by omega)
theorem mz_iv0 {a k n : Nat} (h : a * k < n) (hn : n ≤ 100) : vp_in (nI a * nI k) n := by
  rw [pk_mul]
  exact vp_in_nI h (by omega)

theorem mz_rP0 (h : k < 8) : mz Z X 0 (8 * nI k).toNatClampNeg = Z 22 k := by
  rw [show (8 * nI k : Int32) = nI 8 * nI k from rfl, mz_ix0 (by omega)]
  show Z (mj_pc ((8 * k) % 8)) ((8 * k) / 8) = _
  rw [show (8 * k) % 8 = 0 by omega, show (8 * k) / 8 = k by omega]
  rfl
theorem mz_wP0 (h : k < 8) : mj_u (mz Z X) 0 (8 * nI k).toNatClampNeg v = mz (mj_u Z 22 k v) X := by
  rw [show (8 * nI k : Int32) = nI 8 * nI k from rfl, mz_ix0 (by omega)]
  exact mz_uP (f := 0) (by decide)
theorem mz_vP0 (h : k < 8) : vp_in (8 * nI k) 64 := by
  rw [show (8 * nI k : Int32) = nI 8 * nI k from rfl]
  exact mz_iv0 (by omega) (by decide)

theorem mz_rP1 (h : k < 8) : mz Z X 0 (8 * nI k + 1).toNatClampNeg = Z 21 k := by
  rw [show (8 * nI k + 1 : Int32) = nI 8 * nI k + nI 1 from rfl, mz_ix (by omega)]
  show Z (mj_pc ((8 * k + 1) % 8)) ((8 * k + 1) / 8) = _
  rw [show (8 * k + 1) % 8 = 1 by omega, show (8 * k + 1) / 8 = k by omega]
  rfl
theorem mz_wP1 (h : k < 8) : mj_u (mz Z X) 0 (8 * nI k + 1).toNatClampNeg v = mz (mj_u Z 21 k v) X := by
  rw [show (8 * nI k + 1 : Int32) = nI 8 * nI k + nI 1 from rfl, mz_ix (by omega)]
  exact mz_uP (f := 1) (by decide)
theorem mz_vP1 (h : k < 8) : vp_in (8 * nI k + 1) 64 := by
  rw [show (8 * nI k + 1 : Int32) = nI 8 * nI k + nI 1 from rfl]
  exact mz_iv (by omega) (by decide)

theorem mz_rP2 (h : k < 8) : mz Z X 0 (8 * nI k + 2).toNatClampNeg = Z 23 k := by
  rw [show (8 * nI k + 2 : Int32) = nI 8 * nI k + nI 2 from rfl, mz_ix (by omega)]
  show Z (mj_pc ((8 * k + 2) % 8)) ((8 * k + 2) / 8) = _
  rw [show (8 * k + 2) % 8 = 2 by omega, show (8 * k + 2) / 8 = k by omega]
  rfl
theorem mz_wP2 (h : k < 8) : mj_u (mz Z X) 0 (8 * nI k + 2).toNatClampNeg v = mz (mj_u Z 23 k v) X := by
  rw [show (8 * nI k + 2 : Int32) = nI 8 * nI k + nI 2 from rfl, mz_ix (by omega)]
  exact mz_uP (f := 2) (by decide)
theorem mz_vP2 (h : k < 8) : vp_in (8 * nI k + 2) 64 := by
  rw [show (8 * nI k + 2 : Int32) = nI 8 * nI k + nI 2 from rfl]
  exact mz_iv (by omega) (by decide)

theorem mz_rP3 (h : k < 8) : mz Z X 0 (8 * nI k + 3).toNatClampNeg = Z 24 k := by
  rw [show (8 * nI k + 3 : Int32) = nI 8 * nI k + nI 3 from rfl, mz_ix (by omega)]
  show Z (mj_pc ((8 * k + 3) % 8)) ((8 * k + 3) / 8) = _
  rw [show (8 * k + 3) % 8 = 3 by omega, show (8 * k + 3) / 8 = k by omega]
  rfl
theorem mz_wP3 (h : k < 8) : mj_u (mz Z X) 0 (8 * nI k + 3).toNatClampNeg v = mz (mj_u Z 24 k v) X := by
  rw [show (8 * nI k + 3 : Int32) = nI 8 * nI k + nI 3 from rfl, mz_ix (by omega)]
  exact mz_uP (f := 3) (by decide)
theorem mz_vP3 (h : k < 8) : vp_in (8 * nI k + 3) 64 := by
  rw [show (8 * nI k + 3 : Int32) = nI 8 * nI k + nI 3 from rfl]
  exact mz_iv (by omega) (by decide)

theorem mz_rP4 (h : k < 8) : mz Z X 0 (8 * nI k + 4).toNatClampNeg = Z 25 k := by
  rw [show (8 * nI k + 4 : Int32) = nI 8 * nI k + nI 4 from rfl, mz_ix (by omega)]
  show Z (mj_pc ((8 * k + 4) % 8)) ((8 * k + 4) / 8) = _
  rw [show (8 * k + 4) % 8 = 4 by omega, show (8 * k + 4) / 8 = k by omega]
  rfl
theorem mz_wP4 (h : k < 8) : mj_u (mz Z X) 0 (8 * nI k + 4).toNatClampNeg v = mz (mj_u Z 25 k v) X := by
  rw [show (8 * nI k + 4 : Int32) = nI 8 * nI k + nI 4 from rfl, mz_ix (by omega)]
  exact mz_uP (f := 4) (by decide)
theorem mz_vP4 (h : k < 8) : vp_in (8 * nI k + 4) 64 := by
  rw [show (8 * nI k + 4 : Int32) = nI 8 * nI k + nI 4 from rfl]
  exact mz_iv (by omega) (by decide)

theorem mz_rP5 (h : k < 8) : mz Z X 0 (8 * nI k + 5).toNatClampNeg = Z 40 k := by
  rw [show (8 * nI k + 5 : Int32) = nI 8 * nI k + nI 5 from rfl, mz_ix (by omega)]
  show Z (mj_pc ((8 * k + 5) % 8)) ((8 * k + 5) / 8) = _
  rw [show (8 * k + 5) % 8 = 5 by omega, show (8 * k + 5) / 8 = k by omega]
  rfl
theorem mz_wP5 (h : k < 8) : mj_u (mz Z X) 0 (8 * nI k + 5).toNatClampNeg v = mz (mj_u Z 40 k v) X := by
  rw [show (8 * nI k + 5 : Int32) = nI 8 * nI k + nI 5 from rfl, mz_ix (by omega)]
  exact mz_uP (f := 5) (by decide)
theorem mz_vP5 (h : k < 8) : vp_in (8 * nI k + 5) 64 := by
  rw [show (8 * nI k + 5 : Int32) = nI 8 * nI k + nI 5 from rfl]
  exact mz_iv (by omega) (by decide)

theorem mz_rP6 (h : k < 8) : mz Z X 0 (8 * nI k + 6).toNatClampNeg = Z 27 k := by
  rw [show (8 * nI k + 6 : Int32) = nI 8 * nI k + nI 6 from rfl, mz_ix (by omega)]
  show Z (mj_pc ((8 * k + 6) % 8)) ((8 * k + 6) / 8) = _
  rw [show (8 * k + 6) % 8 = 6 by omega, show (8 * k + 6) / 8 = k by omega]
  rfl
theorem mz_wP6 (h : k < 8) : mj_u (mz Z X) 0 (8 * nI k + 6).toNatClampNeg v = mz (mj_u Z 27 k v) X := by
  rw [show (8 * nI k + 6 : Int32) = nI 8 * nI k + nI 6 from rfl, mz_ix (by omega)]
  exact mz_uP (f := 6) (by decide)
theorem mz_vP6 (h : k < 8) : vp_in (8 * nI k + 6) 64 := by
  rw [show (8 * nI k + 6 : Int32) = nI 8 * nI k + nI 6 from rfl]
  exact mz_iv (by omega) (by decide)

theorem mz_rP7 (h : k < 8) : mz Z X 0 (8 * nI k + 7).toNatClampNeg = Z 26 k := by
  rw [show (8 * nI k + 7 : Int32) = nI 8 * nI k + nI 7 from rfl, mz_ix (by omega)]
  show Z (mj_pc ((8 * k + 7) % 8)) ((8 * k + 7) / 8) = _
  rw [show (8 * k + 7) % 8 = 7 by omega, show (8 * k + 7) / 8 = k by omega]
  rfl
theorem mz_wP7 (h : k < 8) : mj_u (mz Z X) 0 (8 * nI k + 7).toNatClampNeg v = mz (mj_u Z 26 k v) X := by
  rw [show (8 * nI k + 7 : Int32) = nI 8 * nI k + nI 7 from rfl, mz_ix (by omega)]
  exact mz_uP (f := 7) (by decide)
theorem mz_vP7 (h : k < 8) : vp_in (8 * nI k + 7) 64 := by
  rw [show (8 * nI k + 7 : Int32) = nI 8 * nI k + nI 7 from rfl]
  exact mz_iv (by omega) (by decide)

theorem mz_rL0 (h : k < 5) : mz Z X 1 (11 * nI k).toNatClampNeg = Z 9 k := by
  rw [show (11 * nI k : Int32) = nI 11 * nI k from rfl, mz_ix0 (by omega)]
  show Z (mz_lc ((11 * k) % 11)) ((11 * k) / 11) = _
  rw [show (11 * k) % 11 = 0 by omega, show (11 * k) / 11 = k by omega]
  rfl
theorem mz_wL0 (h : k < 5) : mj_u (mz Z X) 1 (11 * nI k).toNatClampNeg v = mz (mj_u Z 9 k v) X := by
  rw [show (11 * nI k : Int32) = nI 11 * nI k from rfl, mz_ix0 (by omega)]
  exact mz_uL (f := 0) (by decide)
theorem mz_vL0 (h : k < 5) : vp_in (11 * nI k) 55 := by
  rw [show (11 * nI k : Int32) = nI 11 * nI k from rfl]
  exact mz_iv0 (by omega) (by decide)

theorem mz_rL1 (h : k < 5) : mz Z X 1 (11 * nI k + 1).toNatClampNeg = Z 10 k := by
  rw [show (11 * nI k + 1 : Int32) = nI 11 * nI k + nI 1 from rfl, mz_ix (by omega)]
  show Z (mz_lc ((11 * k + 1) % 11)) ((11 * k + 1) / 11) = _
  rw [show (11 * k + 1) % 11 = 1 by omega, show (11 * k + 1) / 11 = k by omega]
  rfl
theorem mz_wL1 (h : k < 5) : mj_u (mz Z X) 1 (11 * nI k + 1).toNatClampNeg v = mz (mj_u Z 10 k v) X := by
  rw [show (11 * nI k + 1 : Int32) = nI 11 * nI k + nI 1 from rfl, mz_ix (by omega)]
  exact mz_uL (f := 1) (by decide)
theorem mz_vL1 (h : k < 5) : vp_in (11 * nI k + 1) 55 := by
  rw [show (11 * nI k + 1 : Int32) = nI 11 * nI k + nI 1 from rfl]
  exact mz_iv (by omega) (by decide)

theorem mz_rL2 (h : k < 5) : mz Z X 1 (11 * nI k + 2).toNatClampNeg = Z 11 k := by
  rw [show (11 * nI k + 2 : Int32) = nI 11 * nI k + nI 2 from rfl, mz_ix (by omega)]
  show Z (mz_lc ((11 * k + 2) % 11)) ((11 * k + 2) / 11) = _
  rw [show (11 * k + 2) % 11 = 2 by omega, show (11 * k + 2) / 11 = k by omega]
  rfl
theorem mz_wL2 (h : k < 5) : mj_u (mz Z X) 1 (11 * nI k + 2).toNatClampNeg v = mz (mj_u Z 11 k v) X := by
  rw [show (11 * nI k + 2 : Int32) = nI 11 * nI k + nI 2 from rfl, mz_ix (by omega)]
  exact mz_uL (f := 2) (by decide)
theorem mz_vL2 (h : k < 5) : vp_in (11 * nI k + 2) 55 := by
  rw [show (11 * nI k + 2 : Int32) = nI 11 * nI k + nI 2 from rfl]
  exact mz_iv (by omega) (by decide)

theorem mz_rL3 (h : k < 5) : mz Z X 1 (11 * nI k + 3).toNatClampNeg = Z 12 k := by
  rw [show (11 * nI k + 3 : Int32) = nI 11 * nI k + nI 3 from rfl, mz_ix (by omega)]
  show Z (mz_lc ((11 * k + 3) % 11)) ((11 * k + 3) / 11) = _
  rw [show (11 * k + 3) % 11 = 3 by omega, show (11 * k + 3) / 11 = k by omega]
  rfl
theorem mz_wL3 (h : k < 5) : mj_u (mz Z X) 1 (11 * nI k + 3).toNatClampNeg v = mz (mj_u Z 12 k v) X := by
  rw [show (11 * nI k + 3 : Int32) = nI 11 * nI k + nI 3 from rfl, mz_ix (by omega)]
  exact mz_uL (f := 3) (by decide)
theorem mz_vL3 (h : k < 5) : vp_in (11 * nI k + 3) 55 := by
  rw [show (11 * nI k + 3 : Int32) = nI 11 * nI k + nI 3 from rfl]
  exact mz_iv (by omega) (by decide)

theorem mz_rL4 (h : k < 5) : mz Z X 1 (11 * nI k + 4).toNatClampNeg = Z 13 k := by
  rw [show (11 * nI k + 4 : Int32) = nI 11 * nI k + nI 4 from rfl, mz_ix (by omega)]
  show Z (mz_lc ((11 * k + 4) % 11)) ((11 * k + 4) / 11) = _
  rw [show (11 * k + 4) % 11 = 4 by omega, show (11 * k + 4) / 11 = k by omega]
  rfl
theorem mz_wL4 (h : k < 5) : mj_u (mz Z X) 1 (11 * nI k + 4).toNatClampNeg v = mz (mj_u Z 13 k v) X := by
  rw [show (11 * nI k + 4 : Int32) = nI 11 * nI k + nI 4 from rfl, mz_ix (by omega)]
  exact mz_uL (f := 4) (by decide)
theorem mz_vL4 (h : k < 5) : vp_in (11 * nI k + 4) 55 := by
  rw [show (11 * nI k + 4 : Int32) = nI 11 * nI k + nI 4 from rfl]
  exact mz_iv (by omega) (by decide)

theorem mz_rL5 (h : k < 5) : mz Z X 1 (11 * nI k + 5).toNatClampNeg = Z 16 k := by
  rw [show (11 * nI k + 5 : Int32) = nI 11 * nI k + nI 5 from rfl, mz_ix (by omega)]
  show Z (mz_lc ((11 * k + 5) % 11)) ((11 * k + 5) / 11) = _
  rw [show (11 * k + 5) % 11 = 5 by omega, show (11 * k + 5) / 11 = k by omega]
  rfl
theorem mz_wL5 (h : k < 5) : mj_u (mz Z X) 1 (11 * nI k + 5).toNatClampNeg v = mz (mj_u Z 16 k v) X := by
  rw [show (11 * nI k + 5 : Int32) = nI 11 * nI k + nI 5 from rfl, mz_ix (by omega)]
  exact mz_uL (f := 5) (by decide)
theorem mz_vL5 (h : k < 5) : vp_in (11 * nI k + 5) 55 := by
  rw [show (11 * nI k + 5 : Int32) = nI 11 * nI k + nI 5 from rfl]
  exact mz_iv (by omega) (by decide)

theorem mz_rL6 (h : k < 5) : mz Z X 1 (11 * nI k + 6).toNatClampNeg = Z 17 k := by
  rw [show (11 * nI k + 6 : Int32) = nI 11 * nI k + nI 6 from rfl, mz_ix (by omega)]
  show Z (mz_lc ((11 * k + 6) % 11)) ((11 * k + 6) / 11) = _
  rw [show (11 * k + 6) % 11 = 6 by omega, show (11 * k + 6) / 11 = k by omega]
  rfl
theorem mz_wL6 (h : k < 5) : mj_u (mz Z X) 1 (11 * nI k + 6).toNatClampNeg v = mz (mj_u Z 17 k v) X := by
  rw [show (11 * nI k + 6 : Int32) = nI 11 * nI k + nI 6 from rfl, mz_ix (by omega)]
  exact mz_uL (f := 6) (by decide)
theorem mz_vL6 (h : k < 5) : vp_in (11 * nI k + 6) 55 := by
  rw [show (11 * nI k + 6 : Int32) = nI 11 * nI k + nI 6 from rfl]
  exact mz_iv (by omega) (by decide)

theorem mz_rL7 (h : k < 5) : mz Z X 1 (11 * nI k + 7).toNatClampNeg = Z 18 k := by
  rw [show (11 * nI k + 7 : Int32) = nI 11 * nI k + nI 7 from rfl, mz_ix (by omega)]
  show Z (mz_lc ((11 * k + 7) % 11)) ((11 * k + 7) / 11) = _
  rw [show (11 * k + 7) % 11 = 7 by omega, show (11 * k + 7) / 11 = k by omega]
  rfl
theorem mz_wL7 (h : k < 5) : mj_u (mz Z X) 1 (11 * nI k + 7).toNatClampNeg v = mz (mj_u Z 18 k v) X := by
  rw [show (11 * nI k + 7 : Int32) = nI 11 * nI k + nI 7 from rfl, mz_ix (by omega)]
  exact mz_uL (f := 7) (by decide)
theorem mz_vL7 (h : k < 5) : vp_in (11 * nI k + 7) 55 := by
  rw [show (11 * nI k + 7 : Int32) = nI 11 * nI k + nI 7 from rfl]
  exact mz_iv (by omega) (by decide)

theorem mz_rL8 (h : k < 5) : mz Z X 1 (11 * nI k + 8).toNatClampNeg = Z 19 k := by
  rw [show (11 * nI k + 8 : Int32) = nI 11 * nI k + nI 8 from rfl, mz_ix (by omega)]
  show Z (mz_lc ((11 * k + 8) % 11)) ((11 * k + 8) / 11) = _
  rw [show (11 * k + 8) % 11 = 8 by omega, show (11 * k + 8) / 11 = k by omega]
  rfl
theorem mz_wL8 (h : k < 5) : mj_u (mz Z X) 1 (11 * nI k + 8).toNatClampNeg v = mz (mj_u Z 19 k v) X := by
  rw [show (11 * nI k + 8 : Int32) = nI 11 * nI k + nI 8 from rfl, mz_ix (by omega)]
  exact mz_uL (f := 8) (by decide)
theorem mz_vL8 (h : k < 5) : vp_in (11 * nI k + 8) 55 := by
  rw [show (11 * nI k + 8 : Int32) = nI 11 * nI k + nI 8 from rfl]
  exact mz_iv (by omega) (by decide)

theorem mz_rL9 (h : k < 5) : mz Z X 1 (11 * nI k + 9).toNatClampNeg = Z 14 k := by
  rw [show (11 * nI k + 9 : Int32) = nI 11 * nI k + nI 9 from rfl, mz_ix (by omega)]
  show Z (mz_lc ((11 * k + 9) % 11)) ((11 * k + 9) / 11) = _
  rw [show (11 * k + 9) % 11 = 9 by omega, show (11 * k + 9) / 11 = k by omega]
  rfl
theorem mz_wL9 (h : k < 5) : mj_u (mz Z X) 1 (11 * nI k + 9).toNatClampNeg v = mz (mj_u Z 14 k v) X := by
  rw [show (11 * nI k + 9 : Int32) = nI 11 * nI k + nI 9 from rfl, mz_ix (by omega)]
  exact mz_uL (f := 9) (by decide)
theorem mz_vL9 (h : k < 5) : vp_in (11 * nI k + 9) 55 := by
  rw [show (11 * nI k + 9 : Int32) = nI 11 * nI k + nI 9 from rfl]
  exact mz_iv (by omega) (by decide)

theorem mz_rL10 (h : k < 5) : mz Z X 1 (11 * nI k + 10).toNatClampNeg = Z 15 k := by
  rw [show (11 * nI k + 10 : Int32) = nI 11 * nI k + nI 10 from rfl, mz_ix (by omega)]
  show Z (mz_lc ((11 * k + 10) % 11)) ((11 * k + 10) / 11) = _
  rw [show (11 * k + 10) % 11 = 10 by omega, show (11 * k + 10) / 11 = k by omega]
  rfl
theorem mz_wL10 (h : k < 5) : mj_u (mz Z X) 1 (11 * nI k + 10).toNatClampNeg v = mz (mj_u Z 15 k v) X := by
  rw [show (11 * nI k + 10 : Int32) = nI 11 * nI k + nI 10 from rfl, mz_ix (by omega)]
  exact mz_uL (f := 10) (by decide)
theorem mz_vL10 (h : k < 5) : vp_in (11 * nI k + 10) 55 := by
  rw [show (11 * nI k + 10 : Int32) = nI 11 * nI k + nI 10 from rfl]
  exact mz_iv (by omega) (by decide)

theorem mz_rR0 (h : k < 6) : mz Z X 2 (5 * nI k).toNatClampNeg = Z 2 k := by
  rw [show (5 * nI k : Int32) = nI 5 * nI k from rfl, mz_ix0 (by omega)]
  show Z (mj_rc ((5 * k) % 5)) ((5 * k) / 5) = _
  rw [show (5 * k) % 5 = 0 by omega, show (5 * k) / 5 = k by omega]
  rfl
theorem mz_wR0 (h : k < 6) : mj_u (mz Z X) 2 (5 * nI k).toNatClampNeg v = mz (mj_u Z 2 k v) X := by
  rw [show (5 * nI k : Int32) = nI 5 * nI k from rfl, mz_ix0 (by omega)]
  exact mz_uR (f := 0) (by decide)
theorem mz_vR0 (h : k < 6) : vp_in (5 * nI k) 30 := by
  rw [show (5 * nI k : Int32) = nI 5 * nI k from rfl]
  exact mz_iv0 (by omega) (by decide)

theorem mz_rR1 (h : k < 6) : mz Z X 2 (5 * nI k + 1).toNatClampNeg = Z 3 k := by
  rw [show (5 * nI k + 1 : Int32) = nI 5 * nI k + nI 1 from rfl, mz_ix (by omega)]
  show Z (mj_rc ((5 * k + 1) % 5)) ((5 * k + 1) / 5) = _
  rw [show (5 * k + 1) % 5 = 1 by omega, show (5 * k + 1) / 5 = k by omega]
  rfl
theorem mz_wR1 (h : k < 6) : mj_u (mz Z X) 2 (5 * nI k + 1).toNatClampNeg v = mz (mj_u Z 3 k v) X := by
  rw [show (5 * nI k + 1 : Int32) = nI 5 * nI k + nI 1 from rfl, mz_ix (by omega)]
  exact mz_uR (f := 1) (by decide)
theorem mz_vR1 (h : k < 6) : vp_in (5 * nI k + 1) 30 := by
  rw [show (5 * nI k + 1 : Int32) = nI 5 * nI k + nI 1 from rfl]
  exact mz_iv (by omega) (by decide)

theorem mz_rR2 (h : k < 6) : mz Z X 2 (5 * nI k + 2).toNatClampNeg = Z 7 k := by
  rw [show (5 * nI k + 2 : Int32) = nI 5 * nI k + nI 2 from rfl, mz_ix (by omega)]
  show Z (mj_rc ((5 * k + 2) % 5)) ((5 * k + 2) / 5) = _
  rw [show (5 * k + 2) % 5 = 2 by omega, show (5 * k + 2) / 5 = k by omega]
  rfl
theorem mz_wR2 (h : k < 6) : mj_u (mz Z X) 2 (5 * nI k + 2).toNatClampNeg v = mz (mj_u Z 7 k v) X := by
  rw [show (5 * nI k + 2 : Int32) = nI 5 * nI k + nI 2 from rfl, mz_ix (by omega)]
  exact mz_uR (f := 2) (by decide)
theorem mz_vR2 (h : k < 6) : vp_in (5 * nI k + 2) 30 := by
  rw [show (5 * nI k + 2 : Int32) = nI 5 * nI k + nI 2 from rfl]
  exact mz_iv (by omega) (by decide)

theorem mz_rR3 (h : k < 6) : mz Z X 2 (5 * nI k + 3).toNatClampNeg = Z 5 k := by
  rw [show (5 * nI k + 3 : Int32) = nI 5 * nI k + nI 3 from rfl, mz_ix (by omega)]
  show Z (mj_rc ((5 * k + 3) % 5)) ((5 * k + 3) / 5) = _
  rw [show (5 * k + 3) % 5 = 3 by omega, show (5 * k + 3) / 5 = k by omega]
  rfl
theorem mz_wR3 (h : k < 6) : mj_u (mz Z X) 2 (5 * nI k + 3).toNatClampNeg v = mz (mj_u Z 5 k v) X := by
  rw [show (5 * nI k + 3 : Int32) = nI 5 * nI k + nI 3 from rfl, mz_ix (by omega)]
  exact mz_uR (f := 3) (by decide)
theorem mz_vR3 (h : k < 6) : vp_in (5 * nI k + 3) 30 := by
  rw [show (5 * nI k + 3 : Int32) = nI 5 * nI k + nI 3 from rfl]
  exact mz_iv (by omega) (by decide)

theorem mz_rR4 (h : k < 6) : mz Z X 2 (5 * nI k + 4).toNatClampNeg = Z 6 k := by
  rw [show (5 * nI k + 4 : Int32) = nI 5 * nI k + nI 4 from rfl, mz_ix (by omega)]
  show Z (mj_rc ((5 * k + 4) % 5)) ((5 * k + 4) / 5) = _
  rw [show (5 * k + 4) % 5 = 4 by omega, show (5 * k + 4) / 5 = k by omega]
  rfl
theorem mz_wR4 (h : k < 6) : mj_u (mz Z X) 2 (5 * nI k + 4).toNatClampNeg v = mz (mj_u Z 6 k v) X := by
  rw [show (5 * nI k + 4 : Int32) = nI 5 * nI k + nI 4 from rfl, mz_ix (by omega)]
  exact mz_uR (f := 4) (by decide)
theorem mz_vR4 (h : k < 6) : vp_in (5 * nI k + 4) 30 := by
  rw [show (5 * nI k + 4 : Int32) = nI 5 * nI k + nI 4 from rfl]
  exact mz_iv (by omega) (by decide)

theorem mz_rT0 (h : k < 3) : mz Z X 3 (6 * nI k).toNatClampNeg = Z 29 k := by
  rw [show (6 * nI k : Int32) = nI 6 * nI k from rfl, mz_ix0 (by omega)]
  show Z (mj_tc ((6 * k) % 6)) ((6 * k) / 6) = _
  rw [show (6 * k) % 6 = 0 by omega, show (6 * k) / 6 = k by omega]
  rfl
theorem mz_wT0 (h : k < 3) : mj_u (mz Z X) 3 (6 * nI k).toNatClampNeg v = mz (mj_u Z 29 k v) X := by
  rw [show (6 * nI k : Int32) = nI 6 * nI k from rfl, mz_ix0 (by omega)]
  exact mz_uT (f := 0) (by decide)
theorem mz_vT0 (h : k < 3) : vp_in (6 * nI k) 18 := by
  rw [show (6 * nI k : Int32) = nI 6 * nI k from rfl]
  exact mz_iv0 (by omega) (by decide)

theorem mz_rT1 (h : k < 3) : mz Z X 3 (6 * nI k + 1).toNatClampNeg = Z 33 k := by
  rw [show (6 * nI k + 1 : Int32) = nI 6 * nI k + nI 1 from rfl, mz_ix (by omega)]
  show Z (mj_tc ((6 * k + 1) % 6)) ((6 * k + 1) / 6) = _
  rw [show (6 * k + 1) % 6 = 1 by omega, show (6 * k + 1) / 6 = k by omega]
  rfl
theorem mz_wT1 (h : k < 3) : mj_u (mz Z X) 3 (6 * nI k + 1).toNatClampNeg v = mz (mj_u Z 33 k v) X := by
  rw [show (6 * nI k + 1 : Int32) = nI 6 * nI k + nI 1 from rfl, mz_ix (by omega)]
  exact mz_uT (f := 1) (by decide)
theorem mz_vT1 (h : k < 3) : vp_in (6 * nI k + 1) 18 := by
  rw [show (6 * nI k + 1 : Int32) = nI 6 * nI k + nI 1 from rfl]
  exact mz_iv (by omega) (by decide)

theorem mz_rT2 (h : k < 3) : mz Z X 3 (6 * nI k + 2).toNatClampNeg = Z 34 k := by
  rw [show (6 * nI k + 2 : Int32) = nI 6 * nI k + nI 2 from rfl, mz_ix (by omega)]
  show Z (mj_tc ((6 * k + 2) % 6)) ((6 * k + 2) / 6) = _
  rw [show (6 * k + 2) % 6 = 2 by omega, show (6 * k + 2) / 6 = k by omega]
  rfl
theorem mz_wT2 (h : k < 3) : mj_u (mz Z X) 3 (6 * nI k + 2).toNatClampNeg v = mz (mj_u Z 34 k v) X := by
  rw [show (6 * nI k + 2 : Int32) = nI 6 * nI k + nI 2 from rfl, mz_ix (by omega)]
  exact mz_uT (f := 2) (by decide)
theorem mz_vT2 (h : k < 3) : vp_in (6 * nI k + 2) 18 := by
  rw [show (6 * nI k + 2 : Int32) = nI 6 * nI k + nI 2 from rfl]
  exact mz_iv (by omega) (by decide)

theorem mz_rT3 (h : k < 3) : mz Z X 3 (6 * nI k + 3).toNatClampNeg = Z 30 k := by
  rw [show (6 * nI k + 3 : Int32) = nI 6 * nI k + nI 3 from rfl, mz_ix (by omega)]
  show Z (mj_tc ((6 * k + 3) % 6)) ((6 * k + 3) / 6) = _
  rw [show (6 * k + 3) % 6 = 3 by omega, show (6 * k + 3) / 6 = k by omega]
  rfl
theorem mz_wT3 (h : k < 3) : mj_u (mz Z X) 3 (6 * nI k + 3).toNatClampNeg v = mz (mj_u Z 30 k v) X := by
  rw [show (6 * nI k + 3 : Int32) = nI 6 * nI k + nI 3 from rfl, mz_ix (by omega)]
  exact mz_uT (f := 3) (by decide)
theorem mz_vT3 (h : k < 3) : vp_in (6 * nI k + 3) 18 := by
  rw [show (6 * nI k + 3 : Int32) = nI 6 * nI k + nI 3 from rfl]
  exact mz_iv (by omega) (by decide)

theorem mz_rT4 (h : k < 3) : mz Z X 3 (6 * nI k + 4).toNatClampNeg = Z 31 k := by
  rw [show (6 * nI k + 4 : Int32) = nI 6 * nI k + nI 4 from rfl, mz_ix (by omega)]
  show Z (mj_tc ((6 * k + 4) % 6)) ((6 * k + 4) / 6) = _
  rw [show (6 * k + 4) % 6 = 4 by omega, show (6 * k + 4) / 6 = k by omega]
  rfl
theorem mz_wT4 (h : k < 3) : mj_u (mz Z X) 3 (6 * nI k + 4).toNatClampNeg v = mz (mj_u Z 31 k v) X := by
  rw [show (6 * nI k + 4 : Int32) = nI 6 * nI k + nI 4 from rfl, mz_ix (by omega)]
  exact mz_uT (f := 4) (by decide)
theorem mz_vT4 (h : k < 3) : vp_in (6 * nI k + 4) 18 := by
  rw [show (6 * nI k + 4 : Int32) = nI 6 * nI k + nI 4 from rfl]
  exact mz_iv (by omega) (by decide)

theorem mz_rT5 (h : k < 3) : mz Z X 3 (6 * nI k + 5).toNatClampNeg = Z 32 k := by
  rw [show (6 * nI k + 5 : Int32) = nI 6 * nI k + nI 5 from rfl, mz_ix (by omega)]
  show Z (mj_tc ((6 * k + 5) % 6)) ((6 * k + 5) / 6) = _
  rw [show (6 * k + 5) % 6 = 5 by omega, show (6 * k + 5) / 6 = k by omega]
  rfl
theorem mz_wT5 (h : k < 3) : mj_u (mz Z X) 3 (6 * nI k + 5).toNatClampNeg v = mz (mj_u Z 32 k v) X := by
  rw [show (6 * nI k + 5 : Int32) = nI 6 * nI k + nI 5 from rfl, mz_ix (by omega)]
  exact mz_uT (f := 5) (by decide)
theorem mz_vT5 (h : k < 3) : vp_in (6 * nI k + 5) 18 := by
  rw [show (6 * nI k + 5 : Int32) = nI 6 * nI k + nI 5 from rfl]
  exact mz_iv (by omega) (by decide)

theorem mz_rS0 : mz Z X 4 0 = Z 0 5 := rfl
theorem mz_wS0 : mj_u (mz Z X) 4 0 v = mz (mj_u Z 0 5 v) X := mz_uS (by decide) rfl

theorem mz_rS1 : mz Z X 4 1 = Z 8 1 := rfl
theorem mz_wS1 : mj_u (mz Z X) 4 1 v = mz (mj_u Z 8 1 v) X := mz_uS (by decide) rfl

theorem mz_rS2 : mz Z X 4 2 = Z 1 0 := rfl
theorem mz_wS2 : mj_u (mz Z X) 4 2 v = mz (mj_u Z 1 0 v) X := mz_uS (by decide) rfl

theorem mz_rS3 : mz Z X 4 3 = Z 8 0 := rfl
theorem mz_wS3 : mj_u (mz Z X) 4 3 v = mz (mj_u Z 8 0 v) X := mz_uS (by decide) rfl

theorem mz_rS4 : mz Z X 4 4 = Z 20 0 := rfl
theorem mz_wS4 : mj_u (mz Z X) 4 4 v = mz (mj_u Z 20 0 v) X := mz_uS (by decide) rfl

theorem mz_rS5 : mz Z X 4 5 = Z 28 0 := rfl
theorem mz_wS5 : mj_u (mz Z X) 4 5 v = mz (mj_u Z 28 0 v) X := mz_uS (by decide) rfl

end MZA
