-- reads and writes of the model's row, as the code makes them
theorem mj_x8 {x : Int32} {n : Nat} (a b : Nat) (h : vp_in x n) (hn : n ≤ 200) (ha : a ≤ 20) (hb : b ≤ 2000) : (nI a * x + nI b).toNatClampNeg = a * x.toNatClampNeg + b ∧ ∀ m : Nat, a * n + b < m + a → m ≤ 100000 → vp_in (nI a * x + nI b) m := by
  obtain ⟨j, hj, rfl⟩ := vp_in_of h (by omega)
  have h1 : a * j ≤ 20 * 200 := Nat.mul_le_mul ha (by omega)
  have h2 : a * j + a ≤ a * n := by
    have := Nat.mul_le_mul_left a (show j + 1 ≤ n by omega)
    rw [Nat.mul_add, Nat.mul_one] at this
    exact this
  rw [pk_mul, nI_add, nI_clamp (by omega), nI_clamp (by omega)]
  exact ⟨rfl, fun m hm hm2 => vp_in_nI (by omega) (by omega)⟩
theorem mj_xlt {x : Int32} {n : Nat} (h : vp_in x n) : x.toNatClampNeg < n := by
  rw [mj_vi] at h
  rw [mj_clN]
  omega
theorem mj_gP (Z : mj_M) {p : Nat} (f : Nat) (hp : p < 120) (hf : f < 8) : mj_en1 Z (8 * p + f) = Z (mj_pc f) p := by
  unfold mj_en1
  rw [if_pos (by omega), show (8 * p + f) % 8 = f by omega, show (8 * p + f) / 8 = p by omega]
theorem mj_gL (Z : mj_M) {p : Nat} (f : Nat) (hp : p < 14) (hf : f < 11) : mj_en1 Z (11 * p + (960 + f)) = Z (mj_lc f) p := by
  unfold mj_en1
  rw [if_neg (by omega), if_pos (by omega), show (11 * p + (960 + f) - 960) % 11 = f by omega, show (11 * p + (960 + f) - 960) / 11 = p by omega]
theorem mj_gR (Z : mj_M) {p : Nat} (f : Nat) (hp : p < 10) (hf : f < 5) : mj_en1 Z (5 * p + (1114 + f)) = Z (mj_rc f) p := by
  unfold mj_en1
  rw [if_neg (by omega), if_neg (by omega), if_pos (by omega), show (5 * p + (1114 + f) - 1114) % 5 = f by omega, show (5 * p + (1114 + f) - 1114) / 5 = p by omega]
theorem mj_gT (Z : mj_M) {p : Nat} (f : Nat) (hp : p < 12) (hf : f < 6) : mj_en1 Z (6 * p + (1164 + f)) = Z (mj_tc f) p := by
  unfold mj_en1
  rw [if_neg (by omega), if_neg (by omega), if_neg (by omega), if_pos (by omega), show (6 * p + (1164 + f) - 1164) % 6 = f by omega, show (6 * p + (1164 + f) - 1164) / 6 = p by omega]
def mj_sc (i : Nat) : Nat × Nat := match i with
  | 0 => (0, 5)
  | 1 => (8, 1)
  | 2 => (1, 0)
  | 3 => (8, 0)
  | 4 => (20, 0)
  | _ => (28, 0)
theorem mj_eS (Z : mj_M) (k c j : Nat) (v : Int32) (h1 : 1236 ≤ k) (h2 : k < 1242) (h3 : mj_sc (k - 1236) = (c, j)) : upd (mj_en1 Z) k v = mj_en1 (mj_u Z c j v) := by
  obtain ⟨i, rfl⟩ : ∃ i, k = 1236 + i := ⟨k - 1236, by omega⟩
  rw [show 1236 + i - 1236 = i by omega] at h3
  have hi : i < 6 := by omega
  funext q
  have h1 := mj_pc_r (q % 8) (Nat.mod_lt _ (by decide))
  have h2 := mj_lc_r ((q - 960) % 11) (Nat.mod_lt _ (by decide))
  have h3' := mj_rc_r ((q - 1114) % 5) (Nat.mod_lt _ (by decide))
  have h4 := mj_tc_r ((q - 1164) % 6) (Nat.mod_lt _ (by decide))
  have hcs : (c = 0 ∨ c = 8 ∨ c = 1 ∨ c = 20 ∨ c = 28) := by
    match i, hi, h3 with
    | 0, _, h => cases h; decide
    | 1, _, h => cases h; decide
    | 2, _, h => cases h; decide
    | 3, _, h => cases h; decide
    | 4, _, h => cases h; decide
    | 5, _, h => cases h; decide
  unfold upd mj_en1
  simp only [mj_u_at]
  by_cases a1 : q < 960
  · rw [if_neg (by omega), if_pos a1, if_pos a1, if_neg (by omega)]
  rw [if_neg a1, if_neg a1]
  by_cases a2 : q < 1114
  · rw [if_neg (by omega), if_pos a2, if_pos a2, if_neg (by omega)]
  rw [if_neg a2, if_neg a2]
  by_cases a3 : q < 1164
  · rw [if_neg (by omega), if_pos a3, if_pos a3, if_neg (by omega)]
  rw [if_neg a3, if_neg a3]
  by_cases a4 : q < 1236
  · rw [if_neg (by omega), if_pos a4, if_pos a4, if_neg (by omega)]
  rw [if_neg a4, if_neg a4]
  obtain ⟨r, rfl⟩ : ∃ r, q = 1236 + r := ⟨q - 1236, by omega⟩
  clear h1 h2 h3' h4 hcs a1 a2 a3 a4
  match i, hi, h3 with
  | 0, _, h => cases h; by_cases e : r = 0 <;> simp [e]
  | 1, _, h =>
    cases h
    by_cases e : r = 1
    · simp [e]
    · have e2 : ¬ 1236 + r = 1237 := by omega
      simp [e2]
  | 2, _, h =>
    cases h
    by_cases e : r = 2
    · simp [e]
    · have e2 : ¬ 1236 + r = 1238 := by omega
      simp [e2]
  | 3, _, h =>
    cases h
    by_cases e : r = 3
    · simp [e]
    · have e2 : ¬ 1236 + r = 1239 := by omega
      simp [e2]
  | 4, _, h =>
    cases h
    by_cases e : r = 4
    · simp [e]
    · have e2 : ¬ 1236 + r = 1240 := by omega
      simp [e2]
  | 5, _, h =>
    cases h
    by_cases e : r = 5
    · simp [e]
    · have e2 : ¬ 1236 + r = 1241 := by omega
      simp [e2]
theorem mj_rP0 {Z X : mj_M} {x : Int32} (h : vp_in x 120) : mj_mm Z X 1 (8 * x + 0).toNatClampNeg = Z 22 x.toNatClampNeg := by
  have e := (mj_x8 8 0 h (by decide) (by decide) (by decide)).1
  have hl := mj_xlt h
  rw [show (8 * x + 0 : Int32) = nI 8 * x + nI 0 from rfl, e, mj_mm_1]
  exact mj_gP Z 0 hl (by decide)
theorem mj_wP0 {Z X : mj_M} {x v : Int32} (h : vp_in x 120) : mj_u (mj_mm Z X) 1 (8 * x + 0).toNatClampNeg v = mj_mm (mj_u Z 22 x.toNatClampNeg v) X := by
  have e := (mj_x8 8 0 h (by decide) (by decide) (by decide)).1
  have hl := mj_xlt h
  refine mj_mm_w1 Z X _ _ v ?_
  rw [show (8 * x + 0 : Int32) = nI 8 * x + nI 0 from rfl, e, show 8 * x.toNatClampNeg + 0 = 8 * x.toNatClampNeg + 0 by omega]
  exact mj_eP Z v hl (by decide)
theorem mj_vP0 {x : Int32} (h : vp_in x 120) : vp_in (8 * x + 0) 1242 := (mj_x8 8 0 h (by decide) (by decide) (by decide)).2 1242 (by decide) (by decide)
theorem mj_rP1 {Z X : mj_M} {x : Int32} (h : vp_in x 120) : mj_mm Z X 1 (8 * x + 1).toNatClampNeg = Z 21 x.toNatClampNeg := by
  have e := (mj_x8 8 1 h (by decide) (by decide) (by decide)).1
  have hl := mj_xlt h
  rw [show (8 * x + 1 : Int32) = nI 8 * x + nI 1 from rfl, e, mj_mm_1]
  exact mj_gP Z 1 hl (by decide)
theorem mj_wP1 {Z X : mj_M} {x v : Int32} (h : vp_in x 120) : mj_u (mj_mm Z X) 1 (8 * x + 1).toNatClampNeg v = mj_mm (mj_u Z 21 x.toNatClampNeg v) X := by
  have e := (mj_x8 8 1 h (by decide) (by decide) (by decide)).1
  have hl := mj_xlt h
  refine mj_mm_w1 Z X _ _ v ?_
  rw [show (8 * x + 1 : Int32) = nI 8 * x + nI 1 from rfl, e, show 8 * x.toNatClampNeg + 1 = 8 * x.toNatClampNeg + 1 by omega]
  exact mj_eP Z v hl (by decide)
theorem mj_vP1 {x : Int32} (h : vp_in x 120) : vp_in (8 * x + 1) 1242 := (mj_x8 8 1 h (by decide) (by decide) (by decide)).2 1242 (by decide) (by decide)
theorem mj_rP2 {Z X : mj_M} {x : Int32} (h : vp_in x 120) : mj_mm Z X 1 (8 * x + 2).toNatClampNeg = Z 23 x.toNatClampNeg := by
  have e := (mj_x8 8 2 h (by decide) (by decide) (by decide)).1
  have hl := mj_xlt h
  rw [show (8 * x + 2 : Int32) = nI 8 * x + nI 2 from rfl, e, mj_mm_1]
  exact mj_gP Z 2 hl (by decide)
theorem mj_wP2 {Z X : mj_M} {x v : Int32} (h : vp_in x 120) : mj_u (mj_mm Z X) 1 (8 * x + 2).toNatClampNeg v = mj_mm (mj_u Z 23 x.toNatClampNeg v) X := by
  have e := (mj_x8 8 2 h (by decide) (by decide) (by decide)).1
  have hl := mj_xlt h
  refine mj_mm_w1 Z X _ _ v ?_
  rw [show (8 * x + 2 : Int32) = nI 8 * x + nI 2 from rfl, e, show 8 * x.toNatClampNeg + 2 = 8 * x.toNatClampNeg + 2 by omega]
  exact mj_eP Z v hl (by decide)
theorem mj_vP2 {x : Int32} (h : vp_in x 120) : vp_in (8 * x + 2) 1242 := (mj_x8 8 2 h (by decide) (by decide) (by decide)).2 1242 (by decide) (by decide)
theorem mj_rP3 {Z X : mj_M} {x : Int32} (h : vp_in x 120) : mj_mm Z X 1 (8 * x + 3).toNatClampNeg = Z 24 x.toNatClampNeg := by
  have e := (mj_x8 8 3 h (by decide) (by decide) (by decide)).1
  have hl := mj_xlt h
  rw [show (8 * x + 3 : Int32) = nI 8 * x + nI 3 from rfl, e, mj_mm_1]
  exact mj_gP Z 3 hl (by decide)
theorem mj_wP3 {Z X : mj_M} {x v : Int32} (h : vp_in x 120) : mj_u (mj_mm Z X) 1 (8 * x + 3).toNatClampNeg v = mj_mm (mj_u Z 24 x.toNatClampNeg v) X := by
  have e := (mj_x8 8 3 h (by decide) (by decide) (by decide)).1
  have hl := mj_xlt h
  refine mj_mm_w1 Z X _ _ v ?_
  rw [show (8 * x + 3 : Int32) = nI 8 * x + nI 3 from rfl, e, show 8 * x.toNatClampNeg + 3 = 8 * x.toNatClampNeg + 3 by omega]
  exact mj_eP Z v hl (by decide)
theorem mj_vP3 {x : Int32} (h : vp_in x 120) : vp_in (8 * x + 3) 1242 := (mj_x8 8 3 h (by decide) (by decide) (by decide)).2 1242 (by decide) (by decide)
theorem mj_rP4 {Z X : mj_M} {x : Int32} (h : vp_in x 120) : mj_mm Z X 1 (8 * x + 4).toNatClampNeg = Z 25 x.toNatClampNeg := by
  have e := (mj_x8 8 4 h (by decide) (by decide) (by decide)).1
  have hl := mj_xlt h
  rw [show (8 * x + 4 : Int32) = nI 8 * x + nI 4 from rfl, e, mj_mm_1]
  exact mj_gP Z 4 hl (by decide)
theorem mj_wP4 {Z X : mj_M} {x v : Int32} (h : vp_in x 120) : mj_u (mj_mm Z X) 1 (8 * x + 4).toNatClampNeg v = mj_mm (mj_u Z 25 x.toNatClampNeg v) X := by
  have e := (mj_x8 8 4 h (by decide) (by decide) (by decide)).1
  have hl := mj_xlt h
  refine mj_mm_w1 Z X _ _ v ?_
  rw [show (8 * x + 4 : Int32) = nI 8 * x + nI 4 from rfl, e, show 8 * x.toNatClampNeg + 4 = 8 * x.toNatClampNeg + 4 by omega]
  exact mj_eP Z v hl (by decide)
theorem mj_vP4 {x : Int32} (h : vp_in x 120) : vp_in (8 * x + 4) 1242 := (mj_x8 8 4 h (by decide) (by decide) (by decide)).2 1242 (by decide) (by decide)
theorem mj_rP5 {Z X : mj_M} {x : Int32} (h : vp_in x 120) : mj_mm Z X 1 (8 * x + 5).toNatClampNeg = Z 40 x.toNatClampNeg := by
  have e := (mj_x8 8 5 h (by decide) (by decide) (by decide)).1
  have hl := mj_xlt h
  rw [show (8 * x + 5 : Int32) = nI 8 * x + nI 5 from rfl, e, mj_mm_1]
  exact mj_gP Z 5 hl (by decide)
theorem mj_wP5 {Z X : mj_M} {x v : Int32} (h : vp_in x 120) : mj_u (mj_mm Z X) 1 (8 * x + 5).toNatClampNeg v = mj_mm (mj_u Z 40 x.toNatClampNeg v) X := by
  have e := (mj_x8 8 5 h (by decide) (by decide) (by decide)).1
  have hl := mj_xlt h
  refine mj_mm_w1 Z X _ _ v ?_
  rw [show (8 * x + 5 : Int32) = nI 8 * x + nI 5 from rfl, e, show 8 * x.toNatClampNeg + 5 = 8 * x.toNatClampNeg + 5 by omega]
  exact mj_eP Z v hl (by decide)
theorem mj_vP5 {x : Int32} (h : vp_in x 120) : vp_in (8 * x + 5) 1242 := (mj_x8 8 5 h (by decide) (by decide) (by decide)).2 1242 (by decide) (by decide)
theorem mj_rP6 {Z X : mj_M} {x : Int32} (h : vp_in x 120) : mj_mm Z X 1 (8 * x + 6).toNatClampNeg = Z 27 x.toNatClampNeg := by
  have e := (mj_x8 8 6 h (by decide) (by decide) (by decide)).1
  have hl := mj_xlt h
  rw [show (8 * x + 6 : Int32) = nI 8 * x + nI 6 from rfl, e, mj_mm_1]
  exact mj_gP Z 6 hl (by decide)
theorem mj_wP6 {Z X : mj_M} {x v : Int32} (h : vp_in x 120) : mj_u (mj_mm Z X) 1 (8 * x + 6).toNatClampNeg v = mj_mm (mj_u Z 27 x.toNatClampNeg v) X := by
  have e := (mj_x8 8 6 h (by decide) (by decide) (by decide)).1
  have hl := mj_xlt h
  refine mj_mm_w1 Z X _ _ v ?_
  rw [show (8 * x + 6 : Int32) = nI 8 * x + nI 6 from rfl, e, show 8 * x.toNatClampNeg + 6 = 8 * x.toNatClampNeg + 6 by omega]
  exact mj_eP Z v hl (by decide)
theorem mj_vP6 {x : Int32} (h : vp_in x 120) : vp_in (8 * x + 6) 1242 := (mj_x8 8 6 h (by decide) (by decide) (by decide)).2 1242 (by decide) (by decide)
theorem mj_rP7 {Z X : mj_M} {x : Int32} (h : vp_in x 120) : mj_mm Z X 1 (8 * x + 7).toNatClampNeg = Z 26 x.toNatClampNeg := by
  have e := (mj_x8 8 7 h (by decide) (by decide) (by decide)).1
  have hl := mj_xlt h
  rw [show (8 * x + 7 : Int32) = nI 8 * x + nI 7 from rfl, e, mj_mm_1]
  exact mj_gP Z 7 hl (by decide)
theorem mj_wP7 {Z X : mj_M} {x v : Int32} (h : vp_in x 120) : mj_u (mj_mm Z X) 1 (8 * x + 7).toNatClampNeg v = mj_mm (mj_u Z 26 x.toNatClampNeg v) X := by
  have e := (mj_x8 8 7 h (by decide) (by decide) (by decide)).1
  have hl := mj_xlt h
  refine mj_mm_w1 Z X _ _ v ?_
  rw [show (8 * x + 7 : Int32) = nI 8 * x + nI 7 from rfl, e, show 8 * x.toNatClampNeg + 7 = 8 * x.toNatClampNeg + 7 by omega]
  exact mj_eP Z v hl (by decide)
theorem mj_vP7 {x : Int32} (h : vp_in x 120) : vp_in (8 * x + 7) 1242 := (mj_x8 8 7 h (by decide) (by decide) (by decide)).2 1242 (by decide) (by decide)
theorem mj_rL0 {Z X : mj_M} {x : Int32} (h : vp_in x 14) : mj_mm Z X 1 (11 * x + 960).toNatClampNeg = Z 10 x.toNatClampNeg := by
  have e := (mj_x8 11 960 h (by decide) (by decide) (by decide)).1
  have hl := mj_xlt h
  rw [show (11 * x + 960 : Int32) = nI 11 * x + nI 960 from rfl, e, mj_mm_1]
  exact mj_gL Z 0 hl (by decide)
theorem mj_wL0 {Z X : mj_M} {x v : Int32} (h : vp_in x 14) : mj_u (mj_mm Z X) 1 (11 * x + 960).toNatClampNeg v = mj_mm (mj_u Z 10 x.toNatClampNeg v) X := by
  have e := (mj_x8 11 960 h (by decide) (by decide) (by decide)).1
  have hl := mj_xlt h
  refine mj_mm_w1 Z X _ _ v ?_
  rw [show (11 * x + 960 : Int32) = nI 11 * x + nI 960 from rfl, e, show 11 * x.toNatClampNeg + 960 = 960 + 11 * x.toNatClampNeg + 0 by omega]
  exact mj_eL Z v hl (by decide)
theorem mj_vL0 {x : Int32} (h : vp_in x 14) : vp_in (11 * x + 960) 1242 := (mj_x8 11 960 h (by decide) (by decide) (by decide)).2 1242 (by decide) (by decide)
theorem mj_rL1 {Z X : mj_M} {x : Int32} (h : vp_in x 14) : mj_mm Z X 1 (11 * x + 961).toNatClampNeg = Z 11 x.toNatClampNeg := by
  have e := (mj_x8 11 961 h (by decide) (by decide) (by decide)).1
  have hl := mj_xlt h
  rw [show (11 * x + 961 : Int32) = nI 11 * x + nI 961 from rfl, e, mj_mm_1]
  exact mj_gL Z 1 hl (by decide)
theorem mj_wL1 {Z X : mj_M} {x v : Int32} (h : vp_in x 14) : mj_u (mj_mm Z X) 1 (11 * x + 961).toNatClampNeg v = mj_mm (mj_u Z 11 x.toNatClampNeg v) X := by
  have e := (mj_x8 11 961 h (by decide) (by decide) (by decide)).1
  have hl := mj_xlt h
  refine mj_mm_w1 Z X _ _ v ?_
  rw [show (11 * x + 961 : Int32) = nI 11 * x + nI 961 from rfl, e, show 11 * x.toNatClampNeg + 961 = 960 + 11 * x.toNatClampNeg + 1 by omega]
  exact mj_eL Z v hl (by decide)
theorem mj_vL1 {x : Int32} (h : vp_in x 14) : vp_in (11 * x + 961) 1242 := (mj_x8 11 961 h (by decide) (by decide) (by decide)).2 1242 (by decide) (by decide)
theorem mj_rL2 {Z X : mj_M} {x : Int32} (h : vp_in x 14) : mj_mm Z X 1 (11 * x + 962).toNatClampNeg = Z 9 x.toNatClampNeg := by
  have e := (mj_x8 11 962 h (by decide) (by decide) (by decide)).1
  have hl := mj_xlt h
  rw [show (11 * x + 962 : Int32) = nI 11 * x + nI 962 from rfl, e, mj_mm_1]
  exact mj_gL Z 2 hl (by decide)
theorem mj_wL2 {Z X : mj_M} {x v : Int32} (h : vp_in x 14) : mj_u (mj_mm Z X) 1 (11 * x + 962).toNatClampNeg v = mj_mm (mj_u Z 9 x.toNatClampNeg v) X := by
  have e := (mj_x8 11 962 h (by decide) (by decide) (by decide)).1
  have hl := mj_xlt h
  refine mj_mm_w1 Z X _ _ v ?_
  rw [show (11 * x + 962 : Int32) = nI 11 * x + nI 962 from rfl, e, show 11 * x.toNatClampNeg + 962 = 960 + 11 * x.toNatClampNeg + 2 by omega]
  exact mj_eL Z v hl (by decide)
theorem mj_vL2 {x : Int32} (h : vp_in x 14) : vp_in (11 * x + 962) 1242 := (mj_x8 11 962 h (by decide) (by decide) (by decide)).2 1242 (by decide) (by decide)
theorem mj_rL3 {Z X : mj_M} {x : Int32} (h : vp_in x 14) : mj_mm Z X 1 (11 * x + 963).toNatClampNeg = Z 12 x.toNatClampNeg := by
  have e := (mj_x8 11 963 h (by decide) (by decide) (by decide)).1
  have hl := mj_xlt h
  rw [show (11 * x + 963 : Int32) = nI 11 * x + nI 963 from rfl, e, mj_mm_1]
  exact mj_gL Z 3 hl (by decide)
theorem mj_wL3 {Z X : mj_M} {x v : Int32} (h : vp_in x 14) : mj_u (mj_mm Z X) 1 (11 * x + 963).toNatClampNeg v = mj_mm (mj_u Z 12 x.toNatClampNeg v) X := by
  have e := (mj_x8 11 963 h (by decide) (by decide) (by decide)).1
  have hl := mj_xlt h
  refine mj_mm_w1 Z X _ _ v ?_
  rw [show (11 * x + 963 : Int32) = nI 11 * x + nI 963 from rfl, e, show 11 * x.toNatClampNeg + 963 = 960 + 11 * x.toNatClampNeg + 3 by omega]
  exact mj_eL Z v hl (by decide)
theorem mj_vL3 {x : Int32} (h : vp_in x 14) : vp_in (11 * x + 963) 1242 := (mj_x8 11 963 h (by decide) (by decide) (by decide)).2 1242 (by decide) (by decide)
theorem mj_rL4 {Z X : mj_M} {x : Int32} (h : vp_in x 14) : mj_mm Z X 1 (11 * x + 964).toNatClampNeg = Z 13 x.toNatClampNeg := by
  have e := (mj_x8 11 964 h (by decide) (by decide) (by decide)).1
  have hl := mj_xlt h
  rw [show (11 * x + 964 : Int32) = nI 11 * x + nI 964 from rfl, e, mj_mm_1]
  exact mj_gL Z 4 hl (by decide)
theorem mj_wL4 {Z X : mj_M} {x v : Int32} (h : vp_in x 14) : mj_u (mj_mm Z X) 1 (11 * x + 964).toNatClampNeg v = mj_mm (mj_u Z 13 x.toNatClampNeg v) X := by
  have e := (mj_x8 11 964 h (by decide) (by decide) (by decide)).1
  have hl := mj_xlt h
  refine mj_mm_w1 Z X _ _ v ?_
  rw [show (11 * x + 964 : Int32) = nI 11 * x + nI 964 from rfl, e, show 11 * x.toNatClampNeg + 964 = 960 + 11 * x.toNatClampNeg + 4 by omega]
  exact mj_eL Z v hl (by decide)
theorem mj_vL4 {x : Int32} (h : vp_in x 14) : vp_in (11 * x + 964) 1242 := (mj_x8 11 964 h (by decide) (by decide) (by decide)).2 1242 (by decide) (by decide)
theorem mj_rL5 {Z X : mj_M} {x : Int32} (h : vp_in x 14) : mj_mm Z X 1 (11 * x + 965).toNatClampNeg = Z 16 x.toNatClampNeg := by
  have e := (mj_x8 11 965 h (by decide) (by decide) (by decide)).1
  have hl := mj_xlt h
  rw [show (11 * x + 965 : Int32) = nI 11 * x + nI 965 from rfl, e, mj_mm_1]
  exact mj_gL Z 5 hl (by decide)
theorem mj_wL5 {Z X : mj_M} {x v : Int32} (h : vp_in x 14) : mj_u (mj_mm Z X) 1 (11 * x + 965).toNatClampNeg v = mj_mm (mj_u Z 16 x.toNatClampNeg v) X := by
  have e := (mj_x8 11 965 h (by decide) (by decide) (by decide)).1
  have hl := mj_xlt h
  refine mj_mm_w1 Z X _ _ v ?_
  rw [show (11 * x + 965 : Int32) = nI 11 * x + nI 965 from rfl, e, show 11 * x.toNatClampNeg + 965 = 960 + 11 * x.toNatClampNeg + 5 by omega]
  exact mj_eL Z v hl (by decide)
theorem mj_vL5 {x : Int32} (h : vp_in x 14) : vp_in (11 * x + 965) 1242 := (mj_x8 11 965 h (by decide) (by decide) (by decide)).2 1242 (by decide) (by decide)
theorem mj_rL6 {Z X : mj_M} {x : Int32} (h : vp_in x 14) : mj_mm Z X 1 (11 * x + 966).toNatClampNeg = Z 17 x.toNatClampNeg := by
  have e := (mj_x8 11 966 h (by decide) (by decide) (by decide)).1
  have hl := mj_xlt h
  rw [show (11 * x + 966 : Int32) = nI 11 * x + nI 966 from rfl, e, mj_mm_1]
  exact mj_gL Z 6 hl (by decide)
theorem mj_wL6 {Z X : mj_M} {x v : Int32} (h : vp_in x 14) : mj_u (mj_mm Z X) 1 (11 * x + 966).toNatClampNeg v = mj_mm (mj_u Z 17 x.toNatClampNeg v) X := by
  have e := (mj_x8 11 966 h (by decide) (by decide) (by decide)).1
  have hl := mj_xlt h
  refine mj_mm_w1 Z X _ _ v ?_
  rw [show (11 * x + 966 : Int32) = nI 11 * x + nI 966 from rfl, e, show 11 * x.toNatClampNeg + 966 = 960 + 11 * x.toNatClampNeg + 6 by omega]
  exact mj_eL Z v hl (by decide)
theorem mj_vL6 {x : Int32} (h : vp_in x 14) : vp_in (11 * x + 966) 1242 := (mj_x8 11 966 h (by decide) (by decide) (by decide)).2 1242 (by decide) (by decide)
theorem mj_rL7 {Z X : mj_M} {x : Int32} (h : vp_in x 14) : mj_mm Z X 1 (11 * x + 967).toNatClampNeg = Z 18 x.toNatClampNeg := by
  have e := (mj_x8 11 967 h (by decide) (by decide) (by decide)).1
  have hl := mj_xlt h
  rw [show (11 * x + 967 : Int32) = nI 11 * x + nI 967 from rfl, e, mj_mm_1]
  exact mj_gL Z 7 hl (by decide)
theorem mj_wL7 {Z X : mj_M} {x v : Int32} (h : vp_in x 14) : mj_u (mj_mm Z X) 1 (11 * x + 967).toNatClampNeg v = mj_mm (mj_u Z 18 x.toNatClampNeg v) X := by
  have e := (mj_x8 11 967 h (by decide) (by decide) (by decide)).1
  have hl := mj_xlt h
  refine mj_mm_w1 Z X _ _ v ?_
  rw [show (11 * x + 967 : Int32) = nI 11 * x + nI 967 from rfl, e, show 11 * x.toNatClampNeg + 967 = 960 + 11 * x.toNatClampNeg + 7 by omega]
  exact mj_eL Z v hl (by decide)
theorem mj_vL7 {x : Int32} (h : vp_in x 14) : vp_in (11 * x + 967) 1242 := (mj_x8 11 967 h (by decide) (by decide) (by decide)).2 1242 (by decide) (by decide)
theorem mj_rL8 {Z X : mj_M} {x : Int32} (h : vp_in x 14) : mj_mm Z X 1 (11 * x + 968).toNatClampNeg = Z 19 x.toNatClampNeg := by
  have e := (mj_x8 11 968 h (by decide) (by decide) (by decide)).1
  have hl := mj_xlt h
  rw [show (11 * x + 968 : Int32) = nI 11 * x + nI 968 from rfl, e, mj_mm_1]
  exact mj_gL Z 8 hl (by decide)
theorem mj_wL8 {Z X : mj_M} {x v : Int32} (h : vp_in x 14) : mj_u (mj_mm Z X) 1 (11 * x + 968).toNatClampNeg v = mj_mm (mj_u Z 19 x.toNatClampNeg v) X := by
  have e := (mj_x8 11 968 h (by decide) (by decide) (by decide)).1
  have hl := mj_xlt h
  refine mj_mm_w1 Z X _ _ v ?_
  rw [show (11 * x + 968 : Int32) = nI 11 * x + nI 968 from rfl, e, show 11 * x.toNatClampNeg + 968 = 960 + 11 * x.toNatClampNeg + 8 by omega]
  exact mj_eL Z v hl (by decide)
theorem mj_vL8 {x : Int32} (h : vp_in x 14) : vp_in (11 * x + 968) 1242 := (mj_x8 11 968 h (by decide) (by decide) (by decide)).2 1242 (by decide) (by decide)
theorem mj_rL9 {Z X : mj_M} {x : Int32} (h : vp_in x 14) : mj_mm Z X 1 (11 * x + 969).toNatClampNeg = Z 14 x.toNatClampNeg := by
  have e := (mj_x8 11 969 h (by decide) (by decide) (by decide)).1
  have hl := mj_xlt h
  rw [show (11 * x + 969 : Int32) = nI 11 * x + nI 969 from rfl, e, mj_mm_1]
  exact mj_gL Z 9 hl (by decide)
theorem mj_wL9 {Z X : mj_M} {x v : Int32} (h : vp_in x 14) : mj_u (mj_mm Z X) 1 (11 * x + 969).toNatClampNeg v = mj_mm (mj_u Z 14 x.toNatClampNeg v) X := by
  have e := (mj_x8 11 969 h (by decide) (by decide) (by decide)).1
  have hl := mj_xlt h
  refine mj_mm_w1 Z X _ _ v ?_
  rw [show (11 * x + 969 : Int32) = nI 11 * x + nI 969 from rfl, e, show 11 * x.toNatClampNeg + 969 = 960 + 11 * x.toNatClampNeg + 9 by omega]
  exact mj_eL Z v hl (by decide)
theorem mj_vL9 {x : Int32} (h : vp_in x 14) : vp_in (11 * x + 969) 1242 := (mj_x8 11 969 h (by decide) (by decide) (by decide)).2 1242 (by decide) (by decide)
theorem mj_rL10 {Z X : mj_M} {x : Int32} (h : vp_in x 14) : mj_mm Z X 1 (11 * x + 970).toNatClampNeg = Z 15 x.toNatClampNeg := by
  have e := (mj_x8 11 970 h (by decide) (by decide) (by decide)).1
  have hl := mj_xlt h
  rw [show (11 * x + 970 : Int32) = nI 11 * x + nI 970 from rfl, e, mj_mm_1]
  exact mj_gL Z 10 hl (by decide)
theorem mj_wL10 {Z X : mj_M} {x v : Int32} (h : vp_in x 14) : mj_u (mj_mm Z X) 1 (11 * x + 970).toNatClampNeg v = mj_mm (mj_u Z 15 x.toNatClampNeg v) X := by
  have e := (mj_x8 11 970 h (by decide) (by decide) (by decide)).1
  have hl := mj_xlt h
  refine mj_mm_w1 Z X _ _ v ?_
  rw [show (11 * x + 970 : Int32) = nI 11 * x + nI 970 from rfl, e, show 11 * x.toNatClampNeg + 970 = 960 + 11 * x.toNatClampNeg + 10 by omega]
  exact mj_eL Z v hl (by decide)
theorem mj_vL10 {x : Int32} (h : vp_in x 14) : vp_in (11 * x + 970) 1242 := (mj_x8 11 970 h (by decide) (by decide) (by decide)).2 1242 (by decide) (by decide)
theorem mj_rR0 {Z X : mj_M} {x : Int32} (h : vp_in x 10) : mj_mm Z X 1 (5 * x + 1114).toNatClampNeg = Z 2 x.toNatClampNeg := by
  have e := (mj_x8 5 1114 h (by decide) (by decide) (by decide)).1
  have hl := mj_xlt h
  rw [show (5 * x + 1114 : Int32) = nI 5 * x + nI 1114 from rfl, e, mj_mm_1]
  exact mj_gR Z 0 hl (by decide)
theorem mj_wR0 {Z X : mj_M} {x v : Int32} (h : vp_in x 10) : mj_u (mj_mm Z X) 1 (5 * x + 1114).toNatClampNeg v = mj_mm (mj_u Z 2 x.toNatClampNeg v) X := by
  have e := (mj_x8 5 1114 h (by decide) (by decide) (by decide)).1
  have hl := mj_xlt h
  refine mj_mm_w1 Z X _ _ v ?_
  rw [show (5 * x + 1114 : Int32) = nI 5 * x + nI 1114 from rfl, e, show 5 * x.toNatClampNeg + 1114 = 1114 + 5 * x.toNatClampNeg + 0 by omega]
  exact mj_eR Z v hl (by decide)
theorem mj_vR0 {x : Int32} (h : vp_in x 10) : vp_in (5 * x + 1114) 1242 := (mj_x8 5 1114 h (by decide) (by decide) (by decide)).2 1242 (by decide) (by decide)
theorem mj_rR1 {Z X : mj_M} {x : Int32} (h : vp_in x 10) : mj_mm Z X 1 (5 * x + 1115).toNatClampNeg = Z 3 x.toNatClampNeg := by
  have e := (mj_x8 5 1115 h (by decide) (by decide) (by decide)).1
  have hl := mj_xlt h
  rw [show (5 * x + 1115 : Int32) = nI 5 * x + nI 1115 from rfl, e, mj_mm_1]
  exact mj_gR Z 1 hl (by decide)
theorem mj_wR1 {Z X : mj_M} {x v : Int32} (h : vp_in x 10) : mj_u (mj_mm Z X) 1 (5 * x + 1115).toNatClampNeg v = mj_mm (mj_u Z 3 x.toNatClampNeg v) X := by
  have e := (mj_x8 5 1115 h (by decide) (by decide) (by decide)).1
  have hl := mj_xlt h
  refine mj_mm_w1 Z X _ _ v ?_
  rw [show (5 * x + 1115 : Int32) = nI 5 * x + nI 1115 from rfl, e, show 5 * x.toNatClampNeg + 1115 = 1114 + 5 * x.toNatClampNeg + 1 by omega]
  exact mj_eR Z v hl (by decide)
theorem mj_vR1 {x : Int32} (h : vp_in x 10) : vp_in (5 * x + 1115) 1242 := (mj_x8 5 1115 h (by decide) (by decide) (by decide)).2 1242 (by decide) (by decide)
theorem mj_rR2 {Z X : mj_M} {x : Int32} (h : vp_in x 10) : mj_mm Z X 1 (5 * x + 1116).toNatClampNeg = Z 7 x.toNatClampNeg := by
  have e := (mj_x8 5 1116 h (by decide) (by decide) (by decide)).1
  have hl := mj_xlt h
  rw [show (5 * x + 1116 : Int32) = nI 5 * x + nI 1116 from rfl, e, mj_mm_1]
  exact mj_gR Z 2 hl (by decide)
theorem mj_wR2 {Z X : mj_M} {x v : Int32} (h : vp_in x 10) : mj_u (mj_mm Z X) 1 (5 * x + 1116).toNatClampNeg v = mj_mm (mj_u Z 7 x.toNatClampNeg v) X := by
  have e := (mj_x8 5 1116 h (by decide) (by decide) (by decide)).1
  have hl := mj_xlt h
  refine mj_mm_w1 Z X _ _ v ?_
  rw [show (5 * x + 1116 : Int32) = nI 5 * x + nI 1116 from rfl, e, show 5 * x.toNatClampNeg + 1116 = 1114 + 5 * x.toNatClampNeg + 2 by omega]
  exact mj_eR Z v hl (by decide)
theorem mj_vR2 {x : Int32} (h : vp_in x 10) : vp_in (5 * x + 1116) 1242 := (mj_x8 5 1116 h (by decide) (by decide) (by decide)).2 1242 (by decide) (by decide)
theorem mj_rR3 {Z X : mj_M} {x : Int32} (h : vp_in x 10) : mj_mm Z X 1 (5 * x + 1117).toNatClampNeg = Z 5 x.toNatClampNeg := by
  have e := (mj_x8 5 1117 h (by decide) (by decide) (by decide)).1
  have hl := mj_xlt h
  rw [show (5 * x + 1117 : Int32) = nI 5 * x + nI 1117 from rfl, e, mj_mm_1]
  exact mj_gR Z 3 hl (by decide)
theorem mj_wR3 {Z X : mj_M} {x v : Int32} (h : vp_in x 10) : mj_u (mj_mm Z X) 1 (5 * x + 1117).toNatClampNeg v = mj_mm (mj_u Z 5 x.toNatClampNeg v) X := by
  have e := (mj_x8 5 1117 h (by decide) (by decide) (by decide)).1
  have hl := mj_xlt h
  refine mj_mm_w1 Z X _ _ v ?_
  rw [show (5 * x + 1117 : Int32) = nI 5 * x + nI 1117 from rfl, e, show 5 * x.toNatClampNeg + 1117 = 1114 + 5 * x.toNatClampNeg + 3 by omega]
  exact mj_eR Z v hl (by decide)
theorem mj_vR3 {x : Int32} (h : vp_in x 10) : vp_in (5 * x + 1117) 1242 := (mj_x8 5 1117 h (by decide) (by decide) (by decide)).2 1242 (by decide) (by decide)
theorem mj_rR4 {Z X : mj_M} {x : Int32} (h : vp_in x 10) : mj_mm Z X 1 (5 * x + 1118).toNatClampNeg = Z 6 x.toNatClampNeg := by
  have e := (mj_x8 5 1118 h (by decide) (by decide) (by decide)).1
  have hl := mj_xlt h
  rw [show (5 * x + 1118 : Int32) = nI 5 * x + nI 1118 from rfl, e, mj_mm_1]
  exact mj_gR Z 4 hl (by decide)
theorem mj_wR4 {Z X : mj_M} {x v : Int32} (h : vp_in x 10) : mj_u (mj_mm Z X) 1 (5 * x + 1118).toNatClampNeg v = mj_mm (mj_u Z 6 x.toNatClampNeg v) X := by
  have e := (mj_x8 5 1118 h (by decide) (by decide) (by decide)).1
  have hl := mj_xlt h
  refine mj_mm_w1 Z X _ _ v ?_
  rw [show (5 * x + 1118 : Int32) = nI 5 * x + nI 1118 from rfl, e, show 5 * x.toNatClampNeg + 1118 = 1114 + 5 * x.toNatClampNeg + 4 by omega]
  exact mj_eR Z v hl (by decide)
theorem mj_vR4 {x : Int32} (h : vp_in x 10) : vp_in (5 * x + 1118) 1242 := (mj_x8 5 1118 h (by decide) (by decide) (by decide)).2 1242 (by decide) (by decide)
theorem mj_rT0 {Z X : mj_M} {x : Int32} (h : vp_in x 12) : mj_mm Z X 1 (6 * x + 1164).toNatClampNeg = Z 29 x.toNatClampNeg := by
  have e := (mj_x8 6 1164 h (by decide) (by decide) (by decide)).1
  have hl := mj_xlt h
  rw [show (6 * x + 1164 : Int32) = nI 6 * x + nI 1164 from rfl, e, mj_mm_1]
  exact mj_gT Z 0 hl (by decide)
theorem mj_wT0 {Z X : mj_M} {x v : Int32} (h : vp_in x 12) : mj_u (mj_mm Z X) 1 (6 * x + 1164).toNatClampNeg v = mj_mm (mj_u Z 29 x.toNatClampNeg v) X := by
  have e := (mj_x8 6 1164 h (by decide) (by decide) (by decide)).1
  have hl := mj_xlt h
  refine mj_mm_w1 Z X _ _ v ?_
  rw [show (6 * x + 1164 : Int32) = nI 6 * x + nI 1164 from rfl, e, show 6 * x.toNatClampNeg + 1164 = 1164 + 6 * x.toNatClampNeg + 0 by omega]
  exact mj_eT Z v hl (by decide)
theorem mj_vT0 {x : Int32} (h : vp_in x 12) : vp_in (6 * x + 1164) 1242 := (mj_x8 6 1164 h (by decide) (by decide) (by decide)).2 1242 (by decide) (by decide)
theorem mj_rT1 {Z X : mj_M} {x : Int32} (h : vp_in x 12) : mj_mm Z X 1 (6 * x + 1165).toNatClampNeg = Z 33 x.toNatClampNeg := by
  have e := (mj_x8 6 1165 h (by decide) (by decide) (by decide)).1
  have hl := mj_xlt h
  rw [show (6 * x + 1165 : Int32) = nI 6 * x + nI 1165 from rfl, e, mj_mm_1]
  exact mj_gT Z 1 hl (by decide)
theorem mj_wT1 {Z X : mj_M} {x v : Int32} (h : vp_in x 12) : mj_u (mj_mm Z X) 1 (6 * x + 1165).toNatClampNeg v = mj_mm (mj_u Z 33 x.toNatClampNeg v) X := by
  have e := (mj_x8 6 1165 h (by decide) (by decide) (by decide)).1
  have hl := mj_xlt h
  refine mj_mm_w1 Z X _ _ v ?_
  rw [show (6 * x + 1165 : Int32) = nI 6 * x + nI 1165 from rfl, e, show 6 * x.toNatClampNeg + 1165 = 1164 + 6 * x.toNatClampNeg + 1 by omega]
  exact mj_eT Z v hl (by decide)
theorem mj_vT1 {x : Int32} (h : vp_in x 12) : vp_in (6 * x + 1165) 1242 := (mj_x8 6 1165 h (by decide) (by decide) (by decide)).2 1242 (by decide) (by decide)
theorem mj_rT2 {Z X : mj_M} {x : Int32} (h : vp_in x 12) : mj_mm Z X 1 (6 * x + 1166).toNatClampNeg = Z 34 x.toNatClampNeg := by
  have e := (mj_x8 6 1166 h (by decide) (by decide) (by decide)).1
  have hl := mj_xlt h
  rw [show (6 * x + 1166 : Int32) = nI 6 * x + nI 1166 from rfl, e, mj_mm_1]
  exact mj_gT Z 2 hl (by decide)
theorem mj_wT2 {Z X : mj_M} {x v : Int32} (h : vp_in x 12) : mj_u (mj_mm Z X) 1 (6 * x + 1166).toNatClampNeg v = mj_mm (mj_u Z 34 x.toNatClampNeg v) X := by
  have e := (mj_x8 6 1166 h (by decide) (by decide) (by decide)).1
  have hl := mj_xlt h
  refine mj_mm_w1 Z X _ _ v ?_
  rw [show (6 * x + 1166 : Int32) = nI 6 * x + nI 1166 from rfl, e, show 6 * x.toNatClampNeg + 1166 = 1164 + 6 * x.toNatClampNeg + 2 by omega]
  exact mj_eT Z v hl (by decide)
theorem mj_vT2 {x : Int32} (h : vp_in x 12) : vp_in (6 * x + 1166) 1242 := (mj_x8 6 1166 h (by decide) (by decide) (by decide)).2 1242 (by decide) (by decide)
theorem mj_rT3 {Z X : mj_M} {x : Int32} (h : vp_in x 12) : mj_mm Z X 1 (6 * x + 1167).toNatClampNeg = Z 30 x.toNatClampNeg := by
  have e := (mj_x8 6 1167 h (by decide) (by decide) (by decide)).1
  have hl := mj_xlt h
  rw [show (6 * x + 1167 : Int32) = nI 6 * x + nI 1167 from rfl, e, mj_mm_1]
  exact mj_gT Z 3 hl (by decide)
theorem mj_wT3 {Z X : mj_M} {x v : Int32} (h : vp_in x 12) : mj_u (mj_mm Z X) 1 (6 * x + 1167).toNatClampNeg v = mj_mm (mj_u Z 30 x.toNatClampNeg v) X := by
  have e := (mj_x8 6 1167 h (by decide) (by decide) (by decide)).1
  have hl := mj_xlt h
  refine mj_mm_w1 Z X _ _ v ?_
  rw [show (6 * x + 1167 : Int32) = nI 6 * x + nI 1167 from rfl, e, show 6 * x.toNatClampNeg + 1167 = 1164 + 6 * x.toNatClampNeg + 3 by omega]
  exact mj_eT Z v hl (by decide)
theorem mj_vT3 {x : Int32} (h : vp_in x 12) : vp_in (6 * x + 1167) 1242 := (mj_x8 6 1167 h (by decide) (by decide) (by decide)).2 1242 (by decide) (by decide)
theorem mj_rT4 {Z X : mj_M} {x : Int32} (h : vp_in x 12) : mj_mm Z X 1 (6 * x + 1168).toNatClampNeg = Z 31 x.toNatClampNeg := by
  have e := (mj_x8 6 1168 h (by decide) (by decide) (by decide)).1
  have hl := mj_xlt h
  rw [show (6 * x + 1168 : Int32) = nI 6 * x + nI 1168 from rfl, e, mj_mm_1]
  exact mj_gT Z 4 hl (by decide)
theorem mj_wT4 {Z X : mj_M} {x v : Int32} (h : vp_in x 12) : mj_u (mj_mm Z X) 1 (6 * x + 1168).toNatClampNeg v = mj_mm (mj_u Z 31 x.toNatClampNeg v) X := by
  have e := (mj_x8 6 1168 h (by decide) (by decide) (by decide)).1
  have hl := mj_xlt h
  refine mj_mm_w1 Z X _ _ v ?_
  rw [show (6 * x + 1168 : Int32) = nI 6 * x + nI 1168 from rfl, e, show 6 * x.toNatClampNeg + 1168 = 1164 + 6 * x.toNatClampNeg + 4 by omega]
  exact mj_eT Z v hl (by decide)
theorem mj_vT4 {x : Int32} (h : vp_in x 12) : vp_in (6 * x + 1168) 1242 := (mj_x8 6 1168 h (by decide) (by decide) (by decide)).2 1242 (by decide) (by decide)
theorem mj_rT5 {Z X : mj_M} {x : Int32} (h : vp_in x 12) : mj_mm Z X 1 (6 * x + 1169).toNatClampNeg = Z 32 x.toNatClampNeg := by
  have e := (mj_x8 6 1169 h (by decide) (by decide) (by decide)).1
  have hl := mj_xlt h
  rw [show (6 * x + 1169 : Int32) = nI 6 * x + nI 1169 from rfl, e, mj_mm_1]
  exact mj_gT Z 5 hl (by decide)
theorem mj_wT5 {Z X : mj_M} {x v : Int32} (h : vp_in x 12) : mj_u (mj_mm Z X) 1 (6 * x + 1169).toNatClampNeg v = mj_mm (mj_u Z 32 x.toNatClampNeg v) X := by
  have e := (mj_x8 6 1169 h (by decide) (by decide) (by decide)).1
  have hl := mj_xlt h
  refine mj_mm_w1 Z X _ _ v ?_
  rw [show (6 * x + 1169 : Int32) = nI 6 * x + nI 1169 from rfl, e, show 6 * x.toNatClampNeg + 1169 = 1164 + 6 * x.toNatClampNeg + 5 by omega]
  exact mj_eT Z v hl (by decide)
theorem mj_vT5 {x : Int32} (h : vp_in x 12) : vp_in (6 * x + 1169) 1242 := (mj_x8 6 1169 h (by decide) (by decide) (by decide)).2 1242 (by decide) (by decide)
theorem mj_rS1236 {Z X : mj_M} : mj_mm Z X 1 1236 = Z 0 5 := rfl
theorem mj_wS1236 {Z X : mj_M} {v : Int32} : mj_u (mj_mm Z X) 1 1236 v = mj_mm (mj_u Z 0 5 v) X := by
  refine mj_mm_w1 Z X _ _ v ?_
  exact mj_eS Z 1236 0 5 v (by decide) (by decide) (by decide)
theorem mj_rS1237 {Z X : mj_M} : mj_mm Z X 1 1237 = Z 8 1 := rfl
theorem mj_wS1237 {Z X : mj_M} {v : Int32} : mj_u (mj_mm Z X) 1 1237 v = mj_mm (mj_u Z 8 1 v) X := by
  refine mj_mm_w1 Z X _ _ v ?_
  exact mj_eS Z 1237 8 1 v (by decide) (by decide) (by decide)
theorem mj_rS1238 {Z X : mj_M} : mj_mm Z X 1 1238 = Z 1 0 := rfl
theorem mj_wS1238 {Z X : mj_M} {v : Int32} : mj_u (mj_mm Z X) 1 1238 v = mj_mm (mj_u Z 1 0 v) X := by
  refine mj_mm_w1 Z X _ _ v ?_
  exact mj_eS Z 1238 1 0 v (by decide) (by decide) (by decide)
theorem mj_rS1239 {Z X : mj_M} : mj_mm Z X 1 1239 = Z 8 0 := rfl
theorem mj_wS1239 {Z X : mj_M} {v : Int32} : mj_u (mj_mm Z X) 1 1239 v = mj_mm (mj_u Z 8 0 v) X := by
  refine mj_mm_w1 Z X _ _ v ?_
  exact mj_eS Z 1239 8 0 v (by decide) (by decide) (by decide)
theorem mj_rS1240 {Z X : mj_M} : mj_mm Z X 1 1240 = Z 20 0 := rfl
theorem mj_wS1240 {Z X : mj_M} {v : Int32} : mj_u (mj_mm Z X) 1 1240 v = mj_mm (mj_u Z 20 0 v) X := by
  refine mj_mm_w1 Z X _ _ v ?_
  exact mj_eS Z 1240 20 0 v (by decide) (by decide) (by decide)
theorem mj_rS1241 {Z X : mj_M} : mj_mm Z X 1 1241 = Z 28 0 := rfl
theorem mj_wS1241 {Z X : mj_M} {v : Int32} : mj_u (mj_mm Z X) 1 1241 v = mj_mm (mj_u Z 28 0 v) X := by
  refine mj_mm_w1 Z X _ _ v ?_
  exact mj_eS Z 1241 28 0 v (by decide) (by decide) (by decide)
