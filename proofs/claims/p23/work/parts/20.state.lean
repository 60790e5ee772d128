-- THE STATION AS NUMBERS (one state for both sides): Z c i, the cells as the class has them; 40: who knows the place
def mj_pc (f : Nat) : Nat := match f with
  | 0 => 22
  | 1 => 21
  | 2 => 23
  | 3 => 24
  | 4 => 25
  | 5 => 40
  | 6 => 27
  | _ => 26
def mj_lc (f : Nat) : Nat := match f with
  | 0 => 10
  | 1 => 11
  | 2 => 9
  | 3 => 12
  | 4 => 13
  | 5 => 16
  | 6 => 17
  | 7 => 18
  | 8 => 19
  | 9 => 14
  | _ => 15
def mj_rc (f : Nat) : Nat := match f with
  | 0 => 2
  | 1 => 3
  | 2 => 7
  | 3 => 5
  | _ => 6
def mj_tc (f : Nat) : Nat := match f with
  | 0 => 29
  | 1 => 33
  | 2 => 34
  | 3 => 30
  | 4 => 31
  | _ => 32
/-- the model's row -/
def mj_en1 (Z : mj_M) (i : Nat) : Int32 :=
  if i < 960 then Z (mj_pc (i % 8)) (i / 8)
  else if i < 1114 then Z (mj_lc ((i - 960) % 11)) ((i - 960) / 11)
  else if i < 1164 then Z (mj_rc ((i - 1114) % 5)) ((i - 1114) / 5)
  else if i < 1236 then Z (mj_tc ((i - 1164) % 6)) ((i - 1164) / 6)
  else if i = 1236 then Z 0 5
  else if i = 1237 then Z 8 1
  else if i = 1238 then Z 1 0
  else if i = 1239 then Z 8 0
  else if i = 1240 then Z 20 0
  else if i = 1241 then Z 28 0
  else 0
/-- the model's memory: the state, and what else it keeps -/
def mj_mm (Z X : mj_M) : mj_M := fun c => if c = 1 then mj_en1 Z else X c
theorem mj_mm_1 (Z X : mj_M) : mj_mm Z X 1 = mj_en1 Z := rfl
theorem mj_mm_o (Z X : mj_M) {c : Nat} (h : c ≠ 1) : mj_mm Z X c = X c := if_neg h
theorem mj_mm_wo (Z X : mj_M) {c : Nat} (i : Nat) (v : Int32) (h : c ≠ 1) : mj_u (mj_mm Z X) c i v = mj_mm Z (mj_u X c i v) := by
  funext c'
  by_cases e : c' = c
  · subst e
    rw [mj_u_same, mj_mm_o _ _ h, mj_mm_o _ _ h, mj_u_same]
  · rw [mj_u_ne _ _ _ e]
    by_cases e1 : c' = 1
    · subst e1; rfl
    · rw [mj_mm_o _ _ e1, mj_mm_o _ _ e1, mj_u_ne _ _ _ e]
theorem mj_mm_w1 (Z X Z' : mj_M) (i : Nat) (v : Int32) (h : upd (mj_en1 Z) i v = mj_en1 Z') : mj_u (mj_mm Z X) 1 i v = mj_mm Z' X := by
  funext c'
  by_cases e : c' = 1
  · subst e
    rw [mj_u_same, mj_mm_1, mj_mm_1, h]
  · rw [mj_u_ne _ _ _ e, mj_mm_o _ _ e, mj_mm_o _ _ e]
theorem mj_u_at (Z : mj_M) (c p c' p' : Nat) (v : Int32) : mj_u Z c p v c' p' = if c' = c ∧ p' = p then v else Z c' p' := by
  by_cases e : c' = c
  · subst e
    rw [mj_u_same]
    unfold upd
    by_cases e2 : p' = p
    · rw [if_pos e2, if_pos ⟨rfl, e2⟩]
    · rw [if_neg e2, if_neg (fun h => e2 h.2)]
  · rw [mj_u_ne _ _ _ e, if_neg (fun h => e h.1)]
theorem mj_pc_inj : ∀ f, f < 8 → ∀ g, g < 8 → mj_pc f = mj_pc g → f = g := by decide
theorem mj_lc_inj : ∀ f, f < 11 → ∀ g, g < 11 → mj_lc f = mj_lc g → f = g := by decide
theorem mj_rc_inj : ∀ f, f < 5 → ∀ g, g < 5 → mj_rc f = mj_rc g → f = g := by decide
theorem mj_tc_inj : ∀ f, f < 6 → ∀ g, g < 6 → mj_tc f = mj_tc g → f = g := by decide
theorem mj_pc_r : ∀ f, f < 8 → (21 ≤ mj_pc f ∧ mj_pc f ≤ 27) ∨ mj_pc f = 40 := by decide
theorem mj_lc_r : ∀ f, f < 11 → 9 ≤ mj_lc f ∧ mj_lc f ≤ 19 := by decide
theorem mj_rc_r : ∀ f, f < 5 → 2 ≤ mj_rc f ∧ mj_rc f ≤ 7 := by decide
theorem mj_tc_r : ∀ f, f < 6 → 29 ≤ mj_tc f ∧ mj_tc f ≤ 34 := by decide
theorem mj_eP (Z : mj_M) {p f : Nat} (v : Int32) (hp : p < 120) (hf : f < 8) : upd (mj_en1 Z) (8 * p + f) v = mj_en1 (mj_u Z (mj_pc f) p v) := by
  funext i
  have hpc := mj_pc_r f hf
  have h1 := mj_pc_r (i % 8) (Nat.mod_lt _ (by decide))
  have h2 := mj_lc_r ((i - 960) % 11) (Nat.mod_lt _ (by decide))
  have h3 := mj_rc_r ((i - 1114) % 5) (Nat.mod_lt _ (by decide))
  have h4 := mj_tc_r ((i - 1164) % 6) (Nat.mod_lt _ (by decide))
  have key : (mj_pc (i % 8) = mj_pc f ∧ i / 8 = p) ↔ i = 8 * p + f := by
    constructor
    · rintro ⟨e1, e2⟩
      have := mj_pc_inj _ (Nat.mod_lt _ (by decide)) _ hf e1
      omega
    · rintro rfl
      exact ⟨by rw [show (8 * p + f) % 8 = f by omega], by omega⟩
  unfold upd mj_en1
  simp only [mj_u_at, key]
  by_cases e : i = 8 * p + f
  · rw [if_pos e, if_pos (by omega), if_pos e]
  · rw [if_neg e]
    simp only [e, if_false]
    split
    · rfl
    · repeat' split
      all_goals first | rfl | omega
theorem mj_eL (Z : mj_M) {p f : Nat} (v : Int32) (hp : p < 14) (hf : f < 11) : upd (mj_en1 Z) (960 + 11 * p + f) v = mj_en1 (mj_u Z (mj_lc f) p v) := by
  funext i
  have hpc := mj_lc_r f hf
  have h1 := mj_pc_r (i % 8) (Nat.mod_lt _ (by decide))
  have h2 := mj_lc_r ((i - 960) % 11) (Nat.mod_lt _ (by decide))
  have h3 := mj_rc_r ((i - 1114) % 5) (Nat.mod_lt _ (by decide))
  have h4 := mj_tc_r ((i - 1164) % 6) (Nat.mod_lt _ (by decide))
  have key : 960 ≤ i → ((mj_lc ((i - 960) % 11) = mj_lc f ∧ (i - 960) / 11 = p) ↔ i = 960 + 11 * p + f) := by
    intro hi
    constructor
    · rintro ⟨e1, e2⟩
      have := mj_lc_inj _ (Nat.mod_lt _ (by decide)) _ hf e1
      omega
    · rintro rfl
      exact ⟨by rw [show (960 + 11 * p + f - 960) % 11 = f by omega], by omega⟩
  unfold upd mj_en1
  simp only [mj_u_at]
  by_cases e : i = 960 + 11 * p + f
  · rw [if_pos e, if_neg (by omega), if_pos (by omega), if_pos ((key (by omega)).mpr e)]
  · rw [if_neg e]
    split
    · rw [if_neg (by omega)]
    · split
      · rw [if_neg (fun h => e ((key (by omega)).mp h))]
      · repeat' split
        all_goals first | rfl | omega
theorem mj_eR (Z : mj_M) {p f : Nat} (v : Int32) (hp : p < 10) (hf : f < 5) : upd (mj_en1 Z) (1114 + 5 * p + f) v = mj_en1 (mj_u Z (mj_rc f) p v) := by
  funext i
  have hpc := mj_rc_r f hf
  have h1 := mj_pc_r (i % 8) (Nat.mod_lt _ (by decide))
  have h2 := mj_lc_r ((i - 960) % 11) (Nat.mod_lt _ (by decide))
  have h3 := mj_rc_r ((i - 1114) % 5) (Nat.mod_lt _ (by decide))
  have h4 := mj_tc_r ((i - 1164) % 6) (Nat.mod_lt _ (by decide))
  have key : 1114 ≤ i → ((mj_rc ((i - 1114) % 5) = mj_rc f ∧ (i - 1114) / 5 = p) ↔ i = 1114 + 5 * p + f) := by
    intro hi
    constructor
    · rintro ⟨e1, e2⟩
      have := mj_rc_inj _ (Nat.mod_lt _ (by decide)) _ hf e1
      omega
    · rintro rfl
      exact ⟨by rw [show (1114 + 5 * p + f - 1114) % 5 = f by omega], by omega⟩
  unfold upd mj_en1
  simp only [mj_u_at]
  by_cases e : i = 1114 + 5 * p + f
  · rw [if_pos e, if_neg (by omega), if_neg (by omega), if_pos (by omega), if_pos ((key (by omega)).mpr e)]
  · rw [if_neg e]
    split
    · rw [if_neg (by omega)]
    · split
      · rw [if_neg (by omega)]
      · split
        · rw [if_neg (fun h => e ((key (by omega)).mp h))]
        · repeat' split
          all_goals first | rfl | omega
theorem mj_eT (Z : mj_M) {p f : Nat} (v : Int32) (hp : p < 12) (hf : f < 6) : upd (mj_en1 Z) (1164 + 6 * p + f) v = mj_en1 (mj_u Z (mj_tc f) p v) := by
  funext i
  have hpc := mj_tc_r f hf
  have h1 := mj_pc_r (i % 8) (Nat.mod_lt _ (by decide))
  have h2 := mj_lc_r ((i - 960) % 11) (Nat.mod_lt _ (by decide))
  have h3 := mj_rc_r ((i - 1114) % 5) (Nat.mod_lt _ (by decide))
  have h4 := mj_tc_r ((i - 1164) % 6) (Nat.mod_lt _ (by decide))
  have key : 1164 ≤ i → ((mj_tc ((i - 1164) % 6) = mj_tc f ∧ (i - 1164) / 6 = p) ↔ i = 1164 + 6 * p + f) := by
    intro hi
    constructor
    · rintro ⟨e1, e2⟩
      have := mj_tc_inj _ (Nat.mod_lt _ (by decide)) _ hf e1
      omega
    · rintro rfl
      exact ⟨by rw [show (1164 + 6 * p + f - 1164) % 6 = f by omega], by omega⟩
  unfold upd mj_en1
  simp only [mj_u_at]
  by_cases e : i = 1164 + 6 * p + f
  · rw [if_pos e, if_neg (by omega), if_neg (by omega), if_neg (by omega), if_pos (by omega), if_pos ((key (by omega)).mpr e)]
  · rw [if_neg e]
    split
    · rw [if_neg (by omega)]
    · split
      · rw [if_neg (by omega)]
      · split
        · rw [if_neg (by omega)]
        · split
          · rw [if_neg (fun h => e ((key (by omega)).mp h))]
          · repeat' split
            all_goals first | rfl | omega
