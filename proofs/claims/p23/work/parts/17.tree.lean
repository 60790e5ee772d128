-- what the trees stand on
def mj_bi (P : Prop) [Decidable P] : Int32 := if P then 1 else 0
theorem mj_bi_t {P : Prop} [Decidable P] (h : P) : mj_bi P = 1 := if_pos h
theorem mj_bi_f {P : Prop} [Decidable P] (h : ¬ P) : mj_bi P = 0 := if_neg h
theorem mj_bi0 {P : Prop} [Decidable P] : mj_bi P = 0 ↔ ¬ P := by
  by_cases h : P
  · rw [mj_bi_t h]; exact ⟨fun e => absurd e (by decide), fun e => absurd h e⟩
  · rw [mj_bi_f h]; exact ⟨fun _ => h, fun _ => rfl⟩
theorem mj_bi1 {P : Prop} [Decidable P] : ¬ mj_bi P = 0 ↔ P := by
  rw [mj_bi0]; exact Decidable.not_not
theorem mj_nb0 : mj_nb 0 = 0 := by decide
theorem mj_nb1 : mj_nb 1 = 1 := by decide
theorem mj_nb_bi {P : Prop} [Decidable P] : mj_nb (mj_bi P) = mj_bi P := by
  by_cases h : P
  · rw [mj_bi_t h, mj_nb1]
  · rw [mj_bi_f h, mj_nb0]
theorem mj_bi_c {P Q : Prop} [Decidable P] [Decidable Q] (h : P ↔ Q) : mj_bi P = mj_bi Q := by
  by_cases p : P
  · rw [mj_bi_t p, mj_bi_t (h.mp p)]
  · rw [mj_bi_f p, mj_bi_f (fun q => p (h.mpr q))]
theorem mj_mg_self (M : mj_M) (o n : Nat) : mj_mg M o n (mj_v M o) = M := by
  funext q
  unfold mj_mg mj_v
  split
  · rw [show o + (q - o) = q by omega]
  · rfl
theorem mj_k2_v {lv k d pc : Nat} {ls : List (Option Value)} {rest : List Value} {M : mj_M} {o n cn : Nat} {r : Option FieldType} {K : mj_K} {v : Int32} : mj_k2 lv k d pc ls rest M o n cn r K 0 v (mj_v M o) = mj_W lv k d pc ls (mj_pu r v rest) M cn K := by
  show mj_W lv k d pc ls (mj_pu r v rest) (mj_mg M o n (mj_v M o)) cn K = _
  rw [mj_mg_self]
theorem mj_en {k d : Nat} {As : List Value} {M : mj_M} {K : mj_K} (hk : Nat.blt k mj_N = true) (hc : As.all (fun v => Nat.beq v.category 1) = true) (hn : Nat.ble As.length (mj_n k) = true) (h : mj_W (mj_lv k) k d 0 (As.map some ++ List.replicate (mj_n k - As.length) none) [] M 0 K) : mj_Cm k d As M K :=
  mj_entry (Nat.le_of_ble_eq_true hk) (fun v hv => Nat.eq_of_beq_eq_true (List.all_eq_true.mp hc v hv)) (Nat.le_of_ble_eq_true hn) h
-- numbers
theorem mj_lt (a b : Int32) : a < b ↔ a.toInt < b.toInt := Int32.lt_iff_toInt_lt
theorem mj_le (a b : Int32) : a ≤ b ↔ a.toInt ≤ b.toInt := Int32.le_iff_toInt_le
theorem mj_eq (a b : Int32) : a = b ↔ a.toInt = b.toInt := Int32.toInt_inj.symm
theorem mj_tn (x : Int32) (h : 0 ≤ x.toInt) : (x.toNatClampNeg : Int) = x.toInt := by
  show ((x.toInt.toNat : Nat) : Int) = x.toInt
  omega
theorem mj_clN (x : Int32) : x.toNatClampNeg = x.toInt.toNat := rfl
theorem mj_vi {x : Int32} {n : Nat} : vp_in x n ↔ 0 ≤ x.toInt ∧ x.toInt < (n : Int) := vp_in_iff
/-- an index below a count is in the row -/
theorem mj_ix {x c : Int32} {n : Nat} (h1 : 0 ≤ x) (h2 : x < c) (h3 : c.toInt ≤ (n : Int)) : vp_in x n := by
  rw [mj_vi]
  rw [mj_le] at h1
  rw [mj_lt] at h2
  exact ⟨h1, by omega⟩
theorem mj_ix2 {x c : Int32} {n : Nat} (h1 : ¬ x < 0) (h2 : ¬ c ≤ x) (h3 : c.toInt ≤ (n : Int)) : vp_in x n := by
  rw [mj_vi]
  rw [mj_lt] at h1
  rw [mj_le] at h2
  have : (0 : Int32).toInt = 0 := rfl
  exact ⟨by omega, by omega⟩
