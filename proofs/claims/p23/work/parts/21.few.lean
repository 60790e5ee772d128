-- rows of the first proof that are wanted here too
theorem mj_x8 {x : Int32} {n : Nat} (a b : Nat) (h : vp_in x n) (hn : n ≤ 200) (ha : a ≤ 20) (hb : b ≤ 2000) : (nI a * x + nI b).toNatClampNeg = a * x.toNatClampNeg + b ∧ ∀ m : Nat, a * n + b < m + a → m ≤ 100000 → vp_in (nI a * x + nI b) m := by
  obtain ⟨j, hj, rfl⟩ := vp_in_of h (by omega)
  have h1 : a * j ≤ 20 * 200 := Nat.mul_le_mul ha (by omega)
  have h2 : a * j + a ≤ a * n := by
    have := Nat.mul_le_mul_left a (show j + 1 ≤ n by omega)
    rw [Nat.mul_add, Nat.mul_one] at this
    exact this
  rw [pk_mul, nI_add, nI_clamp (by omega), nI_clamp (by omega)]
  exact ⟨rfl, fun m hm hm2 => vp_in_nI (by omega) (by omega)⟩
theorem mj_xlt {x : Int32} {n : Nat} (h : vp_in x n) : x.toNatClampNeg < n := by
  rw [mj_vi] at h
  rw [mj_clN]
  omega
