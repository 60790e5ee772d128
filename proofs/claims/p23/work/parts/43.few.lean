-- rows of the first proof that are wanted here too
section
variable {Z X : mj_M} {K : mj_K} {p l : Nat}
theorem mj_ql (h : mj_S Z) (hl : l < mj_nl Z) : vp_in (nI l) 14 := vp_in_nI (by have := mj_S_L h; omega) (by decide)
end
section
variable {Z X : mj_M} {K : mj_K} {p l : Nat}
theorem mj_qlc (h : mj_S Z) (hl : l < mj_nl Z) : (nI l).toNatClampNeg = l := nI_clamp (by have := mj_S_L h; omega)
end
section
variable {Z X : mj_M} {K : mj_K} {p l : Nat}
theorem mj_qt (h : mj_S Z) (hl : l < mj_nt Z) : vp_in (nI l) 12 := vp_in_nI (by have := (mj_S_T h).1; omega) (by decide)
end
section
variable {Z X : mj_M} {K : mj_K} {p l : Nat}
theorem mj_qtc (h : mj_S Z) (hl : l < mj_nt Z) : (nI l).toNatClampNeg = l := nI_clamp (by have := (mj_S_T h).1; omega)
end
section
variable {Z X : mj_M} {K : mj_K} {p l : Nat}
theorem mj_bit1 {x : Int32} (h : mj_bit x) : x = 1 ↔ ¬ x = 0 := by
  rcases h with rfl | rfl <;> decide
end
