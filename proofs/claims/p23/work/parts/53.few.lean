-- rows of the first proof that are wanted here too
section
variable {Z X : mj_M} {K : mj_K} {p t l : Nat}
abbrev md_rg (x a b : Int32) : Prop := ¬ x < a ∧ ¬ b < x
end
section
variable {Z X : mj_M} {K : mj_K} {p t l : Nat}
abbrev md_fk (k lim : Int32) : Prop := md_rg k 0 2 ∧ md_rg lim 1 60
end
section
variable {Z X : mj_M} {K : mj_K} {p t l : Nat}
def md_b (x : Int32) : Int32 := if x = 0 then 0 else 1
end
section
variable {Z X : mj_M} {K : mj_K} {p t l : Nat}
theorem md_b_bit (x : Int32) : mj_bit (md_b x) := by
  unfold md_b
  split
  · exact Or.inl rfl
  · exact Or.inr rfl
end
section
variable {Z X W S : mj_M} {K : mj_K} {p t l : Nat}
abbrev md_fl (k f t s r : Int32) : Prop := ¬ f = t ∧ md_rg k 0 4 ∧ md_rg s 1 5 ∧ md_rg r 0 9
end
section
variable {Z X W S : mj_M} {K : mj_K} {p t l : Nat}
abbrev md_kn (Z : mj_M) (a b : Int32) : Prop := vp_in a (mj_nr Z) ∧ vp_in b (mj_nr Z)
end
section
variable {Z X W S : mj_M} {K : mj_K} {p t l : Nat}
abbrev md_fe (Z : mj_M) (s g gr : Int32) : Prop := Z 2 s.toNatClampNeg = 0 ∧ ¬ Z 2 g.toNatClampNeg = 1 ∧ md_rg gr (-1) 9
end
section
variable {Z X W S : mj_M} {K : mj_K} {p t l : Nat}
abbrev md_ft (Z : mj_M) (r al g sp st : Int32) : Prop := Z 2 r.toNatClampNeg = 2 ∧ Z 2 g.toNatClampNeg = 0 ∧ md_rg al 0 20 ∧ md_rg sp 0 99 ∧ md_rg st 1 9
end
section
variable {Z X W S : mj_M} {K : mj_K} {p t l : Nat}
abbrev md_pt (Z : mj_M) (r : Int32) : Prop := mj_nt Z < 12 ∧ ¬ md_at Z r (mj_nt Z)
end
section
variable {Z X : mj_M} {K : mj_K} {p t l : Nat}
/-- so many seconds -/
noncomputable abbrev md_ss (n : Nat) (Z : mj_M) : mj_M := mj_lo (fun _ => mj_sec) n Z
end
section
variable {Z X : mj_M} {K : mj_K} {p t l : Nat}
theorem md_rgn {s : Int32} {a b : Int32} (h : md_rg s a b) (ha : 0 ≤ a.toInt) (hb : b.toInt ≤ 1000) : s = nI s.toNatClampNeg ∧ a.toInt ≤ (s.toNatClampNeg : Int) ∧ (s.toNatClampNeg : Int) ≤ b.toInt := by
  have h1 := h.1
  have h2 := h.2
  rw [mj_lt] at h1 h2
  refine ⟨mj_toN (by omega), ?_, ?_⟩ <;> rw [mj_clN] <;> omega
end
section
variable {Z X : mj_M} {K : mj_K} {p t l : Nat}
def md_vR (Z : mj_M) (r : Nat) (w : Int32) : Int32 := if w = 0 then nI (mj_ct Z r 0) else if w = 1 then nI (mj_ct Z r 1) else if w = 2 then Z 7 r else if w = 3 then Z 5 r else Z 6 r
end
section
variable {Z X : mj_M} {K : mj_K} {p t l : Nat}
theorem md_w5 {w : Int32} (h : md_rg w 0 4) : w = 0 ∨ w = 1 ∨ w = 2 ∨ w = 3 ∨ w = 4 := by
  obtain ⟨e, -, e2⟩ := md_rgn h (by decide) (by decide)
  rw [show (4 : Int32).toInt = 4 by decide] at e2
  have c : w.toNatClampNeg = 0 ∨ w.toNatClampNeg = 1 ∨ w.toNatClampNeg = 2 ∨ w.toNatClampNeg = 3 ∨ w.toNatClampNeg = 4 := by omega
  rcases c with c | c | c | c | c <;> rw [c] at e
  · exact Or.inl e
  · exact Or.inr (Or.inl e)
  · exact Or.inr (Or.inr (Or.inl e))
  · exact Or.inr (Or.inr (Or.inr (Or.inl e)))
  · exact Or.inr (Or.inr (Or.inr (Or.inr e)))
end
section
variable {Z X : mj_M} {K : mj_K} {p t l : Nat}
noncomputable def md_vL (Z : mj_M) (l : Nat) (w : Int32) : Int32 := if w = 0 then Z 16 l else if w = 1 then Z 14 l else if w = 2 then Z 15 l else if w = 3 then nI (mj_cb (fun p => decide (mj_nl1 Z p = nI l)) (mj_np Z)) else mj_ra Z l
end
section
variable {Z X : mj_M} {K : mj_K} {p t l : Nat}
noncomputable def md_vP (Z : mj_M) (p : Nat) (w : Int32) : Int32 := if w.toInt = 0 then Z 21 p else if w.toInt = 1 then Z 22 p else if w.toInt = 2 then Z 23 p else if w.toInt = 3 then mj_nl1 Z p else if w.toInt = 4 then Z 40 p else if w.toInt = 5 then Z 27 p else Z 26 p
end
section
variable {Z X : mj_M} {K : mj_K} {p t l : Nat}
def md_vT (Z : mj_M) (t : Nat) (w : Int32) : Int32 := if w = 0 then Z 33 t else if w = 1 then Z 34 t else if w = 3 then Z 31 t else if Z 31 t ≤ 0 then 0 else 1
end
section
variable {Z X : mj_M} {K : mj_K} {p t l : Nat}
/-- in how many seconds nobody is inside -/
def md_in (B : mj_M) (n : Nat) : Prop := md_ins (md_ss n B) (mj_np (md_ss n B))
end
section
variable {Z X : mj_M} {K : mj_K} {p t l : Nat}
def md_csv (B : mj_M) (v : Int32) : Prop := (∃ n, n ≤ 100 ∧ v = nI n ∧ ¬ md_in B n ∧ ∀ m, m < n → md_in B m) ∨ (v = -1 ∧ ∀ m, m ≤ 100 → md_in B m)
end
