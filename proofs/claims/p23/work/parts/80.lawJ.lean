-- THE LAW'S METHODS, J: what lies beyond a row's end is free; the order to clear; copies
section LWJ
/-- the same within the rows -/
def mz_ag (Sh : List mj_D) (M M' : mj_M) : Prop := ∀ (k : Nat) (d : mj_D), Sh[k]? = some d → match d with
  | .inl _ => M k = M' k
  | .inr (_, n) => ∀ i, i < n → M k i = M' k i
theorem mz_P_ag {D : va_G} {cA : Nat → ClassId} {ad : Nat → Nat} {M M' : mj_M} {Sh : List mj_D} {H : Heap} (h : mz_ag Sh M M') (hP : va_P D mj_cl (mj_w cA ad M Sh) H) : va_P D mj_cl (mj_w cA ad M' Sh) H := by
  intro k x hx
  rw [mj_w_get] at hx
  cases hd : Sh[k]? with
  | none => rw [hd] at hx; cases hx
  | some d =>
    rw [hd] at hx
    cases hx
    have h1 := hP k (ad k, mj_e cA ad M k d) (mj_w_some hd)
    have h2 := h k d hd
    cases d with
    | inl o =>
      obtain ⟨ci, fs⟩ := o
      have h2' : M k = M' k := h2
      simp only [mj_e] at h1 ⊢
      rw [← h2']
      exact h1
    | inr a =>
      obtain ⟨t, n⟩ := a
      have h2' : ∀ i, i < n → M k i = M' k i := h2
      have e : arrV (cA t) n (fun j => .int (M k j)) = arrV (cA t) n (fun j => .int (M' k j)) := by
        unfold arrV
        congr 1
        congr 1
        funext j
        show Value.int (M k j.val) = Value.int (M' k j.val)
        rw [h2' j.val j.isLt]
      have h1' : H[ad k]? = some (arrV (cA t) n (fun j => .int (M k j))) := h1
      show H[ad k]? = some (arrV (cA t) n (fun j => .int (M' k j)))
      rw [h1', e]
theorem mz_W_ag {lv k d pc cn : Nat} {ls : List (Option Value)} {st : List Value} {M M' : mj_M} {K : mj_K} (hag : mz_ag (mj_Sh lv) M M') (h : mj_W lv k d pc ls st M' cn K) : mj_W lv k d pc ls st M cn K := by
  intro p l e s m args below meth c D cA ad C H locs lsA hl hP hS
  exact h p l e s m args below meth c D cA ad C H locs lsA hl (mz_P_ag hag hP) hS
theorem mz_Cm_ag {k d : Nat} {As : List Value} {M M' : mj_M} {K : mj_K} (hag : mz_ag (mj_Sh (mj_lv k)) M M') (h : mj_Cm k d As M' K) : mj_Cm k d As M K := by
  intro l D cA ad sz hl hinj p e h1 h2 h3 s m args below hf happ hPc hT
  refine h l D cA ad sz hl hinj p e h1 h2 h3 s m args below hf happ ?_ hT
  obtain ⟨a0, a1, a2, a3, a4⟩ := hPc
  exact ⟨a0, a1, mz_P_ag hag a2, a3, a4⟩
end LWJ

section LWK
variable {Z Z' X : mj_M} {K : mj_K} {p l r t a b i : Nat}
/-- q is the least by ky of those from lo to hi that have W, the lowest of them -/
def mz_gf (W : Nat → Prop) (ky : Nat → Nat) (lo hi : Nat) (q : Int32) : Prop := (q = -1 ∧ ∀ j, lo ≤ j → j < hi → ¬ W j) ∨ ∃ i, q = nI i ∧ lo ≤ i ∧ i < hi ∧ W i ∧ ∀ j, lo ≤ j → j < hi → W j → ky i < ky j ∨ (ky i = ky j ∧ i ≤ j)
theorem mz_gf_u {W : Nat → Prop} {ky : Nat → Nat} {lo hi : Nat} {q q' : Int32} (hhi : hi < 1000) (h : mz_gf W ky lo hi q) (h' : mz_gf W ky lo hi q') : q = q' := by
  rcases h with ⟨e, h⟩ | ⟨i, e, h1, h2, h3, h4⟩
  · rcases h' with ⟨e', h'⟩ | ⟨i', e', h1', h2', h3', h4'⟩
    · rw [e, e']
    · exact absurd h3' (h i' h1' h2')
  · rcases h' with ⟨e', h'⟩ | ⟨i', e', h1', h2', h3', h4'⟩
    · exact absurd h3 (h' i h1 h2)
    · have a1 := h4 i' h1' h2' h3'
      have a2 := h4' i h1 h2 h3
      have : i = i' := by omega
      rw [e, e', this]
theorem mz_gf_s {W : Nat → Prop} {ky : Nat → Nat} {k n : Nat} {q : Int32} (hk : k < n) (hn : n < 1000) (h : mz_gf W ky (k + 1) n q) : (¬ W k → mz_gf W ky k n q) ∧ (W k → (q = -1 ∨ ∃ i, q = nI i ∧ i < 1000 ∧ ky k ≤ ky i) → mz_gf W ky k n (nI k)) ∧ (W k → (∃ i, q = nI i ∧ i < 1000 ∧ ky i < ky k) → mz_gf W ky k n q) := by
  rcases h with ⟨e, h⟩ | ⟨i, e, h1, h2, h3, h4⟩
  · refine ⟨fun w => Or.inl ⟨e, fun j hj hj2 => ?_⟩, fun w _ => Or.inr ⟨k, rfl, Nat.le_refl _, hk, w, fun j hj hj2 hw => ?_⟩, fun w ⟨i', e', hi', _⟩ => ?_⟩
    · by_cases q : j = k
      · rw [q]; exact w
      · exact h j (by omega) hj2
    · by_cases q : j = k
      · exact Or.inr ⟨by rw [q], by omega⟩
      · exact absurd hw (h j (by omega) hj2)
    · rw [e] at e'
      exact absurd e'.symm (mj_nI_m1 (by omega))
  · refine ⟨fun w => Or.inr ⟨i, e, by omega, h2, h3, fun j hj hj2 hw => ?_⟩, fun w z => Or.inr ⟨k, rfl, Nat.le_refl _, hk, w, fun j hj hj2 hw => ?_⟩, fun w ⟨i', e', hi', z⟩ => Or.inr ⟨i, e, by omega, h2, h3, fun j hj hj2 hw => ?_⟩⟩
    · by_cases q : j = k
      · rw [q] at hw; exact absurd hw w
      · exact h4 j (by omega) hj2 hw
    · by_cases q : j = k
      · exact Or.inr ⟨by rw [q], by omega⟩
      · rcases z with z | ⟨i', z1, z2, z3⟩
        · rw [e] at z
          exact absurd z (mj_nI_m1 (by omega))
        · have : i' = i := (nI_eq (by omega) (by omega)).mp (z1.symm.trans e)
          subst this
          have h5 := h4 j (by omega) hj2 hw
          omega
    · have : i' = i := (nI_eq (by omega) (by omega)).mp (e'.symm.trans e)
      subst this
      by_cases q : j = k
      · exact Or.inl (by rw [q]; exact z)
      · exact h4 j (by omega) hj2 hw
end LWK
