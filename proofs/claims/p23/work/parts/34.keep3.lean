-- those who begin on links
section KEEP3
variable {Z Z' : mj_M}
theorem mj_bk_o {l : Nat} {r b : Int32} {S : Nat → Bool} {c : Nat} (h : c ≠ 21 ∧ c ≠ 22 ∧ c ≠ 26 ∧ c ≠ 6 ∧ c ≠ 4 ∧ c ≠ 14 ∧ c ≠ 15) : mj_bk l r b S Z c = Z c := by
  funext i
  unfold mj_bk
  obtain ⟨h1, h2, h3, h4, h5, h6, h7⟩ := h
  rw [if_neg (fun z => h1 z.1), if_neg (fun z => h2 z.1), if_neg (fun z => h3 z.1), if_neg (fun z => h4 z.1), if_neg (fun z => h5 z.1), if_neg (fun z => by have := z.1; split at this <;> omega)]
theorem mj_bk_21 {l : Nat} {r b : Int32} {S : Nat → Bool} (i : Nat) : mj_bk l r b S Z 21 i = if i < mj_np Z ∧ S i = true then 1 else Z 21 i := by
  unfold mj_bk
  by_cases c : i < mj_np Z ∧ S i = true
  · rw [if_pos ⟨rfl, c⟩, if_pos c]
  · rw [if_neg (fun z => c z.2), if_neg c, if_neg (by omega), if_neg (by omega), if_neg (by omega), if_neg (by omega), if_neg (fun z => by have := z.1; split at this <;> omega)]
theorem mj_bk_22 {l : Nat} {r b : Int32} {S : Nat → Bool} (i : Nat) : mj_bk l r b S Z 22 i = if i < mj_np Z ∧ S i = true then b else Z 22 i := by
  unfold mj_bk
  rw [if_neg (by omega)]
  by_cases c : i < mj_np Z ∧ S i = true
  · rw [if_pos ⟨rfl, c⟩, if_pos c]
  · rw [if_neg (fun z => c z.2), if_neg c, if_neg (by omega), if_neg (by omega), if_neg (by omega), if_neg (fun z => by have := z.1; split at this <;> omega)]
theorem mj_bk_26 {l : Nat} {r b : Int32} {S : Nat → Bool} (i : Nat) : mj_bk l r b S Z 26 i = if i < mj_np Z ∧ S i = true then Z 0 5 + Z 12 l else Z 26 i := by
  unfold mj_bk
  rw [if_neg (by omega), if_neg (by omega)]
  by_cases c : i < mj_np Z ∧ S i = true
  · rw [if_pos ⟨rfl, c⟩, if_pos c]
  · rw [if_neg (fun z => c z.2), if_neg c, if_neg (by omega), if_neg (by omega), if_neg (fun z => by have := z.1; split at this <;> omega)]
theorem mj_bk_6 {l : Nat} {r b : Int32} {S : Nat → Bool} (i : Nat) : mj_bk l r b S Z 6 i = if i = r.toNatClampNeg then Z 6 i + nI (mj_cb S (mj_np Z)) else Z 6 i := by
  unfold mj_bk
  rw [if_neg (by omega), if_neg (by omega), if_neg (by omega)]
  by_cases c : i = r.toNatClampNeg
  · rw [if_pos ⟨rfl, c⟩, if_pos c]
  · rw [if_neg (fun z => c z.2), if_neg c, if_neg (by omega), if_neg (fun z => by have := z.1; split at this <;> omega)]
theorem mj_bk_4 {l : Nat} {r b : Int32} {S : Nat → Bool} (i : Nat) : mj_bk l r b S Z 4 i = if i = b.toNatClampNeg then Z 4 i + nI (mj_cb S (mj_np Z)) else Z 4 i := by
  unfold mj_bk
  rw [if_neg (by omega), if_neg (by omega), if_neg (by omega), if_neg (by omega)]
  by_cases c : i = b.toNatClampNeg
  · rw [if_pos ⟨rfl, c⟩, if_pos c]
  · rw [if_neg (fun z => c z.2), if_neg c, if_neg (fun z => by have := z.1; split at this <;> omega)]
theorem mj_bk_x {l : Nat} {r b : Int32} {S : Nat → Bool} {c : Nat} (hc : c = 14 ∨ c = 15) (i : Nat) : mj_bk l r b S Z c i = if c = (if r = Z 10 l then 14 else 15) ∧ i = l then Z c i + nI (mj_cb S (mj_np Z)) else Z c i := by
  unfold mj_bk
  rw [if_neg (by omega), if_neg (by omega), if_neg (by omega), if_neg (by omega), if_neg (by omega)]
theorem mj_bk_pr (l : Nat) (r b : Int32) (S : Nat → Bool) (Z : mj_M) : mj_pr mj_s1 (mj_bk l r b S Z) = mj_pr mj_s1 Z := by
  funext c
  unfold mj_pr
  cases hs : mj_s1 c with
  | false => rfl
  | true =>
    simp only [cond_true]
    refine mj_bk_o ?_
    refine ⟨?_, ?_, ?_, ?_, ?_, ?_, ?_⟩ <;> (rintro rfl; exact absurd hs (by decide))
theorem mj_bk_J {l r0 r1 : Nat} {S : Nat → Bool} (h : mj_J Z) (hl : l < mj_nl Z) (hr0 : r0 < mj_nr Z) (hr1 : r1 < mj_nr Z) (h01 : r0 ≠ r1) (hS : ∀ p, p < mj_np Z → S p = true → Z 22 p = nI r0 ∧ Z 21 p = 0) (hc : Z 2 r1 = 0 ∨ ((mj_ct Z r1 0 + mj_ct Z r1 1 + mj_cb S (mj_np Z) : Nat) : Int) ≤ (Z 3 r1).toInt) : mj_J (mj_bk l (nI r0) (nI r1) S Z) := by
  obtain ⟨h, hz, ho⟩ := h
  have hpr := mj_bk_pr l (nI r0) (nI r1) S Z
  obtain ⟨e1, e2, e3, e4⟩ := mj_n_pr hpr
  have hR := mj_S_R h.s
  have hL := mj_S_L h.s
  obtain ⟨-, -, -, s1, s2⟩ := h.s.1.2.2 l hl
  have he := h.e
  unfold mj_De at he
  have o0 : mj_bk l (nI r0) (nI r1) S Z 0 = Z 0 := mj_bk_o (by decide)
  have hcame : (Z 0 5 + Z 12 l).toInt = (Z 0 5).toInt + (Z 12 l).toInt := fb_addI (by omega) (by omega)
  refine ⟨⟨mj_S_pr hpr h.s, fun q hq => ?_, ?_, fun r hr => ?_, fun t ht => ?_, ?_⟩, fun c i hc hi => ?_, fun q hq hs => ?_⟩
  · rw [e1] at hq
    rw [e2, mj_bk_21, mj_bk_22, mj_bk_26, o0, mj_bk_o (c := 40) (by decide)]
    have ha := h.a q hq
    by_cases c : q < mj_np Z ∧ S q = true
    · rw [if_pos c, if_pos c, if_pos c]
      exact ⟨Or.inr (Or.inl rfl), vp_in_nI hr1 (by omega), ha.2.2.1, by omega, by omega⟩
    · rw [if_neg c, if_neg c, if_neg c]
      exact ha
  · refine mj_Db_bg (S := S) (r0 := r0) (r1 := r1) hR hr0 hr1 h01 hpr h.b (fun q hq hs => ?_) (fun q hq hs => ?_) (mj_bk_o (by decide)) (fun r => ?_) (fun r => ?_) hc
    · rw [mj_bk_21, mj_bk_22, if_pos ⟨hq, hs⟩, if_pos ⟨hq, hs⟩]
      exact ⟨(hS q hq hs).1, (hS q hq hs).2, rfl, rfl⟩
    · have : ¬ (q < mj_np Z ∧ S q = true) := fun z => by rw [hs] at z; exact absurd z.2 (by decide)
      rw [mj_bk_21, mj_bk_22, if_neg this, if_neg this]
      exact ⟨rfl, rfl⟩
    · rw [mj_bk_4, nI_clamp (by omega)]
    · rw [mj_bk_6, nI_clamp (by omega)]
  · rw [e2] at hr
    rw [mj_bk_o (c := 7) (by decide), mj_bk_o (c := 2) (by decide)]
    exact h.c r hr
  · rw [e4] at ht
    rw [mj_bk_o (c := 33) (by decide), mj_bk_o (c := 30) (by decide)]
    exact h.d t ht
  · unfold mj_De
    rw [o0]
    exact h.e
  · rw [e1] at hi
    have hz' := hz c i hc hi
    unfold mj_bk
    have hlim : mj_lim (mj_np Z) 21 = mj_np Z ∧ mj_lim (mj_np Z) 22 = mj_np Z ∧ mj_lim (mj_np Z) 26 = mj_np Z ∧ mj_lim (mj_np Z) 6 = 10 ∧ mj_lim (mj_np Z) 4 = 10 ∧ mj_lim (mj_np Z) 14 = 14 ∧ mj_lim (mj_np Z) 15 = 14 := ⟨rfl, rfl, rfl, rfl, rfl, rfl, rfl⟩
    obtain ⟨l1, l2, l3, l4, l5, l6, l7⟩ := hlim
    rw [if_neg (by rintro ⟨rfl, z, -⟩; omega), if_neg (by rintro ⟨rfl, z, -⟩; omega), if_neg (by rintro ⟨rfl, z, -⟩; omega), if_neg (by rintro ⟨rfl, z⟩; rw [nI_clamp (by omega)] at z; omega), if_neg (by rintro ⟨rfl, z⟩; rw [nI_clamp (by omega)] at z; omega), if_neg (by
      rintro ⟨z1, z2⟩
      have : c = 14 ∨ c = 15 := by split at z1 <;> omega
      rcases this with rfl | rfl <;> omega)]
    exact hz'
  · rw [e1] at hq
    rw [mj_bk_21] at hs
    rw [mj_bk_26, o0]
    by_cases c : q < mj_np Z ∧ S q = true
    · rw [if_pos c]
      omega
    · rw [if_neg c]
      rw [if_neg c] at hs
      exact ho q hq hs
-- the line
theorem mj_is_P {P : Int32 → Prop} {l k : Nat} (hk : P (nI k)) : ∀ (a : Nat) (q : Nat → Int32), (∀ i, i < a → P (q i)) → (∀ i, i ≤ a → P (mj_is Z l k a q i)) ∧ ∀ i, a < i → mj_is Z l k a q i = q i
  | 0, q, _ => by
    refine ⟨fun i hi => ?_, fun i hi => ?_⟩
    · have : i = 0 := by omega
      subst this
      show P (upd q 0 (nI k) 0)
      unfold upd
      rw [if_pos rfl]
      exact hk
    · show upd q 0 (nI k) i = q i
      unfold upd
      rw [if_neg (by omega)]
  | a + 1, q, h => by
    unfold mj_is
    split
    · obtain ⟨h1, h2⟩ := mj_is_P hk a (upd q (a + 1) (q a)) (fun i hi => by
        unfold upd
        rw [if_neg (by omega)]
        exact h i (by omega))
      refine ⟨fun i hi => ?_, fun i hi => ?_⟩
      · by_cases e : i = a + 1
        · subst e
          rw [h2 _ (by omega)]
          unfold upd
          rw [if_pos rfl]
          exact h a (by omega)
        · exact h1 i (by omega)
      · rw [h2 i (by omega)]
        unfold upd
        rw [if_neg (by omega)]
    · refine ⟨fun i hi => ?_, fun i hi => ?_⟩
      · unfold upd
        split
        · exact hk
        · exact h i (by omega)
      · unfold upd
        rw [if_neg (by omega)]
theorem mj_is_e {l k : Nat} : ∀ (a : Nat) (q q' : Nat → Int32), (∀ i, i < a → q i = q' i) → ∀ i, i ≤ a → mj_is Z l k a q i = mj_is Z l k a q' i
  | 0, q, q', _, i, hi => by
    have : i = 0 := by omega
    subst this
    show upd q 0 (nI k) 0 = upd q' 0 (nI k) 0
    unfold upd
    rw [if_pos rfl, if_pos rfl]
  | a + 1, q, q', h, i, hi => by
    have hP : ∀ q, ∀ i, a < i → mj_is Z l k a q i = q i := fun q => (mj_is_P (P := fun _ => True) trivial a q (fun _ _ => trivial)).2
    unfold mj_is
    rw [h a (by omega)]
    split
    · by_cases e : i = a + 1
      · subst e
        rw [hP _ _ (by omega), hP _ _ (by omega)]
        unfold upd
        rw [if_pos rfl, if_pos rfl]
      · refine mj_is_e a _ _ (fun j hj => ?_) i (by omega)
        unfold upd
        rw [if_neg (by omega), if_neg (by omega)]
        exact h j (by omega)
    · unfold upd
      by_cases e : i = a + 1
      · rw [if_pos e, if_pos e]
      · rw [if_neg e, if_neg e]
        exact h i (by omega)
theorem mj_ln_ok {v : Nat → Int32} {l : Nat} {q : Nat → Int32} : ∀ k, (mj_ln Z v l q k).1 ≤ k ∧ ∀ i, i < (mj_ln Z v l q k).1 → ∃ p, p < k ∧ (mj_ln Z v l q k).2 i = nI p ∧ v p = nI l
  | 0 => ⟨Nat.le_refl _, fun i hi => absurd hi (Nat.not_lt_zero i)⟩
  | k + 1 => by
    obtain ⟨h1, h2⟩ := mj_ln_ok (v := v) (l := l) (q := q) k
    unfold mj_ln
    split
    · rename_i c
      refine ⟨by dsimp only; omega, fun i hi => ?_⟩
      dsimp only at hi ⊢
      refine (mj_is_P (P := fun x => ∃ p, p < k + 1 ∧ x = nI p ∧ v p = nI l) ⟨k, by omega, rfl, c⟩ _ _ (fun j hj => ?_)).1 i (by omega)
      obtain ⟨p, hp, e1, e2⟩ := h2 j hj
      exact ⟨p, by omega, e1, e2⟩
    · refine ⟨by omega, fun i hi => ?_⟩
      obtain ⟨p, hp, e1, e2⟩ := h2 i hi
      exact ⟨p, by omega, e1, e2⟩
theorem mj_ln_e {v : Nat → Int32} {l : Nat} {q q' : Nat → Int32} : ∀ k, (mj_ln Z v l q k).1 = (mj_ln Z v l q' k).1 ∧ ∀ i, i < (mj_ln Z v l q k).1 → (mj_ln Z v l q k).2 i = (mj_ln Z v l q' k).2 i
  | 0 => ⟨rfl, fun i hi => absurd hi (Nat.not_lt_zero i)⟩
  | k + 1 => by
    obtain ⟨h1, h2⟩ := mj_ln_e (v := v) (l := l) (q := q) (q' := q') k
    unfold mj_ln
    split
    · dsimp only
      refine ⟨by rw [h1], fun i hi => ?_⟩
      rw [← h1]
      exact mj_is_e _ _ _ h2 i (by omega)
    · exact ⟨h1, h2⟩
end KEEP3
