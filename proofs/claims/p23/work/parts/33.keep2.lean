-- what a second keeps, further
section KEEP2
variable {Z Z' : mj_M}
theorem mj_lo_pr {s : Nat → Bool} {f : Nat → mj_M → mj_M} (hf : ∀ k Z, mj_pr s (f k Z) = mj_pr s Z) : ∀ (n : Nat) (Z : mj_M), mj_pr s (mj_lo f n Z) = mj_pr s Z
  | 0, _ => rfl
  | n + 1, Z => by
    show mj_pr s (f n (mj_lo f n Z)) = _
    rw [hf, mj_lo_pr hf n Z]
theorem mj_lo_Iv {f : Nat → mj_M → mj_M} {Z : mj_M} (hp : ∀ k Z, mj_pr mj_s1 (f k Z) = mj_pr mj_s1 Z) {P : Nat → mj_M → Prop} (h0 : P 0 Z) : ∀ (n : Nat), (∀ k, k < n → ∀ Y, mj_pr mj_s1 Y = mj_pr mj_s1 Z → P k Y → P (k + 1) (f k Y)) → P n (mj_lo f n Z)
  | 0, _ => h0
  | n + 1, h => h n (by omega) _ (mj_lo_pr hp n Z) (mj_lo_Iv hp h0 n (fun k hk => h k (by omega)))
-- zero beyond
def mj_lim (n c : Nat) : Nat := if 2 ≤ c ∧ c ≤ 7 then 10 else if 9 ≤ c ∧ c ≤ 19 then 14 else if (21 ≤ c ∧ c ≤ 27) ∨ c = 40 then n else 12
def mj_has (c : Nat) : Bool := (2 ≤ c && c ≤ 7) || (9 ≤ c && c ≤ 19) || (21 ≤ c && c ≤ 27) || (29 ≤ c && c ≤ 34) || c == 40
def mj_Zb (Z : mj_M) : Prop := ∀ c i, mj_has c = true → mj_lim (mj_np Z) c ≤ i → Z c i = 0
theorem mj_Zb_u {c i : Nat} {v : Int32} (h : mj_Zb Z) (h1 : c ≠ 20) (h2 : mj_has c = true → i < mj_lim (mj_np Z) c) : mj_Zb (mj_u Z c i v) := by
  have hn : mj_np (mj_u Z c i v) = mj_np Z := by
    unfold mj_np
    rw [mj_u_ne _ _ _ (fun e => h1 e.symm)]
  intro c' i' hc hi
  rw [hn] at hi
  rw [mj_u_at]
  by_cases e : c' = c ∧ i' = i
  · obtain ⟨rfl, rfl⟩ := e
    have := h2 hc
    omega
  · rw [if_neg e]
    exact h c' i' hc hi
theorem mj_oA_Zb {p : Nat} (h : mj_Iv Z) (hz : mj_Zb Z) (hp : p < mj_np Z) : mj_Zb (mj_oA p Z) := by
  have hR := mj_S_R h.s
  obtain ⟨-, r2⟩ := mj_st_ok h.s hp h.a
  unfold mj_oA
  split
  · exact mj_Zb_u (mj_Zb_u hz (by decide) (fun _ => hp)) (by decide) (fun _ => show _ < 10 by omega)
  · exact hz
theorem mj_a0_Zb {p : Nat} (h : mj_Iv Z) (hz : mj_Zb Z) (hp : p < mj_np Z) : mj_Zb (mj_a0 p Z) := by
  have hR := mj_S_R h.s
  obtain ⟨-, r2⟩ := mj_st_ok h.s hp h.a
  exact mj_Zb_u (mj_Zb_u (mj_Zb_u hz (by decide) (fun _ => hp)) (by decide) (fun _ => show _ < 10 by omega)) (by decide) (fun _ => show _ < 10 by omega)
-- arriving: all of them
theorem mj_a1_s (p : Nat) (Z : mj_M) : (∀ q, q ≠ p → mj_a1 p Z 21 q = Z 21 q) ∧ mj_a1 p Z 26 = Z 26 ∧ mj_a1 p Z 0 = Z 0 ∧ (Z 21 p = 1 → Z 26 p = Z 0 5 → ¬ mj_a1 p Z 21 p = 1) ∧ (¬ (Z 21 p = 1 ∧ Z 26 p = Z 0 5) → mj_a1 p Z = Z) := by
  unfold mj_a1
  by_cases c : Z 21 p = 1 ∧ Z 26 p = Z 0 5
  · rw [if_pos c]
    refine ⟨fun q hq => ?_, ?_, ?_, fun _ _ => ?_, fun z => absurd c z⟩
    · rw [mj_oA_q _ _ hq]
      show mj_u Z 21 p 0 21 q = _
      rw [mj_u_at, if_neg (fun z => hq z.2)]
    · rw [mj_oA_c _ _ (show 26 ≠ 21 by decide) (by decide)]; rfl
    · rw [mj_oA_c _ _ (show 0 ≠ 21 by decide) (by decide)]; rfl
    · have e : mj_a0 p Z 21 p = 0 := by
        show mj_u Z 21 p 0 21 p = 0
        rw [mj_u_at, if_pos ⟨rfl, rfl⟩]
      unfold mj_oA
      split
      · rw [mj_u_at, if_neg (by omega), mj_u_at, if_pos ⟨rfl, rfl⟩]
        decide
      · rw [e]; decide
  · rw [if_neg c]
    exact ⟨fun _ _ => rfl, rfl, rfl, fun z1 z2 => absurd ⟨z1, z2⟩ c, fun _ => rfl⟩
def mj_Oa (k : Nat) (Z : mj_M) : Prop := ∀ p, p < mj_np Z → Z 21 p = 1 → (Z 0 5).toInt ≤ (Z 26 p).toInt ∧ (p < k → (Z 0 5).toInt < (Z 26 p).toInt)
theorem mj_arr_k (h : mj_Iv Z) (hz : mj_Zb Z) (ho : mj_Oa 0 Z) (n : Nat) (hn0 : n ≤ mj_np Z) : (mj_Iv (mj_lo mj_a1 n Z) ∧ mj_Zb (mj_lo mj_a1 n Z) ∧ mj_Oa n (mj_lo mj_a1 n Z) ∧ mj_lo mj_a1 n Z 0 = Z 0) ∧ mj_pr mj_s1 (mj_lo mj_a1 n Z) = mj_pr mj_s1 Z := by
  refine ⟨?_, mj_lo_pr mj_a1_pr _ _⟩
  exact mj_lo_Iv (Z := Z) mj_a1_pr (P := fun k Y => mj_Iv Y ∧ mj_Zb Y ∧ mj_Oa k Y ∧ Y 0 = Z 0) ⟨h, hz, ho, rfl⟩ n (fun k hk Y hY hP => by
    obtain ⟨i1, i2, i3, i4⟩ := hP
    have hn := (mj_n_pr hY).1
    obtain ⟨s1, s2, s3, s4, s5⟩ := mj_a1_s k Y
    have hn2 := (mj_n_pr (mj_a1_pr k Y)).1
    refine ⟨mj_a1_Iv i1 (by omega), ?_, fun p hp hs => ?_, by rw [s3, i4]⟩
    · unfold mj_a1
      split
      · rename_i c
        exact mj_oA_Zb (mj_a0_Iv i1 (by omega) c.1) (mj_a0_Zb i1 i2 (by omega)) (by rw [(mj_n_pr (mj_a0_pr k Y)).1]; omega)
      · exact i2
    · rw [s3, s2]
      rw [hn2] at hp
      by_cases e : p = k
      · subst e
        by_cases c : Y 21 p = 1 ∧ Y 26 p = Y 0 5
        · exact absurd hs (s4 c.1 c.2)
        · rw [s5 c] at hs
          have h1 := (i3 p hp hs).1
          have h2 : ¬ Y 26 p = Y 0 5 := fun z => c ⟨hs, z⟩
          rw [mj_eq] at h2
          exact ⟨h1, fun _ => by omega⟩
      · rw [s1 p e] at hs
        have h1 := i3 p hp hs
        exact ⟨h1.1, fun z => h1.2 (by omega)⟩)
theorem mj_arr_ok (h : mj_Iv Z) (hz : mj_Zb Z) (ho : mj_Oa 0 Z) : mj_Iv (mj_arr Z) ∧ mj_Zb (mj_arr Z) ∧ mj_On (mj_arr Z) ∧ mj_pr mj_s1 (mj_arr Z) = mj_pr mj_s1 Z ∧ mj_arr Z 0 = Z 0 := by
  have hpr : mj_pr mj_s1 (mj_arr Z) = mj_pr mj_s1 Z := mj_lo_pr mj_a1_pr _ _
  have key := (mj_arr_k h hz ho (mj_np Z) (Nat.le_refl _)).1
  obtain ⟨k1, k2, k3, k4⟩ := key
  refine ⟨k1, k2, fun p hp hs => ?_, hpr, k4⟩
  refine (k3 p hp hs).2 ?_
  have : mj_np (mj_arr Z) = mj_np Z := (mj_n_pr hpr).1
  omega
-- boarding
theorem mj_fi_ok {r : Int32} : ∀ n, n < 2 ^ 31 → mj_fi Z r n = -1 ∨ ∃ p, p < n ∧ mj_fi Z r n = nI p ∧ mj_wn Z r p
  | 0, _ => Or.inl rfl
  | n + 1, hn => by
    unfold mj_fi
    split
    · rename_i c
      exact Or.inr ⟨n, by omega, rfl, c.1⟩
    · rcases mj_fi_ok n (by omega) with e | ⟨p, hp, e, hw⟩
      · exact Or.inl e
      · exact Or.inr ⟨p, by omega, e, hw⟩
theorem mj_first_ok (h : mj_S Z) (t : Nat) (hne : ¬ mj_first Z t = -1) : ∃ p, p < mj_np Z ∧ mj_first Z t = nI p ∧ (mj_first Z t).toNatClampNeg = p ∧ mj_wn Z (Z 29 t) p := by
  have := mj_S_P h
  rcases mj_fi_ok (Z := Z) (r := Z 29 t) (mj_np Z) (by omega) with e | ⟨p, hp, e, hw⟩
  · exact absurd e hne
  · refine ⟨p, hp, e, ?_, hw⟩
    have : mj_first Z t = nI p := e
    rw [this, nI_clamp (by omega)]
theorem mj_b0_pr (t p : Nat) (Z : mj_M) : mj_pr mj_s1 (mj_b0 t p Z) = mj_pr mj_s1 Z := by
  unfold mj_b0
  rw [mj_pr_u rfl, mj_pr_u rfl, mj_pr_u rfl]
theorem mj_b1_pr (t : Nat) (Z : mj_M) : mj_pr mj_s1 (mj_b1 t Z) = mj_pr mj_s1 Z := by
  unfold mj_b1
  split
  · exact mj_b0_pr _ _ _
  · rfl
theorem mj_b2_pr (t : Nat) (Z : mj_M) : mj_pr mj_s1 (mj_b2 t Z) = mj_pr mj_s1 Z := by
  unfold mj_b2
  split
  · rw [mj_pr_u rfl, mj_pr_u rfl]
  · rfl
theorem mj_b3_pr (t : Nat) (Z : mj_M) : mj_pr mj_s1 (mj_b3 t Z) = mj_pr mj_s1 Z := mj_pr_u rfl
theorem mj_sv_pr (t : Nat) (Z : mj_M) : mj_pr mj_s1 (mj_sv t Z) = mj_pr mj_s1 Z := by
  unfold mj_sv
  split
  · rw [mj_b2_pr, mj_b3_pr, mj_lo_pr (fun _ => mj_b1_pr t)]
  · rfl
/-- Iv, zero beyond, On together -/
def mj_J (Z : mj_M) : Prop := mj_Iv Z ∧ mj_Zb Z ∧ mj_On Z
theorem mj_b1_J {t : Nat} (h : mj_J Z) (ht : t < mj_nt Z) : mj_J (mj_b1 t Z) := by
  obtain ⟨h, hz, ho⟩ := h
  have hpr := mj_b1_pr t Z
  obtain ⟨e1, e2, e3, e4⟩ := mj_n_pr hpr
  have hR := mj_S_R h.s
  have hT := mj_S_T h.s
  by_cases c : Z 33 t < Z 30 t ∧ ¬ mj_first Z t = -1
  · obtain ⟨p, hp, q1, q2, w1, w2, w3, w4⟩ := mj_first_ok h.s t c.2
    have hZ : mj_b1 t Z = mj_b0 t p Z := by
      unfold mj_b1
      rw [if_pos c, q2]
    rw [hZ] at hpr e1 e2 e3 e4 ⊢
    obtain ⟨v1, v2, v3⟩ := h.s.2.2.2.2.2.2.1 t ht
    obtain ⟨r1, r2⟩ := mj_vin v1
    have d1 := h.d t ht
    have c1 := c.1
    rw [mj_lt] at c1
    refine ⟨⟨mj_S_pr hpr h.s, fun q hq => ?_, ?_, fun r hr => ?_, fun t' ht' => ?_, h.e⟩, ?_, fun q hq hs => ?_⟩
    · rw [e1] at hq
      rw [e2]
      refine ⟨?_, (h.a q hq).2⟩
      show mj_u Z 21 p 2 21 q = 0 ∨ mj_u Z 21 p 2 21 q = 1 ∨ mj_u Z 21 p 2 21 q = 2 ∨ mj_u Z 21 p 2 21 q = 3
      rw [mj_u_at]
      split
      · exact Or.inr (Or.inr (Or.inl rfl))
      · exact (h.a q hq).1
    · refine mj_Db_lv (S := fun q => decide (q = p)) (r0 := (Z 29 t).toNatClampNeg) (s1 := 2) (mj_S_R h.s) r2 hpr h.b (by decide) (by decide) (fun q hq hs => ?_) (fun q hq hs => ?_) rfl rfl (fun r => ?_)
      · have e := of_decide_eq_true hs
        subst e
        refine ⟨by rw [w2, ← r1], w1, ?_, ?_⟩
        · show Z 22 q = _
          rw [w2, ← r1]
        · show mj_u Z 21 q 2 21 q = 2
          rw [mj_u_at, if_pos ⟨rfl, rfl⟩]
      · have e := of_decide_eq_false hs
        refine ⟨rfl, ?_⟩
        show mj_u Z 21 p 2 21 q = Z 21 q
        rw [mj_u_at, if_neg (fun z => e z.2)]
      · rw [mj_cb_1 _ hp]
        show mj_u (mj_u Z 21 p 2) 6 (Z 29 t).toNatClampNeg (Z 6 (Z 29 t).toNatClampNeg + 1) 6 r = _
        rw [mj_u_at]
        by_cases e : r = (Z 29 t).toNatClampNeg
        · rw [if_pos ⟨rfl, e⟩, if_pos e, e]; rfl
        · rw [if_neg (fun z => e z.2), if_neg e]; rfl
    · rw [e2] at hr
      exact h.c r hr
    · rw [e4] at ht'
      show 0 ≤ (mj_b0 t p Z 33 t').toInt ∧ (mj_b0 t p Z 33 t').toInt ≤ (Z 30 t').toInt
      unfold mj_b0
      rw [mj_u_at]
      by_cases e : t' = t
      · subst e
        rw [if_pos ⟨rfl, rfl⟩, fb_addI (by rw [show (1 : Int32).toInt = 1 from rfl]; omega) (by rw [show (1 : Int32).toInt = 1 from rfl]; omega), show (1 : Int32).toInt = 1 from rfl]
        omega
      · rw [if_neg (fun z => e z.2)]
        exact h.d t' ht'
    · unfold mj_b0
      exact mj_Zb_u (mj_Zb_u (mj_Zb_u hz (by decide) (fun _ => hp)) (by decide) (fun _ => show _ < 10 by omega)) (by decide) (fun _ => show _ < 12 by omega)
    · rw [e1] at hq
      have hs' : mj_u Z 21 p 2 21 q = 1 := hs
      rw [mj_u_at] at hs'
      show (Z 0 5).toInt < (Z 26 q).toInt
      by_cases e : q = p
      · rw [if_pos ⟨rfl, e⟩] at hs'
        exact absurd hs' (by decide)
      · rw [if_neg (fun z => e z.2)] at hs'
        exact ho q hq hs'
  · have hZ : mj_b1 t Z = Z := by
      unfold mj_b1
      rw [if_neg c]
    rw [hZ]
    exact ⟨h, hz, ho⟩
theorem mj_b3_J {t : Nat} (h : mj_J Z) (ht : t < mj_nt Z) : mj_J (mj_b3 t Z) := by
  obtain ⟨h, hz, ho⟩ := h
  have hT := mj_S_T h.s
  exact ⟨⟨mj_S_pr (mj_b3_pr t Z) h.s, h.a, h.b, h.c, h.d, h.e⟩, mj_Zb_u hz (by decide) (fun _ => show _ < 12 by omega), ho⟩
theorem mj_b2_J {t : Nat} (h : mj_J Z) (ht : t < mj_nt Z) : mj_J (mj_b2 t Z) := by
  obtain ⟨h, hz, ho⟩ := h
  have hT := mj_S_T h.s
  unfold mj_b2
  split
  · refine ⟨⟨mj_S_pr ?_ h.s, h.a, h.b, h.c, h.d, h.e⟩, mj_Zb_u (mj_Zb_u hz (by decide) (fun _ => show _ < 12 by omega)) (by decide) (fun _ => show _ < 12 by omega), ho⟩
    rw [mj_pr_u rfl, mj_pr_u rfl]
  · exact ⟨h, hz, ho⟩
theorem mj_sv_J {t : Nat} (h : mj_J Z) (ht : t < mj_nt Z) : mj_J (mj_sv t Z) := by
  unfold mj_sv
  split
  · have h1 : mj_J (mj_lo (fun _ => mj_b1 t) 4 Z) := mj_lo_Iv (fun _ => mj_b1_pr t) (P := fun _ Y => mj_J Y) h 4 (fun k hk Y hY hP => mj_b1_J hP (by rw [(mj_n_pr hY).2.2.2]; exact ht))
    have hp := mj_lo_pr (fun _ => mj_b1_pr t) 4 Z
    have t1 : t < mj_nt (mj_lo (fun _ => mj_b1 t) 4 Z) := by rw [(mj_n_pr hp).2.2.2]; exact ht
    exact mj_b2_J (mj_b3_J h1 t1) (by rw [(mj_n_pr (mj_b3_pr t _)).2.2.2]; exact t1)
  · exact h
theorem mj_srv_k (h : mj_J Z) (n : Nat) (hn : n ≤ mj_nt Z) : mj_J (mj_lo mj_sv n Z) ∧ mj_pr mj_s1 (mj_lo mj_sv n Z) = mj_pr mj_s1 Z :=
  ⟨mj_lo_Iv mj_sv_pr (P := fun _ Y => mj_J Y) h n (fun k hk Y hY hP => mj_sv_J hP (by rw [(mj_n_pr hY).2.2.2]; omega)), mj_lo_pr mj_sv_pr _ _⟩
theorem mj_srv_J (h : mj_J Z) : mj_J (mj_srv Z) ∧ mj_pr mj_s1 (mj_srv Z) = mj_pr mj_s1 Z := mj_srv_k h _ (Nat.le_refl _)
-- learning
theorem mj_kn_pr (p : Nat) (Z : mj_M) : mj_pr mj_s1 (mj_kn p Z) = mj_pr mj_s1 Z := by
  unfold mj_kn
  split
  · rw [mj_pr_u rfl]
  · rfl
theorem mj_kn_J {p : Nat} (h : mj_J Z) (hp : p < mj_np Z) : mj_J (mj_kn p Z) := by
  obtain ⟨h, hz, ho⟩ := h
  unfold mj_kn
  split
  · refine ⟨⟨mj_S_pr (mj_pr_u rfl) h.s, fun q hq => ?_, h.b, h.c, h.d, h.e⟩, mj_Zb_u hz (by decide) (fun _ => hp), ho⟩
    have := h.a q hq
    refine ⟨this.1, this.2.1, ?_, this.2.2.2⟩
    rw [mj_u_at]
    split
    · exact Or.inr rfl
    · exact this.2.2.1
  · exact ⟨h, hz, ho⟩
theorem mj_kno_k (h : mj_J Z) (n : Nat) (hn : n ≤ mj_np Z) : mj_J (mj_lo mj_kn n Z) ∧ mj_pr mj_s1 (mj_lo mj_kn n Z) = mj_pr mj_s1 Z :=
  ⟨mj_lo_Iv mj_kn_pr (P := fun _ Y => mj_J Y) h n (fun k hk Y hY hP => mj_kn_J hP (by rw [(mj_n_pr hY).1]; omega)), mj_lo_pr mj_kn_pr _ _⟩
theorem mj_kno_J (h : mj_J Z) : mj_J (mj_kno Z) ∧ mj_pr mj_s1 (mj_kno Z) = mj_pr mj_s1 Z := mj_kno_k h _ (Nat.le_refl _)
-- alarms
theorem mj_alr_pr (r : Nat) (Z : mj_M) : mj_pr mj_s1 (mj_alr r Z) = mj_pr mj_s1 Z := by
  unfold mj_alr
  split
  · rfl
  · rw [mj_pr_u rfl]
theorem mj_alr_J {r : Nat} (h : mj_J Z) (hr : r < mj_nr Z) : mj_J (mj_alr r Z) := by
  obtain ⟨h, hz, ho⟩ := h
  have hR := mj_S_R h.s
  unfold mj_alr
  split
  · exact ⟨h, hz, ho⟩
  · rename_i c
    refine ⟨⟨mj_S_pr (mj_pr_u rfl) h.s, h.a, h.b, fun x hx => ?_, h.d, h.e⟩, mj_Zb_u hz (by decide) (fun _ => show _ < 10 by omega), ho⟩
    have := h.c x hx
    rw [mj_u_at]
    by_cases e : x = r
    · subst e
      rw [if_pos ⟨rfl, rfl⟩]
      refine ⟨?_, fun z => absurd z c⟩
      split
      · exact Or.inr rfl
      · exact Or.inl rfl
    · rw [if_neg (fun z => e z.2)]
      exact this
theorem mj_alr_k (h : mj_J Z) (n : Nat) (hn : n ≤ mj_nr Z) : mj_J (mj_lo mj_alr n Z) ∧ mj_pr mj_s1 (mj_lo mj_alr n Z) = mj_pr mj_s1 Z :=
  ⟨mj_lo_Iv mj_alr_pr (P := fun _ Y => mj_J Y) h n (fun k hk Y hY hP => mj_alr_J hP (by rw [(mj_n_pr hY).2.1]; omega)), mj_lo_pr mj_alr_pr _ _⟩
end KEEP2
