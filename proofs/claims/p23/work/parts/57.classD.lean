-- CRUSHLOAD'S METHODS, D: the station foretold
section CLD
variable {Z B M : mj_M} {K : mj_K} {p t l : Nat}
/-- the station foretold tells of the state B -/
def mk_FO (B M : mj_M) : Prop := ∃ Y, mj_v M 41 = mj_cc B Y ∧ mj_wt B (Y 36) (Y 37)
def mk_P6 (m c i : Nat) : Prop := (c = 41 ∧ i = 5) ∨ (c = 42 ∧ i = 0) ∨ (43 ≤ c ∧ c ≤ 48 ∧ i < 10) ∨ (c = 49 ∧ i = 0) ∨ (c = 49 ∧ i = 1) ∨ (50 ≤ c ∧ c ≤ 60 ∧ i < 14) ∨ (c = 61 ∧ i = 0) ∨ (62 ≤ c ∧ c ≤ 68 ∧ i < m) ∨ (c = 69 ∧ i = 0) ∨ (70 ≤ c ∧ c ≤ 75 ∧ i < 12) ∨ (77 ≤ c ∧ c ≤ 78 ∧ i < 400)
theorem mk_P6_41 (m c i : Nat) (h : mk_P6 m c i) : 41 ≤ c := by
  rcases h with (z | z | z | z | z | z | z | z | z | z | z) <;> omega
theorem mk_Q_41 {P : Nat → Nat → Prop} (hP : ∀ c i, P c i → 41 ≤ c) : mj_u (mk_Q P M) 41 5 (mk_Q P M 1 5) = mk_Q (fun c i => P c i ∨ (c = 41 ∧ i = 5)) M := by
  rw [mk_Q_r hP (show 1 ≤ 40 by decide), mk_Q_u (show 1 + 40 = 41 from rfl)]
theorem mk_cp (h : mj_Ia Z) (hc : mk_CL Z M) (hK : K 0 0 (mk_Q (mk_P6 (mj_np Z)) M)) : mj_Cm 41 2 [.ref 41, .ref 1] M K := by
  obtain ⟨⟨Y, hv, hw⟩, hf⟩ := hc
  obtain ⟨hP, eP⟩ := mj_S_P h.1.1.s
  obtain ⟨z1, z2, z3⟩ := h.2
  have b8 : ∀ i, i < 10 → mj_bit (M 8 i) := by
    intro i hi
    rw [show M 8 i = Z 7 i from mk_at hv 7 i]
    rcases Nat.lt_or_ge i (mj_nr Z) with q | q
    · exact (h.1.1.c i q).1
    · exact Or.inl (z1 i q).2.2.2
  have bl : ∀ i, i < 14 → mj_bit (M 17 i) ∧ mj_bit (M 18 i) ∧ mj_bit (M 19 i) ∧ mj_bit (M 20 i) := by
    intro i hi
    rw [show M 17 i = Z 16 i from mk_at hv 16 i, show M 18 i = Z 17 i from mk_at hv 17 i, show M 19 i = Z 18 i from mk_at hv 18 i, show M 20 i = Z 19 i from mk_at hv 19 i]
    rcases Nat.lt_or_ge i (mj_nl Z) with q | q
    · obtain ⟨a, b, c, d, -⟩ := h.1.1.s.2.2.2.2.2.1 i q
      exact ⟨a, b, c, d⟩
    · obtain ⟨a, b, c, d⟩ := z2 i q
      exact ⟨Or.inl a, Or.inl b, Or.inl c, Or.inl d⟩
  have b9 : M 9 1 = 0 ∨ M 9 1 = 1 := by
    rw [show M 9 1 = Z 8 1 from mk_at hv 8 1]
    exact h.1.1.s.2.2.2.2.2.2.2
  have b28 : ∀ i, i < mj_np Z → mj_bit (M 28 i) := by
    intro i hi
    rw [show M 28 i = Z 27 i from mk_at hv 27 i]
    exact (h.1.1.s.2.2.2.1 i hi).2.2
  have h21 : M 21 0 = nI (mj_np Z) := (mk_at hv 20 0).trans eP
  rw [← mk_Q_0 M]
  refine e41 (mk_6 (fun c i z => z.elim) b8 (t41_11 ?_))
  refine mk_17 (fun c i z => ?_) b9 (fun i hi => (bl i hi).1) (fun i hi => (bl i hi).2.1) (fun i hi => (bl i hi).2.2.1) (fun i hi => (bl i hi).2.2.2) (t41_22 ?_)
  · rcases z with (f | z | z) <;> first | exact f.elim | omega
  refine mk_26 (fun c i z => ?_) hP h21 b28 (t41_33 ?_)
  · rcases z with ((f | z | z) | z | z | z) <;> first | exact f.elim | omega
  refine mk_31 (fun c i z => ?_) (t41_44 ?_)
  · rcases z with (((f | z | z) | z | z | z) | z | z) <;> first | exact f.elim | omega
  refine mk_40 (fun c i z => ?_) (t41_55 ?_)
  · rcases z with ((((f | z | z) | z | z | z) | z | z) | z | z) <;> first | exact f.elim | omega
  refine Eq.mpr (congrArg (K 0 0) (mk_Q_41 (fun c i z => ?_))) ?_
  · rcases z with (((((f | z | z) | z | z | z) | z | z) | z | z) | z) <;> first | exact f.elim | omega
  refine Eq.mp (congrArg (K 0 0) (mk_Q_c (fun c i => ?_))) hK
  unfold mk_P6
  constructor
  · rintro (z | z | z | z | z | z | z | z | z | z | z)
    · exact Or.inr (z)
    · exact Or.inl (Or.inl (Or.inl (Or.inl (Or.inl (Or.inr (Or.inl z))))))
    · exact Or.inl (Or.inl (Or.inl (Or.inl (Or.inl (Or.inr (Or.inr (z)))))))
    · exact Or.inl (Or.inl (Or.inl (Or.inl (Or.inr (Or.inl z)))))
    · exact Or.inl (Or.inl (Or.inl (Or.inl (Or.inr (Or.inr (Or.inl z))))))
    · exact Or.inl (Or.inl (Or.inl (Or.inl (Or.inr (Or.inr (Or.inr (z)))))))
    · exact Or.inl (Or.inl (Or.inl (Or.inr (Or.inl z))))
    · exact Or.inl (Or.inl (Or.inl (Or.inr (Or.inr (z)))))
    · exact Or.inl (Or.inl (Or.inr (Or.inl z)))
    · exact Or.inl (Or.inl (Or.inr (Or.inr (z))))
    · exact Or.inl (Or.inr (z))
  · rintro ((((((f | z | z) | z | z | z) | z | z) | z | z) | z) | z)
    · exact f.elim
    · exact Or.inr (Or.inl z)
    · exact Or.inr (Or.inr (Or.inl z))
    · exact Or.inr (Or.inr (Or.inr (Or.inl z)))
    · exact Or.inr (Or.inr (Or.inr (Or.inr (Or.inl z))))
    · exact Or.inr (Or.inr (Or.inr (Or.inr (Or.inr (Or.inl z)))))
    · exact Or.inr (Or.inr (Or.inr (Or.inr (Or.inr (Or.inr (Or.inl z))))))
    · exact Or.inr (Or.inr (Or.inr (Or.inr (Or.inr (Or.inr (Or.inr (Or.inl z)))))))
    · exact Or.inr (Or.inr (Or.inr (Or.inr (Or.inr (Or.inr (Or.inr (Or.inr (Or.inl z))))))))
    · exact Or.inr (Or.inr (Or.inr (Or.inr (Or.inr (Or.inr (Or.inr (Or.inr (Or.inr (Or.inl z)))))))))
    · exact Or.inr (Or.inr (Or.inr (Or.inr (Or.inr (Or.inr (Or.inr (Or.inr (Or.inr (Or.inr (z))))))))))
    · exact Or.inl z
theorem mk_lim_P {m c i : Nat} (h1 : mj_has c = true) (h2 : c ≠ 40) : mk_P6 m (41 + c) i ↔ i < mj_lim m c := by
  unfold mj_has at h1
  simp only [Bool.or_eq_true, Bool.and_eq_true, decide_eq_true_eq, beq_iff_eq] at h1
  unfold mk_P6 mj_lim
  have cs : (2 ≤ c ∧ c ≤ 7) ∨ (9 ≤ c ∧ c ≤ 19) ∨ (21 ≤ c ∧ c ≤ 27) ∨ (29 ≤ c ∧ c ≤ 34) := by omega
  clear h1
  rcases cs with cs | cs | cs | cs
  · rw [if_pos cs]
    constructor
    · rintro (z | z | z | z | z | z | z | z | z | z | z) <;> omega
    · intro q
      exact Or.inr (Or.inr (Or.inl ⟨by omega, by omega, q⟩))
  · rw [if_neg (by omega), if_pos cs]
    constructor
    · rintro (z | z | z | z | z | z | z | z | z | z | z) <;> omega
    · intro q
      exact Or.inr (Or.inr (Or.inr (Or.inr (Or.inr (Or.inl ⟨by omega, by omega, q⟩)))))
  · rw [if_neg (by omega), if_neg (by omega), if_pos (Or.inl cs)]
    constructor
    · rintro (z | z | z | z | z | z | z | z | z | z | z) <;> omega
    · intro q
      exact Or.inr (Or.inr (Or.inr (Or.inr (Or.inr (Or.inr (Or.inr (Or.inl ⟨by omega, by omega, q⟩)))))))
  · rw [if_neg (by omega), if_neg (by omega), if_neg (by omega)]
    constructor
    · rintro (z | z | z | z | z | z | z | z | z | z | z) <;> omega
    · intro q
      exact Or.inr (Or.inr (Or.inr (Or.inr (Or.inr (Or.inr (Or.inr (Or.inr (Or.inr (Or.inl ⟨by omega, by omega, q⟩)))))))))
theorem mk_cpOK (h : mj_Ia Z) (hc : mk_CL Z M) : mk_CL Z (mk_Q (mk_P6 (mj_np Z)) M) ∧ mk_FO Z (mk_Q (mk_P6 (mj_np Z)) M) := by
  obtain ⟨⟨Y, hv, hw⟩, hf⟩ := hc
  have hlow : ∀ c, c ≤ 40 → mk_Q (mk_P6 (mj_np Z)) M c = M c := fun c hc => mk_Q_r (mk_P6_41 (mj_np Z)) hc
  -- what was copied
  have cp : ∀ c i, mj_has c = true → c ≠ 40 → mk_Q (mk_P6 (mj_np Z)) M (41 + c) i = if i < mj_lim (mj_np Z) c then M (1 + c) i else 0 := by
    intro c i h1 h2
    by_cases q : i < mj_lim (mj_np Z) c
    · rw [if_pos q, mk_Q_p ((mk_lim_P h1 h2).mpr q), show 41 + c - 40 = 1 + c by omega]
    · rw [if_neg q, mk_Q_n (fun z => q ((mk_lim_P h1 h2).mp z))]
      exact hf c i h1 h2 (by omega)
  refine ⟨⟨⟨fun q => if q < 40 then Y q else mk_Q (mk_P6 (mj_np Z)) M (1 + q), ?_, hw⟩, fun c i h1 h2 h3 => ?_⟩, mj_v (mk_Q (mk_P6 (mj_np Z)) M) 41, ?_, ?_⟩
  · funext q
    by_cases e : q < 40
    · show mk_Q (mk_P6 (mj_np Z)) M (1 + q) = _
      rw [hlow _ (by omega)]
      have := congrFun hv q
      show mj_v M 1 q = _
      rw [this]
      exact mj_cc_ne (fun _ => rfl) (fun _ _ => ⟨rfl, rfl⟩) (fun _ => rfl) (fun _ => rfl) (fun _ => ⟨rfl, rfl⟩) (fun _ => rfl) (fun _ => rfl) (if_pos e).symm
    · rw [mj_cc_der _ _ (mk_der (by omega)), if_neg e]
      rfl
  · rw [cp c i h1 h2, if_neg (by omega)]
  · have hsame : ∀ c, mj_same c = true → mj_has c = true ∧ c ≠ 40 := by
      intro c hc
      unfold mj_same at hc
      unfold mj_has
      simp only [Bool.or_eq_true, Bool.and_eq_true, decide_eq_true_eq, beq_iff_eq] at hc ⊢
      omega
    funext q i
    show mk_Q (mk_P6 (mj_np Z)) M (41 + q) i = _
    by_cases hs : mj_same q = true
    · obtain ⟨s1, s2⟩ := hsame q hs
      rw [cp q i s1 s2, mj_cc_same _ _ hs]
      by_cases e : i < mj_lim (mj_np Z) q
      · rw [if_pos e, mk_at hv q i, mj_cc_same _ _ hs]
      · rw [if_neg e]
        exact (h.1.2.1 q i s1 (by omega)).symm
    · by_cases e24 : q = 24
      · subst e24
        rw [cp 24 i rfl (by decide)]
        show _ = Z 24 i + 2 * Z 40 i
        by_cases e : i < mj_lim (mj_np Z) 24
        · rw [if_pos e, mk_at hv 24 i]; rfl
        · have e' : mj_np Z ≤ i := by
            have : mj_lim (mj_np Z) 24 = mj_np Z := rfl
            omega
          rw [if_neg e, h.1.2.1 24 i rfl (by omega), h.1.2.1 40 i rfl (by show mj_np Z ≤ i; omega)]
          decide
      · by_cases e0 : q = 0
        · subst e0
          show _ = if i = 5 then Z 0 5 else mk_Q (mk_P6 (mj_np Z)) M 41 i
          by_cases e : i = 5
          · subst e
            rw [if_pos rfl, mk_Q_p (Or.inl ⟨rfl, rfl⟩)]
            exact mk_at hv 0 5
          · rw [if_neg e]
        · by_cases e1 : q = 1
          · subst e1
            show _ = if i = 0 then Z 1 0 else mk_Q (mk_P6 (mj_np Z)) M 42 i
            by_cases e : i = 0
            · subst e
              rw [if_pos rfl, mk_Q_p (Or.inr (Or.inl ⟨rfl, rfl⟩))]
              exact mk_at hv 1 0
            · rw [if_neg e]
          · by_cases e8 : q = 8
            · subst e8
              show _ = if i = 0 then Z 8 0 else if i = 1 then Z 8 1 else mk_Q (mk_P6 (mj_np Z)) M 49 i
              by_cases e : i = 0
              · subst e
                rw [if_pos rfl, mk_Q_p (show mk_P6 (mj_np Z) (41 + 8) 0 from Or.inr (Or.inr (Or.inr (Or.inl ⟨rfl, rfl⟩))))]
                exact mk_at hv 8 0
              · rw [if_neg e]
                by_cases e' : i = 1
                · subst e'
                  rw [if_pos rfl, mk_Q_p (show mk_P6 (mj_np Z) (41 + 8) 1 from Or.inr (Or.inr (Or.inr (Or.inr (Or.inl ⟨rfl, rfl⟩)))))]
                  exact mk_at hv 8 1
                · rw [if_neg e']
            · by_cases e20 : q = 20
              · subst e20
                show _ = if i = 0 then Z 20 0 else mk_Q (mk_P6 (mj_np Z)) M 61 i
                by_cases e : i = 0
                · subst e
                  rw [if_pos rfl, mk_Q_p (show mk_P6 (mj_np Z) (41 + 20) 0 from Or.inr (Or.inr (Or.inr (Or.inr (Or.inr (Or.inr (Or.inl ⟨rfl, rfl⟩)))))))]
                  exact mk_at hv 20 0
                · rw [if_neg e]
              · by_cases e28 : q = 28
                · subst e28
                  show _ = if i = 0 then Z 28 0 else mk_Q (mk_P6 (mj_np Z)) M 69 i
                  by_cases e : i = 0
                  · subst e
                    rw [if_pos rfl, mk_Q_p (show mk_P6 (mj_np Z) (41 + 28) 0 from Or.inr (Or.inr (Or.inr (Or.inr (Or.inr (Or.inr (Or.inr (Or.inr (Or.inl ⟨rfl, rfl⟩)))))))))]
                    exact mk_at hv 28 0
                  · rw [if_neg e]
                · have hd : mj_der q = true := by
                    unfold mj_der
                    simp only [Bool.and_eq_true, Bool.not_eq_true', beq_eq_false_iff_ne]
                    exact ⟨⟨⟨⟨⟨⟨by simpa using hs, e24⟩, e0⟩, e1⟩, e8⟩, e20⟩, e28⟩
                  rw [mj_cc_der _ _ hd]
                  rfl
  · intro w hw4 a g ha hg
    have hR := mj_S_R h.1.1.s
    have r : ∀ j, j < 400 → mk_Q (mk_P6 (mj_np Z)) M 77 j = Y 36 j ∧ mk_Q (mk_P6 (mj_np Z)) M 78 j = Y 37 j := by
      intro j hj
      rw [mk_Q_p (show mk_P6 (mj_np Z) 77 j from Or.inr (Or.inr (Or.inr (Or.inr (Or.inr (Or.inr (Or.inr (Or.inr (Or.inr (Or.inr (⟨by decide, by decide, hj⟩))))))))))), mk_Q_p (show mk_P6 (mj_np Z) 78 j from Or.inr (Or.inr (Or.inr (Or.inr (Or.inr (Or.inr (Or.inr (Or.inr (Or.inr (Or.inr (⟨by decide, by decide, hj⟩)))))))))))]
      exact ⟨mk_at hv 36 j, mk_at hv 37 j⟩
    obtain ⟨r1, r2⟩ := r (w * 100 + a * 10 + g) (by omega)
    have := hw w hw4 a g ha hg
    show (mk_Q (mk_P6 (mj_np Z)) M 77 (w * 100 + a * 10 + g)).toInt = _ ∧ mk_Q (mk_P6 (mj_np Z)) M 78 (w * 100 + a * 10 + g) = _
    rw [r1, r2]
    exact this
theorem mk_41 (h : mj_Ia Z) (hc : mk_CL Z M) (hK : ∀ M', mk_CL Z M' → mk_FO Z M' → K 0 0 M') : mj_Cm 41 2 [.ref 41, .ref 1] M K := by
  obtain ⟨a, b⟩ := mk_cpOK h hc
  exact mk_cp h hc (hK _ a b)
/-- what a call of the station foretold leaves -/
theorem mk_FOw {Y : mj_M} (hc : mk_CL Z M) (hB : mj_Ia B) (hn : mj_np B = mj_np Z) (hw : mj_wt B (Y 36) (Y 37)) : mk_CL Z (mj_mg M 41 40 (mj_cc B Y)) ∧ mk_FO B (mj_mg M 41 40 (mj_cc B Y)) := by
  obtain ⟨⟨Y0, hv, hw0⟩, hf⟩ := hc
  refine ⟨⟨⟨fun q => if q < 40 then Y0 q else mj_mg M 41 40 (mj_cc B Y) (1 + q), ?_, hw0⟩, fun c i h1 h2 h3 => ?_⟩, fun q => if q < 40 then Y q else M (41 + q), ?_, ?_⟩
  · funext q
    show mj_mg M 41 40 (mj_cc B Y) (1 + q) = _
    by_cases e : q < 40
    · rw [mj_mg_out _ _ _ _ (by omega)]
      have := congrFun hv q
      show mj_v M 1 q = _
      rw [this]
      exact mj_cc_ne (fun _ => rfl) (fun _ _ => ⟨rfl, rfl⟩) (fun _ => rfl) (fun _ => rfl) (fun _ => ⟨rfl, rfl⟩) (fun _ => rfl) (fun _ => rfl) (if_pos e).symm
    · rw [mj_cc_der _ _ (mk_der (by omega)), if_neg e]
  · have hlt : c < 40 := by
      unfold mj_has at h1
      simp only [Bool.or_eq_true, Bool.and_eq_true, decide_eq_true_eq, beq_iff_eq] at h1
      omega
    have e := congrFun (mj_v_mg M 41 40 (mj_cc B Y) hlt) i
    have e' : mj_mg M 41 40 (mj_cc B Y) (41 + c) i = mj_cc B Y c i := e
    rw [e']
    rw [← hn] at h3
    by_cases hs : mj_same c = true
    · rw [mj_cc_same _ _ hs]
      exact hB.1.2.1 c i h1 h3
    · have e24 : c = 24 := by
        unfold mj_has at h1
        unfold mj_same at hs
        simp only [Bool.or_eq_true, Bool.and_eq_true, decide_eq_true_eq, beq_iff_eq] at h1 hs
        omega
      subst e24
      show B 24 i + 2 * B 40 i = 0
      have h3' : mj_np B ≤ i := h3
      rw [hB.1.2.1 24 i rfl h3, hB.1.2.1 40 i rfl h3']
      decide
  · funext q
    by_cases e : q < 40
    · rw [mj_v_mg _ _ _ _ e]
      exact mj_cc_ne (fun _ => rfl) (fun _ _ => ⟨rfl, rfl⟩) (fun _ => rfl) (fun _ => rfl) (fun _ => ⟨rfl, rfl⟩) (fun _ => rfl) (fun _ => rfl) (if_pos e).symm
    · rw [mj_cc_der _ _ (mk_der (by omega)), if_neg e]
      show mj_mg M 41 40 (mj_cc B Y) (41 + q) = _
      rw [mj_mg_out _ _ _ _ (by omega)]
  · show mj_wt B (if 36 < 40 then Y 36 else M (41 + 36)) (if 37 < 40 then Y 37 else M (41 + 37))
    rw [if_pos (by decide), if_pos (by decide)]
    exact hw
theorem mk_sec2 (hc : mk_CL Z M) (hB : mj_Ia B) (hn : mj_np B = mj_np Z) (hb : (B 0 5).toInt < 1000000) (hF : mk_FO B M) {KK : mj_K} (hK : ∀ W, mk_CL Z (mj_mg M 41 40 W) → mk_FO (mj_sec B) (mj_mg M 41 40 W) → KK 0 0 W) : mj_Cm 51 6 [.ref 0] (mj_v M 41) KK := by
  obtain ⟨Y, hv, hw⟩ := hF
  obtain ⟨s1, s2, s3⟩ := mj_sec_I hB hb
  rw [hv]
  refine sp51 hB.1 hb hw (fun Y' y1 y2 => ?_)
  obtain ⟨a, b⟩ := mk_FOw (Y := Y') hc s1 (by rw [(mj_n_pr s3).1]; exact hn) (mj_wt_pr (mj_s12 s3) (by rw [y1, y2]; exact hw))
  exact hK _ a b
theorem mk_fore (h : mj_Ia Z) (hb : (Z 0 5).toInt + 60 ≤ 1000000) (hc : mk_CL Z M) {x s : Int32} (k1 : ¬ vp_in x (mj_nr Z) → K 1 0 M) (k2 : vp_in x (mj_nr Z) → ¬ md_rg s 1 60 → K 2 0 M) (k0 : ∀ r, r < mj_nr Z → x = nI r → md_rg s 1 60 → ∀ M', mk_CL Z M' → K 0 (nI (mj_ct (md_ss s.toNatClampNeg Z) r 0)) M') : mj_Cm 79 7 [.ref 0, .int x, .int s] M K := by
  refine e79 (mk_86 h hc (fun c => t79_5 (sp83 (fun c2 => t79_12 (mk_41 h hc (fun M1 m1 m2 => t79_23 ?_))) (fun c2 => k2 c c2))) k1)
  obtain ⟨e, hr⟩ := mj_vin c
  have k := k0 _ hr e c2
  obtain ⟨es, -, e2⟩ := md_rgn c2 (by decide) (by decide)
  have i60 : (60 : Int32).toInt = 60 := by decide
  rw [i60] at e2
  generalize s.toNatClampNeg = n at es e2 k
  subst es
  refine mj_down (P := fun j => ∀ M', mk_CL Z M' → mk_FO (md_ss j Z) M' → mj_W 2 79 7 25 [some (.ref 0), some (.int x), some (.int (nI n)), some (.int (nI j))] [] M' 2 K) n ?_ ?_ M1 m1 m2
  · intro M' h1 h2
    obtain ⟨i1, i2, i3⟩ := mj_secs_I h (n := n) (by omega) n (Nat.le_refl _)
    refine t79_25 ⟨fun _ => ?_, fun z => absurd (nI_le (Nat.le_refl n) (by omega)) z⟩
    obtain ⟨Y, hv, hw⟩ := h2
    have hr' : vp_in x (mj_nr (md_ss n Z)) := by rw [show mj_nr (md_ss n Z) = mj_nr Z from (mj_n_pr i3).2.1]; exact c
    have fe : f3 (mj_v M' 41) x = nI (mj_ct (md_ss n Z) x.toNatClampNeg 0) := by
      rw [hv]
      unfold f3
      rw [if_pos ((mk_p0 i1.1.1.s x).mpr hr')]
      exact (i1.1.1.b _ (by show _ < mj_nr (mj_lo (fun _ => mj_sec) n Z); rw [(mj_n_pr i3).2.1]; exact hr)).1
    refine ⟨by rw [hv]; exact mj_b10 i1.1.1.s, ?_⟩
    rw [fe]
    exact k _ h1
  · intro j hj ih M' h1 h2
    obtain ⟨i1, i2, i3⟩ := mj_secs_I h (n := n) (by omega) j (by omega)
    refine t79_25 ⟨fun z => absurd z (nI_ge hj (by omega)), fun _ => mk_sec2 h1 i1 (mj_n_pr i3).1 (by omega) h2 (fun W w1 w2 => t79_37 ?_)⟩
    rw [nI_1]
    exact ih _ w1 w2
theorem mk_clears (h : mj_Ia Z) (hb : (Z 0 5).toInt + 100 ≤ 1000000) (hc : mk_CL Z M) (k0 : ∀ v, md_csv (md_ord Z) v → ∀ M', mk_CL Z M' → K 0 v M') : mj_Cm 80 7 [.ref 0] M K := by
  obtain ⟨i1, i2, i3, i4⟩ := md_on_I h (mj_np Z) (Nat.le_refl _)
  have hI : mj_Ia (md_ord Z) := i1
  have hnp : mj_np (md_ord Z) = mj_np Z := i2
  have hb2 : (md_ord Z 0 5).toInt + (100 : Nat) ≤ 1000000 := by
    show (md_on Z (mj_np Z) 0 5).toInt + (100 : Nat) ≤ 1000000
    rw [i4]; omega
  refine e80 (mk_41 h hc (fun M1 m1 m2 => t80_11 ?_))
  obtain ⟨Y, hv, hw⟩ := m2
  rw [hv]
  refine sp49 h (fun Y' y1 y2 => t80_18 ?_)
  obtain ⟨f1, f2⟩ := mk_FOw (Y := Y') m1 hI hnp y2
  refine mj_down (P := fun j => ∀ M', mk_CL Z M' → mk_FO (md_ss j (md_ord Z)) M' → (∀ m, m < j → md_in (md_ord Z) m) → mj_W 2 80 7 21 [some (.ref 0), some (.int (nI j))] [] M' 0 K) 100 ?_ ?_ _ f1 f2 (fun m hm => absurd hm (Nat.not_lt_zero m))
  · intro M' h1 h2 h3
    obtain ⟨j1, j2, j3⟩ := mj_secs_I hI hb2 100 (Nat.le_refl _)
    obtain ⟨Y2, hv2, hw2⟩ := h2
    have key : mj_Cm 23 3 [.ref 20] (mj_cc (md_ss 100 (md_ord Z)) Y2) (mj_k2 2 80 7 65 [some (.ref 0), some (.int (nI 100))] [] M' 41 40 0 (some .boolean) K) := by
      refine sp23 j1.1.1 (fun c => ?_) (fun c => ?_)
      · rw [← hv2, mj_k2_v]
        refine t80_65 ⟨fun z => absurd z (by decide), fun _ => k0 _ (Or.inr ⟨rfl, fun m hm => ?_⟩) _ h1⟩
        by_cases e : m = 100
        · subst e; exact c
        · exact h3 m (by omega)
      · rw [← hv2, mj_k2_v]
        exact t80_65 ⟨fun _ => k0 _ (Or.inl ⟨100, Nat.le_refl _, rfl, c, h3⟩) _ h1, fun z => absurd rfl z⟩
    refine t80_21 ⟨fun _ => ?_, fun c => absurd (nI_le (Nat.le_refl 100) (by decide)) c⟩
    rw [hv2]
    exact key
  · intro j hj ih M' h1 h2 h3
    obtain ⟨j1, j2, j3⟩ := mj_secs_I hI hb2 j (by omega)
    have h2' := h2
    obtain ⟨Y2, hv2, hw2⟩ := h2
    have key : mj_Cm 23 3 [.ref 20] (mj_cc (md_ss j (md_ord Z)) Y2) (mj_k2 2 80 7 37 [some (.ref 0), some (.int (nI j))] [] M' 41 40 0 (some .boolean) K) := by
      refine sp23 j1.1.1 (fun c => ?_) (fun c => ?_)
      · rw [← hv2, mj_k2_v]
        refine t80_37 ⟨fun _ => mk_sec2 h1 j1 (by rw [(mj_n_pr j3).1]; exact hnp) (by omega) h2' (fun W w1 w2 => t80_49 ?_), fun z => absurd z (by decide)⟩
        rw [nI_1]
        refine ih _ w1 w2 (fun m hm => ?_)
        by_cases e : m = j
        · subst e; exact c
        · exact h3 m (by omega)
      · rw [← hv2, mj_k2_v]
        exact t80_37 ⟨fun z => absurd rfl z, fun _ => k0 _ (Or.inl ⟨j, by omega, rfl, c, h3⟩) _ h1⟩
    refine t80_21 ⟨fun c => absurd c (nI_ge hj (by decide)), fun _ => ?_⟩
    rw [hv2]
    exact key
end CLD
