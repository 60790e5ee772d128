-- THE STATION'S METHODS, G: ways anew, persons, orders
section STG
variable {Z Y : mj_M} {K : mj_K} {p l : Nat}
theorem md_yy (Z Y : mj_M) (u v : Nat → Int32) : mj_yy (mj_cc Z Y) u v = mj_cc Z (mj_yy Y u v) := by
  funext c
  by_cases e : c = 36
  · subst e; rfl
  · by_cases e2 : c = 37
    · subst e2; rfl
    · rw [mj_yy_o _ _ _ e e2]
      exact mj_cc_ne (fun _ => rfl) (fun _ _ => ⟨rfl, rfl⟩) (fun _ => rfl) (fun _ => rfl) (fun _ => ⟨rfl, rfl⟩) (fun _ => rfl) (fun _ => rfl) (mj_yy_o _ _ _ e e2).symm
theorem sp42 (hI : mj_In Z) (hK : ∀ Y', (∀ c, c ≠ 36 → c ≠ 37 → Y' c = Y c) → mj_wt Z (Y' 36) (Y' 37) → K 0 0 (mj_cc Z Y')) : mj_Cm 42 5 [.ref 0] (mj_cc Z Y) K := by
  have hI' : mj_In (mj_cc Z Y) := hI
  refine e42 (sp34 hI' (fun u v hw => t42_18 ?_))
  have hw' : mj_wt Z u v := hw
  rw [md_yy]
  exact hK _ (fun c h1 h2 => mj_yy_o _ _ _ h1 h2) hw'
theorem sp46 (h : mj_Ia Z) {ch kn w g gr : Int32} {r0 : Nat} (hn : mj_np Z < 120) (hr0 : r0 < mj_nr Z) (hg : vp_in g (mj_nr Z)) (hch : mj_bit ch) (hkn : mj_bit kn) (hw : w = ch + 2 * kn) (hcap : Z 2 r0 = 0 ∨ ((mj_ct Z r0 0 + mj_ct Z r0 1 + 1 : Nat) : Int) ≤ (Z 3 r0).toInt) (hK : K 0 (nI (mj_np Z)) (mj_cc (md_add (nI r0) g ch kn gr Z) Y)) : mj_Cm 46 4 [.ref 0, .int (nI r0), .int g, .int w, .int gr] (mj_cc Z Y) K := by
  have hR := mj_S_R h.1.1.s
  obtain ⟨hP, eP⟩ := mj_S_P h.1.1.s
  have cr : (nI r0).toNatClampNeg = r0 := nI_clamp (by omega)
  have cp : (nI (mj_np Z)).toNatClampNeg = mj_np Z := nI_clamp (by omega)
  have vp : vp_in (nI (mj_np Z)) 120 := vp_in_nI hn (by decide)
  have vr : vp_in (nI r0) (mj_nr Z) := vp_in_nI hr0 (by omega)
  obtain ⟨a1, a2⟩ := md_a6_I (gr := gr) h hn rfl hr0 hg hch hkn hcap
  have r20 : mj_cc Z Y 20 0 = nI (mj_np Z) := eP
  have key : ∀ b, b = md_wt g Z → mj_Cm 48 3 [.ref 0, .int (nI (mj_np Z))] (mj_cc (md_a5 (mj_np Z) (nI r0) g ch kn gr (Z 0 5) b (nI (mj_np Z) + 1) (Z 5 (nI r0).toNatClampNeg + 1) Z) Y) (mj_k 0 46 4 109 [some (.ref 0), some (.int (nI r0)), some (.int g), some (.int w), some (.int gr), some (.int (nI (mj_np Z)))] [] 0 none K) := by
    intro b hb
    have e : md_a5 (mj_np Z) (nI r0) g ch kn gr (Z 0 5) b (nI (mj_np Z) + 1) (Z 5 (nI r0).toNatClampNeg + 1) Z = md_a6 (nI r0) g ch kn gr Z := by
      unfold md_a6
      rw [hb, eP]
    rw [e]
    exact sp48 a1.1.1 (by omega) (t46_109 hK)
  refine e46 (e19 ⟨fun _ => ⟨by rw [r20]; exact vp, ?_⟩, fun c => absurd (by rw [r20]; exact nI_lt hn (by decide)) c⟩)
  rw [r20, cp, mj_cc_w rfl, mj_cc_w rfl, mj_cc_w rfl, mj_cc_ww hw, mj_cc_w rfl, mj_cc_w rfl, mj_cc_ws (Or.inr (Or.inr (Or.inr (Or.inr (Or.inl ⟨rfl, rfl⟩)))))]
  have np1 : ¬ (nI (mj_np Z) + 1) ≤ nI (mj_np Z) := by
    rw [nI_1]
    exact nI_ge (by omega) (by omega)
  refine t46_16 ⟨fun c => absurd ⟨nI_pos (by omega), np1⟩ c, fun _ => ⟨fun c => absurd (mj_q0 (Y := Y) h.1.1.s vr) c, fun _ => ⟨fun c => absurd (mj_q0 (Y := Y) h.1.1.s hg) c, fun _ => ⟨mj_r10 h.1.1.s hg, ?_⟩⟩⟩⟩
  have v10 : vp_in (nI r0) 10 := mj_r10 h.1.1.s vr
  refine ⟨fun c => ⟨vp, v10, ?_⟩, fun c => ⟨fun c2 => ⟨vp, v10, ?_⟩, fun c2 => ⟨vp, v10, ?_⟩⟩⟩
  · have c' : ¬ Z 2 g.toNatClampNeg = 2 := c
    rw [mj_nb0, cp, mj_cc_w rfl, mj_cc_w rfl]
    refine key 0 ?_
    unfold md_wt
    rw [if_neg (fun z => c' z.1)]
  · have c2' : ¬ Z 8 1 = 0 := c2
    rw [mj_nb0, cp, mj_cc_w rfl, mj_cc_w rfl]
    refine key 0 ?_
    unfold md_wt
    rw [if_neg (fun z => c2' z.2)]
  · have c' : Z 2 g.toNatClampNeg = 2 := c
    have c2' : Z 8 1 = 0 := c2
    rw [mj_nb1, cp, mj_cc_w rfl, mj_cc_w rfl]
    refine key 1 ?_
    unfold md_wt
    rw [if_pos ⟨c', c2'⟩]
-- those who alight
def md_als (r g : Int32) (k : Nat) (Z : mj_M) : mj_M := mj_lo (fun _ => md_add r g 0 0 (-1)) k Z
def md_its (Z : mj_M) (r : Nat) (w : Nat) : Nat := min w (min (120 - mj_np Z) ((Z 3 r).toInt.toNat - (mj_ct Z r 0 + mj_ct Z r 1)))
theorem md_a6_ct (h : mj_Iv Z) {g ch kn gr : Int32} {r0 : Nat} (hn : mj_np Z < 120) (hr0 : r0 < mj_nr Z) {r' : Nat} (hr' : r' < mj_nr Z) (s : Int32) : mj_ct (md_a6 (nI r0) g ch kn gr Z) r' s = mj_ct Z r' s + (if r' = r0 ∧ s = 0 then 1 else 0) := by
  have hR := mj_S_R h.s
  have S2 := h.s.2.1
  have hx : (Z 20 0).toInt < (120 : Nat) := by
    unfold mj_np at hn
    rw [mj_clN] at hn
    omega
  obtain ⟨e1, e2⟩ := md_cnt S2.1 hx (by decide)
  have hP : mj_np (md_a6 (nI r0) g ch kn gr Z) = mj_np Z + 1 := e2
  have v21 : ∀ q, md_a6 (nI r0) g ch kn gr Z 21 q = if q = mj_np Z then 0 else Z 21 q := fun q => by
    show mj_u Z 21 (mj_np Z) 0 21 q = _
    rw [mj_u_at]; simp only [true_and]
  have v22 : ∀ q, md_a6 (nI r0) g ch kn gr Z 22 q = if q = mj_np Z then nI r0 else Z 22 q := fun q => by
    show mj_u Z 22 (mj_np Z) (nI r0) 22 q = _
    rw [mj_u_at]; simp only [true_and]
  unfold mj_ct
  rw [hP]
  show mj_cb _ (mj_np Z) + _ = _
  have a1 : mj_cb (fun p => decide (md_a6 (nI r0) g ch kn gr Z 22 p = nI r' ∧ md_a6 (nI r0) g ch kn gr Z 21 p = s)) (mj_np Z) = mj_cb (fun p => decide (Z 22 p = nI r' ∧ Z 21 p = s)) (mj_np Z) := mj_cb_c _ (fun j hj => by
    rw [v21, v22, if_neg (by omega), if_neg (by omega)])
  rw [a1]
  by_cases c : r' = r0 ∧ s = 0
  · rw [if_pos c, if_pos (show decide (md_a6 (nI r0) g ch kn gr Z 22 (mj_np Z) = nI r' ∧ md_a6 (nI r0) g ch kn gr Z 21 (mj_np Z) = s) = true from decide_eq_true ⟨by rw [v22, if_pos rfl, c.1], by rw [v21, if_pos rfl]; exact c.2.symm⟩)]
  · rw [if_neg c, if_neg (show ¬ decide (md_a6 (nI r0) g ch kn gr Z 22 (mj_np Z) = nI r' ∧ md_a6 (nI r0) g ch kn gr Z 21 (mj_np Z) = s) = true from fun z => c (by
      have this := of_decide_eq_true z
      rw [v21, v22, if_pos rfl, if_pos rfl] at this
      exact ⟨((nI_eq (by omega) (by omega)).mp this.1).symm, this.2.symm⟩))]
theorem md_als_k (h : mj_Ia Z) {r0 w : Nat} {g : Int32} (hr0 : r0 < mj_nr Z) (h2 : Z 2 r0 = 2) (hg : vp_in g (mj_nr Z)) (hg0 : Z 2 g.toNatClampNeg = 0) : ∀ k, k ≤ md_its Z r0 w → mj_Ia (md_als (nI r0) g k Z) ∧ mj_np (md_als (nI r0) g k Z) = mj_np Z + k ∧ mj_ct (md_als (nI r0) g k Z) r0 0 = mj_ct Z r0 0 + k ∧ mj_ct (md_als (nI r0) g k Z) r0 1 = mj_ct Z r0 1 ∧ (∀ c, (c = 0 ∨ c = 1 ∨ c = 2 ∨ c = 3 ∨ c = 8 ∨ (28 ≤ c ∧ c ≤ 34)) → md_als (nI r0) g k Z c = Z c)
  | 0, _ => ⟨h, rfl, rfl, rfl, fun _ _ => rfl⟩
  | k + 1, hk => by
    obtain ⟨i1, i2, i3, i4, i5⟩ := md_als_k (w := w) h hr0 h2 hg hg0 k (by omega)
    have hR := mj_S_R h.1.1.s
    show mj_Ia (md_add (nI r0) g 0 0 (-1) (md_als (nI r0) g k Z)) ∧ mj_np (md_add (nI r0) g 0 0 (-1) (md_als (nI r0) g k Z)) = _ ∧ mj_ct (md_add (nI r0) g 0 0 (-1) (md_als (nI r0) g k Z)) r0 0 = _ ∧ mj_ct (md_add (nI r0) g 0 0 (-1) (md_als (nI r0) g k Z)) r0 1 = _ ∧ ∀ c, _ → md_add (nI r0) g 0 0 (-1) (md_als (nI r0) g k Z) c = _
    generalize md_als (nI r0) g k Z = A at i1 i2 i3 i4 i5 ⊢
    have hnr : mj_nr A = mj_nr Z := by unfold mj_nr; rw [i5 1 (by omega)]
    unfold md_its at hk
    have hn : mj_np A < 120 := by omega
    have hr : r0 < mj_nr A := by omega
    have hcap : ((mj_ct A r0 0 + mj_ct A r0 1 + 1 : Nat) : Int) ≤ (A 3 r0).toInt := by
      rw [i3, i4, i5 3 (by omega)]
      omega
    obtain ⟨a1, a2⟩ := md_a6_I (g := g) (ch := 0) (kn := 0) (gr := -1) i1 hn rfl hr (by rw [hnr]; exact hg) (Or.inl rfl) (Or.inl rfl) (Or.inr hcap)
    have noo : md_add (nI r0) g 0 0 (-1) A = md_a6 (nI r0) g 0 0 (-1) A := by
      unfold md_add mj_oA
      refine if_neg (fun z => ?_)
      have z3 := z.2.2
      have e22 : md_a6 (nI r0) g 0 0 (-1) A 22 (mj_np A) = nI r0 := by
        show mj_u A 22 (mj_np A) (nI r0) 22 (mj_np A) = _
        rw [mj_u_at, if_pos ⟨rfl, rfl⟩]
      rw [e22, nI_clamp (by omega), md_a6_at _ _ _ _ _ _ 2 (by decide) (by decide) (by decide) (by decide) (by decide) (by decide) (by decide) (by decide) (by decide) (by decide), i5 2 (by omega), h2] at z3
      exact absurd z3 (by decide)
    rw [noo]
    refine ⟨a1, by omega, ?_, ?_, fun c hc => ?_⟩
    · rw [md_a6_ct i1.1.1 hn hr hr, if_pos ⟨rfl, rfl⟩]; omega
    · rw [md_a6_ct i1.1.1 hn hr hr, if_neg (fun z => absurd z.2 (by decide))]; omega
    · rw [md_a6_at _ _ _ _ _ _ c (by omega) (by omega) (by omega) (by omega) (by omega) (by omega) (by omega) (by omega) (by omega) (by omega)]
      exact i5 c hc
theorem md_f4 (h : mj_Iv Z) {r m : Nat} (hr : r < mj_nr Z) (h2 : ¬ Z 2 r = 0) (hm : m < 2 ^ 20) : f4 (mj_cc Z Y) (nI r) (nI m) = nI (min m ((Z 3 r).toInt.toNat - (mj_ct Z r 0 + mj_ct Z r 1))) := by
  have hR := mj_S_R h.s
  obtain ⟨b1, b2, b3⟩ := h.b r hr
  have b3' := b3 h2
  obtain ⟨l1, l2⟩ := h.s.2.2.2.2.1 r hr
  have c1 : mj_ct Z r 0 ≤ 120 := Nat.le_trans (mj_cb_le _ _) (mj_S_P h.s).1
  have c2 : mj_ct Z r 1 ≤ 120 := Nat.le_trans (mj_cb_le _ _) (mj_S_P h.s).1
  have e : Z 3 r + Z 6 r - Z 5 r - Z 4 r = nI ((Z 3 r).toInt.toNat - (mj_ct Z r 0 + mj_ct Z r 1)) := by
    have e0 : Z 3 r + Z 6 r - Z 5 r - Z 4 r = Z 3 r - nI (mj_ct Z r 0) - nI (mj_ct Z r 1) := by
      rw [← b1, ← b2]; grind
    have n0 := nI_toInt (show mj_ct Z r 0 < 2 ^ 31 by omega)
    have n1 := nI_toInt (show mj_ct Z r 1 < 2 ^ 31 by omega)
    have e1 : (Z 3 r - nI (mj_ct Z r 0)).toInt = (Z 3 r).toInt - mj_ct Z r 0 := by
      rw [fb_subI (by omega) (by omega), n0]
    rw [e0, mj_eq, fb_subI (by omega) (by omega), e1, n1, nI_toInt (by omega)]
    omega
  have hq := mj_q0 (Y := Y) h.s (vp_in_nI hr (by omega))
  have r2 : mj_cc Z Y 2 = Z 2 := rfl
  have r3 : mj_cc Z Y 3 = Z 3 := rfl
  have r4 : mj_cc Z Y 4 = Z 4 := rfl
  have r5 : mj_cc Z Y 5 = Z 5 := rfl
  have r6 : mj_cc Z Y 6 = Z 6 := rfl
  unfold f4
  rw [if_pos hq, nI_clamp (show r < 2 ^ 31 by omega), r2, r3, r4, r5, r6, e, if_neg h2]
  generalize hL : (Z 3 r).toInt.toNat - (mj_ct Z r 0 + mj_ct Z r 1) = L
  have hL1 : L ≤ 60 := by omega
  by_cases c : L < m
  · rw [if_pos (nI_lt c (by omega)), show min m L = L by omega]
    by_cases c0 : 0 < L
    · exact if_pos (nI_lt (a := 0) c0 (by omega))
    · rw [show L = 0 by omega]
      exact if_neg (by decide)
  · rw [if_neg (nI_nlt (by omega) (by omega)), show min m L = m by omega]
    by_cases c0 : 0 < m
    · exact if_pos (nI_lt (a := 0) c0 (by omega))
    · rw [show m = 0 by omega]
      exact if_neg (by decide)
theorem sp47 (h : mj_Ia Z) {r0 w : Nat} {g : Int32} (hr0 : r0 < mj_nr Z) (h2 : Z 2 r0 = 2) (hg : vp_in g (mj_nr Z)) (hg0 : Z 2 g.toNatClampNeg = 0) (hw : w ≤ 20) (hK : K 0 (nI (md_its Z r0 w)) (mj_cc (md_als (nI r0) g (md_its Z r0 w) Z) Y)) : mj_Cm 47 5 [.ref 0, .int (nI r0), .int g, .int (nI w)] (mj_cc Z Y) K := by
  obtain ⟨hP, eP⟩ := mj_S_P h.1.1.s
  have r20 : mj_cc Z Y 20 0 = nI (mj_np Z) := eP
  have e120 : (120 : Int32) - nI (mj_np Z) = nI (120 - mj_np Z) := by
    rw [show (120 : Int32) = nI ((120 - mj_np Z) + mj_np Z) by rw [show 120 - mj_np Z + mj_np Z = 120 by omega]; rfl, ← nI_add]
    grind
  have most : (if (120 : Int32) - nI (mj_np Z) < nI w then (120 : Int32) - nI (mj_np Z) else nI w) = nI (min w (120 - mj_np Z)) := by
    rw [e120]
    by_cases c : 120 - mj_np Z < w
    · rw [if_pos (nI_lt c (by omega)), show min w (120 - mj_np Z) = 120 - mj_np Z by omega]
    · rw [if_neg (nI_nlt (by omega) (by omega)), show min w (120 - mj_np Z) = w by omega]
  refine e47 ⟨mj_b10 h.1.1.s, ?_⟩
  rw [r20, most, md_f4 h.1.1 hr0 (by rw [h2]; decide) (by omega)]
  have eI : min (min w (120 - mj_np Z)) ((Z 3 r0).toInt.toNat - (mj_ct Z r0 0 + mj_ct Z r0 1)) = md_its Z r0 w := by
    unfold md_its; omega
  rw [eI]
  have hle : md_its Z r0 w ≤ 20 := by unfold md_its; omega
  refine mj_down (P := fun k => mj_W 0 47 5 31 [some (.ref 0), some (.int (nI r0)), some (.int g), some (.int (nI w)), some (.int (nI (min w (120 - mj_np Z)))), some (.int (nI (md_its Z r0 w))), some (.int (nI k))] [] (mj_cc (md_als (nI r0) g k Z) Y) 0 K) (md_its Z r0 w) ?_ ?_
  · exact t47_31 ⟨fun _ => hK, fun c => absurd (nI_le (Nat.le_refl _) (by omega)) c⟩
  · intro k hk ih
    obtain ⟨i1, i2, i3, i4, i5⟩ := md_als_k (w := w) h hr0 h2 hg hg0 k (by omega)
    have ih' : mj_W 0 47 5 31 [some (.ref 0), some (.int (nI r0)), some (.int g), some (.int (nI w)), some (.int (nI (min w (120 - mj_np Z)))), some (.int (nI (md_its Z r0 w))), some (.int (nI (k + 1)))] [] (mj_cc (md_add (nI r0) g 0 0 (-1) (md_als (nI r0) g k Z)) Y) 0 K := ih
    have hk' := hk
    unfold md_its at hk'
    generalize md_als (nI r0) g k Z = A at i1 i2 i3 i4 i5 ih' ⊢
    have hnr : mj_nr A = mj_nr Z := by unfold mj_nr; rw [i5 1 (by omega)]
    rw [← nI_1] at ih'
    refine t47_31 ⟨fun c => absurd c (nI_ge hk (by omega)), fun _ => ?_⟩
    refine sp46 (ch := 0) (kn := 0) i1 (by omega) (by omega) (by rw [hnr]; exact hg) (Or.inl rfl) (Or.inl rfl) (by decide) (Or.inr ?_) (t47_46 ih')
    rw [i3, i4, i5 3 (by omega)]
    omega
-- the order to clear
noncomputable def md_ne (Z : mj_M) (p : Nat) : Nat → Int32 × Nat
  | 0 => (-1, 1000000)
  | j + 1 => if Z 2 j = 0 ∧ mj_di Z (Z 24 p) (Z 40 p) (Z 22 p).toNatClampNeg j < (md_ne Z p j).2 then (nI j, mj_di Z (Z 24 p) (Z 40 p) (Z 22 p).toNatClampNeg j) else md_ne Z p j
noncomputable def md_g (Z : mj_M) (p : Nat) : Int32 := (md_ne Z p (mj_nr Z)).1
noncomputable def md_tk (p : Nat) (Z : mj_M) : mj_M := if md_g Z p = -1 then Z else mj_u Z 23 p (md_g Z p)
def md_chg (Z : mj_M) (p : Nat) : Prop := ¬ md_g Z p = -1 ∧ ¬ md_g Z p = Z 23 p
noncomputable def md_cg (Z : mj_M) (p : Nat) : Int32 := if md_g Z p = -1 then 0 else if md_g Z p = Z 23 p then 0 else 1
noncomputable def md_od (p : Nat) (Z : mj_M) : mj_M := mj_oA p (if Z 21 p = 0 ∨ Z 21 p = 1 then md_tk p (mj_u Z 27 p 0) else mj_u Z 27 p 0)
noncomputable def md_on (Z : mj_M) : Nat → mj_M
  | 0 => mj_u Z 8 1 1
  | k + 1 => md_od k (md_on Z k)
noncomputable def md_oc (Z : mj_M) : Nat → Int32
  | 0 => 0
  | k + 1 => if md_on Z k 21 k = 0 ∨ md_on Z k 21 k = 1 then md_oc Z k + md_cg (md_on Z k) k else md_oc Z k
theorem md_ne_ok (h : mj_In Z) (p : Nat) : ∀ j, j ≤ 10 → ((md_ne Z p j).1 = -1 ∧ (md_ne Z p j).2 = 1000000) ∨ (∃ i, i < j ∧ (md_ne Z p j).1 = nI i ∧ (md_ne Z p j).2 ≤ 50)
  | 0, _ => Or.inl ⟨rfl, rfl⟩
  | j + 1, hj => by
    have ih := md_ne_ok h p j (by omega)
    have cs := mj_D_cases (c := Z 24 p) (k := Z 40 p) h (Z 22 p).toNatClampNeg j
    have e : md_ne Z p (j + 1) = if Z 2 j = 0 ∧ mj_di Z (Z 24 p) (Z 40 p) (Z 22 p).toNatClampNeg j < (md_ne Z p j).2 then (nI j, mj_di Z (Z 24 p) (Z 40 p) (Z 22 p).toNatClampNeg j) else md_ne Z p j := rfl
    rw [e]
    by_cases c : Z 2 j = 0 ∧ mj_di Z (Z 24 p) (Z 40 p) (Z 22 p).toNatClampNeg j < (md_ne Z p j).2
    · rw [if_pos c]
      refine Or.inr ⟨j, by omega, rfl, ?_⟩
      have c2 := c.2
      show mj_di Z (Z 24 p) (Z 40 p) (Z 22 p).toNatClampNeg j ≤ 50
      rcases ih with ⟨-, z⟩ | ⟨i, -, -, z⟩ <;> omega
    · rw [if_neg c]
      rcases ih with z | ⟨i, z1, z2⟩
      · exact Or.inl z
      · exact Or.inr ⟨i, by omega, z2⟩
theorem md_ne_27 (x : Int32) (q p : Nat) : ∀ j, md_ne (mj_u Z 27 q x) p j = md_ne Z p j
  | 0 => rfl
  | j + 1 => by
    have ih := md_ne_27 x q p j
    show (if Z 2 j = 0 ∧ mj_di Z (Z 24 p) (Z 40 p) (Z 22 p).toNatClampNeg j < (md_ne (mj_u Z 27 q x) p j).2 then (nI j, mj_di Z (Z 24 p) (Z 40 p) (Z 22 p).toNatClampNeg j) else md_ne (mj_u Z 27 q x) p j) = _
    rw [ih]
    rfl
theorem md_g_27 (x : Int32) (q p : Nat) : md_g (mj_u Z 27 q x) p = md_g Z p := by
  show (md_ne (mj_u Z 27 q x) p (mj_nr Z)).1 = (md_ne Z p (mj_nr Z)).1
  rw [md_ne_27]
theorem md_g_in (h : mj_In Z) (p : Nat) : md_g Z p = -1 ∨ vp_in (md_g Z p) (mj_nr Z) := by
  have hR := mj_nrle h
  rcases md_ne_ok h p (mj_nr Z) hR with z | ⟨i, z1, z2, -⟩
  · exact Or.inl z.1
  · refine Or.inr ?_
    unfold md_g
    rw [z2]
    exact vp_in_nI z1 (by omega)
theorem md_tk_I (h : mj_Ia Z) (hp : p < mj_np Z) : mj_Ia (md_tk p Z) ∧ mj_np (md_tk p Z) = mj_np Z := by
  unfold md_tk
  split
  · exact ⟨h, rfl⟩
  · rename_i c
    rcases md_g_in h.1.1.s.1 p with z | z
    · exact absurd z c
    · exact ⟨md_goal_I h hp z, rfl⟩
theorem md_od_I (h : mj_Ia Z) (hp : p < mj_np Z) : mj_Ia (md_od p Z) ∧ mj_np (md_od p Z) = mj_np Z ∧ mj_pr mj_s2 (md_od p Z) = mj_pr mj_s2 Z ∧ md_od p Z 0 = Z 0 := by
  have hw : mj_Ia (mj_u Z 27 p 0) := md_want_I h hp (Or.inl rfl)
  have key : ∀ A, mj_Ia A → mj_np A = mj_np Z → mj_pr mj_s2 A = mj_pr mj_s2 Z → A 0 = Z 0 → mj_Ia (mj_oA p A) ∧ mj_np (mj_oA p A) = mj_np Z ∧ mj_pr mj_s2 (mj_oA p A) = mj_pr mj_s2 Z ∧ mj_oA p A 0 = Z 0 := by
    intro A a1 a2 a3 a4
    refine ⟨md_oA_I a1 (by omega), ?_, (mj_s12 (mj_oA_pr p A)).trans a3, ?_⟩
    · rw [(mj_n_pr (mj_oA_pr p A)).1, a2]
    · rw [mj_oA_c _ _ (show 0 ≠ 21 by decide) (by decide), a4]
  unfold md_od
  split
  · obtain ⟨t1, t2⟩ := md_tk_I hw hp
    refine key _ t1 t2 ?_ ?_
    · unfold md_tk
      split
      · rw [mj_pr_u rfl]
      · rw [mj_pr_u rfl, mj_pr_u rfl]
    · unfold md_tk
      split <;> rfl
  · exact key _ hw rfl (mj_pr_u rfl) rfl
theorem md_on_I (h : mj_Ia Z) : ∀ k, k ≤ mj_np Z → mj_Ia (md_on Z k) ∧ mj_np (md_on Z k) = mj_np Z ∧ mj_pr mj_s2 (md_on Z k) = mj_pr mj_s2 (mj_u Z 8 1 1) ∧ md_on Z k 0 = Z 0
  | 0, _ => ⟨md_clr_I h (Or.inr rfl), rfl, rfl, rfl⟩
  | k + 1, hk => by
    obtain ⟨i1, i2, i3, i4⟩ := md_on_I h k (by omega)
    obtain ⟨j1, j2, j3, j4⟩ := md_od_I i1 (p := k) (by omega)
    exact ⟨j1, j2.trans i2, j3.trans i3, j4.trans i4⟩
noncomputable def md_ord (Z : mj_M) : mj_M := md_on Z (mj_np Z)
theorem sp50 (h : mj_Ia Z) (hw : mj_wt Z (Y 36) (Y 37)) (hp : p < mj_np Z) (hK : K 0 (md_cg Z p) (mj_cc (md_tk p Z) Y)) : mj_Cm 50 3 [.ref 0, .int (nI p)] (mj_cc Z Y) K := by
  have hR := mj_S_R h.1.1.s
  have hd := mj_qc h.1.1.s hp
  have hv := mj_qv h.1.1.s hp
  obtain ⟨a1, a2⟩ := mj_vin (h.1.1.a p hp).2.1
  obtain ⟨w, w1, w2, w3⟩ := mj_wtv h.1.1.s.1 hw (h.1.1.s.2.2.2.1 p hp).2.1 (h.1.1.a p hp).2.2.1
  refine e50 ⟨hv, ?_⟩
  rw [hd]
  show mj_W 0 50 3 29 [some (.ref 0), some (.int (nI p)), some (.int (Z 24 p + 2 * Z 40 p)), some (.int (Z 22 p)), some (.int (-1)), some (.int (-1)), some (.int 0), none] [] (mj_cc Z Y) 0 K
  rw [w2]
  refine mj_down (P := fun j => ∀ o7, mj_W 0 50 3 29 [some (.ref 0), some (.int (nI p)), some (.int (nI w)), some (.int (Z 22 p)), some (.int (md_ne Z p j).1), some (.int (if (md_ne Z p j).2 = 1000000 then -1 else nI (md_ne Z p j).2)), some (.int (nI j)), o7] [] (mj_cc Z Y) 0 K) (mj_nr Z) ?_ ?_ none
  · intro o7
    unfold md_cg md_tk at hK
    refine t50_29 ⟨fun _ => ⟨fun c => ?_, fun c => ⟨hv, ?_⟩⟩, fun c => absurd (mj_rre h.1.1.s rfl) c⟩
    · have c' : md_g Z p = -1 := c
      rw [if_pos c', if_pos c'] at hK
      exact hK
    · have c' : ¬ md_g Z p = -1 := c
      rw [if_neg c', if_neg c'] at hK
      rw [hd]
      refine ⟨fun c2 => ?_, fun c2 => ?_⟩
      · have c2' : ¬ md_g Z p = Z 23 p := c2
        rw [if_neg c2'] at hK
        rw [mj_cc_w rfl]
        exact hK
      · have c2' : md_g Z p = Z 23 p := c2
        rw [if_pos c2', c2', mj_u_id rfl] at hK
        exact hK
  · intro j hj ih o7
    have e : md_ne Z p (j + 1) = if Z 2 j = 0 ∧ mj_di Z (Z 24 p) (Z 40 p) (Z 22 p).toNatClampNeg j < (md_ne Z p j).2 then (nI j, mj_di Z (Z 24 p) (Z 40 p) (Z 22 p).toNatClampNeg j) else md_ne Z p j := rfl
    have vj : vp_in (nI j) (mj_nr Z) := vp_in_nI hj (by omega)
    have cj : (nI j).toNatClampNeg = j := nI_clamp (by omega)
    have cs := mj_D_cases (c := Z 24 p) (k := Z 40 p) h.1.1.s.1 (Z 22 p).toNatClampNeg j
    have ok := md_ne_ok h.1.1.s.1 p j (by omega)
    rw [← nI_1] at ih
    have skip : ¬ (Z 2 j = 0 ∧ mj_di Z (Z 24 p) (Z 40 p) (Z 22 p).toNatClampNeg j < (md_ne Z p j).2) → ∀ o7, mj_W 0 50 3 29 [some (.ref 0), some (.int (nI p)), some (.int (nI w)), some (.int (Z 22 p)), some (.int (md_ne Z p j).1), some (.int (if (md_ne Z p j).2 = 1000000 then -1 else nI (md_ne Z p j).2)), some (.int (nI j + 1)), o7] [] (mj_cc Z Y) 0 K := by
      intro c
      rw [e, if_neg c] at ih
      exact ih
    have take : Z 2 j = 0 → mj_di Z (Z 24 p) (Z 40 p) (Z 22 p).toNatClampNeg j < 1000 → mj_di Z (Z 24 p) (Z 40 p) (Z 22 p).toNatClampNeg j < (md_ne Z p j).2 → ∀ o7, mj_W 0 50 3 29 [some (.ref 0), some (.int (nI p)), some (.int (nI w)), some (.int (Z 22 p)), some (.int (nI j)), some (.int (nI (mj_di Z (Z 24 p) (Z 40 p) (Z 22 p).toNatClampNeg j))), some (.int (nI j + 1)), o7] [] (mj_cc Z Y) 0 K := by
      intro c c2 c3
      rw [e, if_pos ⟨c, c3⟩] at ih
      have ih' := ih
      rw [show ((nI j, mj_di Z (Z 24 p) (Z 40 p) (Z 22 p).toNatClampNeg j) : Int32 × Nat).2 = mj_di Z (Z 24 p) (Z 40 p) (Z 22 p).toNatClampNeg j from rfl, if_neg (by omega)] at ih'
      exact ih'
    refine t50_29 ⟨fun c => (mj_rrs h.1.1.s hj c).elim, fun _ => ⟨mj_b10 h.1.1.s, fun c => skip (fun z => c ?_) _, fun c => ?_⟩⟩
    · refine ⟨mj_q0 h.1.1.s vj, ?_⟩
      rw [cj]
      exact z.1
    · have c2 : Z 2 j = 0 := by
        have := c.2
        rw [cj] at this
        exact this
      rw [a1]
      refine sp32 w1 (by omega) (by omega) ?_
      rw [show mj_cc Z Y 36 = Y 36 from rfl, (w3 _ _ a2 hj).1]
      unfold mj_dv
      by_cases z : mj_di Z (Z 24 p) (Z 40 p) (Z 22 p).toNatClampNeg j < 1000
      · rw [if_pos z]
        have d50 : mj_di Z (Z 24 p) (Z 40 p) (Z 22 p).toNatClampNeg j ≤ 50 := cs.elim id (fun q => absurd z (by rw [q]; decide))
        rw [← a1]
        refine t50_64 ⟨fun c3 => absurd c3 (mj_nI_m1 (by omega)), fun _ => ⟨fun c3 => take c2 z ?_ _, fun c3 => ⟨fun c4 => skip (fun y => ?_) _, fun c4 => take c2 z ?_ _⟩⟩⟩
        · rcases ok with y | ⟨i, y1, y2, y3⟩
          · omega
          · rw [if_neg (by omega)] at c3
            exact absurd c3 (mj_nI_m1 (by omega))
        · rcases ok with q | ⟨i, y1, y2, y3⟩
          · rw [if_pos q.2] at c3
            exact c3 rfl
          · rw [if_neg (by omega)] at c4
            have := (nI_leI (by omega) (by omega)).mp c4
            omega
        · rcases ok with q | ⟨i, y1, y2, y3⟩
          · omega
          · rw [if_neg (by omega)] at c4
            rcases Nat.lt_or_ge (mj_di Z (Z 24 p) (Z 40 p) (Z 22 p).toNatClampNeg j) (md_ne Z p j).2 with y | y
            · exact y
            · exact absurd (nI_le y (by omega)) c4
      · rw [if_neg z]
        rw [← a1]
        refine t50_64 ⟨fun _ => skip (fun y => ?_) _, fun c3 => absurd rfl c3⟩
        rcases ok with q | ⟨i, y1, y2, y3⟩ <;> omega
theorem sp49 (h : mj_Ia Z) (hK : ∀ Y', (∀ c, c ≠ 36 → c ≠ 37 → Y' c = Y c) → mj_wt (md_ord Z) (Y' 36) (Y' 37) → K 0 (md_oc Z (mj_np Z)) (mj_cc (md_ord Z) Y')) : mj_Cm 49 6 [.ref 0] (mj_cc Z Y) K := by
  refine e49 ?_
  rw [mj_cc_ws (Or.inr (Or.inr (Or.inr (Or.inl ⟨rfl, rfl⟩))))]
  have h1 : mj_In (mj_u Z 8 1 1) := (md_clr_I h (Or.inr rfl)).1.1.s.1
  refine sp42 h1 (fun Y' y1 y2 => t49_12 ?_)
  refine mj_down (P := fun k => mj_W 0 49 6 16 [some (.ref 0), some (.int (md_oc Z k)), some (.int (nI k))] [] (mj_cc (md_on Z k) Y') 0 K) (mj_np Z) ?_ ?_
  · obtain ⟨i1, i2, i3, i4⟩ := md_on_I h (mj_np Z) (Nat.le_refl _)
    exact t49_16 ⟨fun _ => hK Y' y1 (mj_wt_pr i3 y2), fun c => absurd (mj_pe i1.1.1.s i2.symm) c⟩
  · intro k hk ih
    obtain ⟨i1, i2, i3, i4⟩ := md_on_I h k (by omega)
    have ih' : mj_W 0 49 6 16 [some (.ref 0), some (.int (if md_on Z k 21 k = 0 ∨ md_on Z k 21 k = 1 then md_oc Z k + md_cg (md_on Z k) k else md_oc Z k)), some (.int (nI (k + 1)))] [] (mj_cc (md_od k (md_on Z k)) Y') 0 K := ih
    generalize md_on Z k = A at i1 i2 i3 i4 ih' ⊢
    have hkA : k < mj_np A := by omega
    have hw : mj_Ia (mj_u A 27 k 0) := md_want_I i1 hkA (Or.inl rfl)
    have hkW : k < mj_np (mj_u A 27 k 0) := hkA
    have hwt : mj_wt (mj_u A 27 k 0) (Y' 36) (Y' 37) := mj_wt_pr ((mj_pr_u rfl).trans i3) y2
    have hd := mj_qc i1.1.1.s hkA
    have hv := mj_qv i1.1.1.s hkA
    rw [← nI_1] at ih'
    unfold md_od at ih'
    refine t49_16 ⟨fun c => (mj_ps i1.1.1.s hkA c).elim, fun _ => ⟨hv, ?_⟩⟩
    rw [hd, mj_nb0, mj_cc_w rfl]
    refine ⟨mj_b20 hw.1.1.s, fun c => ?_, fun c => ?_⟩
    · rw [mj_q21 hw.1.1.s hkW] at c
      have c' : ¬ (A 21 k = 0 ∨ A 21 k = 1) := c
      rw [if_neg c', if_neg c'] at ih'
      exact sp48 hw.1.1 hkW (t49_64 ih')
    · rw [mj_q21 hw.1.1.s hkW] at c
      have c' : A 21 k = 0 ∨ A 21 k = 1 := c
      rw [if_pos c', if_pos c'] at ih'
      obtain ⟨t1, t2⟩ := md_tk_I hw hkW
      have ec : md_cg (mj_u A 27 k 0) k = md_cg A k := by
        unfold md_cg
        rw [md_g_27]
        rfl
      refine sp50 hw hwt hkW ?_
      rw [ec]
      have z0 : md_oc Z k + 0 = md_oc Z k := by grind
      unfold md_cg at ih' ⊢
      by_cases q1 : md_g A k = -1
      · rw [if_pos q1] at ih' ⊢
        rw [z0] at ih'
        exact t49_53 ⟨fun _ => sp48 t1.1.1 (by omega) (t49_64 ih'), fun c => absurd rfl c⟩
      · rw [if_neg q1] at ih' ⊢
        by_cases q2 : md_g A k = A 23 k
        · rw [if_pos q2] at ih' ⊢
          rw [z0] at ih'
          exact t49_53 ⟨fun _ => sp48 t1.1.1 (by omega) (t49_64 ih'), fun c => absurd rfl c⟩
        · rw [if_neg q2] at ih' ⊢
          exact t49_53 ⟨fun c => absurd c (by decide), fun _ => sp48 t1.1.1 (by omega) (t49_64 ih')⟩
-- what is asked
theorem sp45 (h : mj_Iv Z) (hw : mj_wt Z (Y 36) (Y 37)) (hl : l < mj_nl Z) (hK : K 0 (nI (mj_cb (fun p => decide (mj_nl1 Z p = nI l)) (mj_np Z))) (mj_cc Z Y)) : mj_Cm 45 4 [.ref 0, .int (nI l)] (mj_cc Z Y) K := by
  have hL := mj_S_L h.s
  refine e45 ?_
  refine mj_down (P := fun k => mj_W 0 45 4 4 [some (.ref 0), some (.int (nI l)), some (.int (nI (mj_cb (fun p => decide (mj_nl1 Z p = nI l)) k))), some (.int (nI k))] [] (mj_cc Z Y) 0 K) (mj_np Z) ?_ ?_
  · exact t45_4 ⟨fun _ => hK, fun c => absurd (mj_pe h.s rfl) c⟩
  · intro k hk ih
    have e : mj_cb (fun p => decide (mj_nl1 Z p = nI l)) (k + 1) = mj_cb (fun p => decide (mj_nl1 Z p = nI l)) k + (if decide (mj_nl1 Z k = nI l) = true then 1 else 0) := rfl
    rw [e, ← nI_1 k] at ih
    have no : ¬ mj_nl1 Z k = nI l → mj_W 0 45 4 4 [some (.ref 0), some (.int (nI l)), some (.int (nI (mj_cb (fun p => decide (mj_nl1 Z p = nI l)) k))), some (.int (nI k + 1))] [] (mj_cc Z Y) 0 K := by
      intro c
      rw [if_neg (fun z => c (of_decide_eq_true z)), Nat.add_zero] at ih
      exact ih
    refine t45_4 ⟨fun c => (mj_ps h.s hk c).elim, fun _ => ⟨mj_b20 h.s, fun c => no (fun z => ?_), fun c => ?_⟩⟩
    · rw [mj_q20 h.s hk] at c
      unfold mj_nl1 at z
      rw [if_neg c] at z
      exact mj_nI_m1 (by omega) z.symm
    · refine sp44 h hw hk (t45_31 ⟨no, fun c2 => ?_⟩)
      rw [if_pos (decide_eq_true c2), ← nI_1] at ih
      exact ih
theorem sp9 (h : mj_Ia Z) (hK : K 0 (nI (mj_cb (fun l => decide (¬ Z 16 l = 0)) (mj_nl Z))) (mj_cc (md_ann Z) Y)) : mj_Cm 9 1 [.ref 8] (mj_cc Z Y) K := by
  refine e9 ?_
  refine mj_down (P := fun k => mj_W 0 9 1 4 [some (.ref 8), some (.int (nI (mj_cb (fun l => decide (¬ Z 16 l = 0)) k))), some (.int (nI k))] [] (mj_cc (mj_lo md_an1 k Z) Y) 0 K) (mj_nl Z) ?_ ?_
  · obtain ⟨i1, i2, i3⟩ := md_ann_k h (mj_nl Z) (Nat.le_refl _)
    exact t9_4 ⟨fun _ => hK, fun c => absurd (mj_lle i1.1.1.s i2.symm) c⟩
  · intro k hk ih
    obtain ⟨i1, i2, i3⟩ := md_ann_k h k (by omega)
    have ih' : mj_W 0 9 1 4 [some (.ref 8), some (.int (nI (mj_cb (fun l => decide (¬ Z 16 l = 0)) (k + 1)))), some (.int (nI (k + 1)))] [] (mj_cc (mj_u (mj_lo md_an1 k Z) 17 k (mj_lo md_an1 k Z 16 k)) Y) 0 K := ih
    have e : mj_cb (fun l => decide (¬ Z 16 l = 0)) (k + 1) = mj_cb (fun l => decide (¬ Z 16 l = 0)) k + (if decide (¬ Z 16 k = 0) = true then 1 else 0) := rfl
    generalize mj_lo md_an1 k Z = A at i1 i2 i3 ih' ⊢
    have hkA : k < mj_nl A := by omega
    have hc := mj_qlc i1.1.1.s hkA
    have b16 := (i1.1.1.s.2.2.2.2.2.1 k hkA).1
    have nb : mj_nb (mj_cc A Y 16 k) = A 16 k := by
      show mj_nb (A 16 k) = A 16 k
      rcases b16 with z | z <;> rw [z]
      · exact mj_nb0
      · exact mj_nb1
    rw [e, ← nI_1 k] at ih'
    refine t9_4 ⟨fun c => (mj_lls i1.1.1.s hkA c).elim, fun _ => ⟨mj_ql i1.1.1.s hkA, ?_⟩⟩
    rw [hc, nb, mj_cc_w rfl]
    have z0 : ∀ x : Int32, x + 0 = x := fun x => by grind
    refine ⟨fun c => ?_, fun c => ?_⟩
    · have c' : A 16 k = 0 := c
      rw [i3] at c'
      rw [if_neg (fun z => (of_decide_eq_true z : ¬ Z 16 k = 0) c'), Nat.add_zero] at ih'
      rw [z0]
      exact ih'
    · have c' : ¬ A 16 k = 0 := c
      rw [i3] at c'
      rw [if_pos (decide_eq_true c'), ← nI_1] at ih'
      exact ih'
def md_at (Z : mj_M) (r : Int32) (k : Nat) : Prop := ∃ t, t < k ∧ 0 < Z 31 t ∧ Z 29 t = r
theorem md_31 {x : Int32} : 0 < x ↔ ¬ x ≤ 0 := by
  rw [mj_lt, mj_le]; omega
theorem sp30 (h : mj_Iv Z) {r : Int32} (h1 : md_at Z r (mj_nt Z) → K 0 1 (mj_cc Z Y)) (h0 : ¬ md_at Z r (mj_nt Z) → K 0 0 (mj_cc Z Y)) : mj_Cm 30 3 [.ref 28, .int r] (mj_cc Z Y) K := by
  refine e30 ?_
  refine mj_down (P := fun k => ¬ md_at Z r k → mj_W 0 30 3 2 [some (.ref 28), some (.int r), some (.int (nI k))] [] (mj_cc Z Y) 0 K) (mj_nt Z) ?_ ?_ (fun ⟨t, ht, _⟩ => absurd ht (Nat.not_lt_zero t))
  · intro hn
    exact t30_2 ⟨fun _ => h0 hn, fun c => absurd (mj_te h.s rfl) c⟩
  · intro k hk ih hn
    have ct := mj_qtc h.s hk
    have step : ¬ (0 < Z 31 k ∧ Z 29 k = r) → mj_W 0 30 3 2 [some (.ref 28), some (.int r), some (.int (nI k + 1))] [] (mj_cc Z Y) 0 K := by
      intro c
      rw [nI_1]
      refine ih (fun ⟨t, ht, z⟩ => ?_)
      by_cases e : t = k
      · subst e; exact c z
      · exact hn ⟨t, by omega, z⟩
    refine t30_2 ⟨fun c => (mj_ts h.s hk c).elim, fun _ => ⟨mj_b28 h.s, fun c => step (fun z => c ⟨mj_q27 h.s hk, ?_⟩), fun c => ⟨mj_qt h.s hk, ?_⟩⟩⟩
    · rw [ct]
      exact md_31.mp z.1
    · have c2 := c.2
      rw [ct] at c2 ⊢
      exact ⟨fun c3 => step (fun z => c3 z.2), fun c3 => h1 ⟨k, hk, md_31.mpr c2, c3⟩⟩
def md_ins (Z : mj_M) (k : Nat) : Prop := ∃ p, p < k ∧ (Z 21 p = 0 ∨ Z 21 p = 1)
theorem sp23 (h : mj_Iv Z) (h1 : md_ins Z (mj_np Z) → K 0 1 (mj_cc Z Y)) (h0 : ¬ md_ins Z (mj_np Z) → K 0 0 (mj_cc Z Y)) : mj_Cm 23 3 [.ref 20] (mj_cc Z Y) K := by
  refine e23 ?_
  refine mj_down (P := fun k => ¬ md_ins Z k → mj_W 0 23 3 2 [some (.ref 20), some (.int (nI k))] [] (mj_cc Z Y) 0 K) (mj_np Z) ?_ ?_ (fun ⟨t, ht, _⟩ => absurd ht (Nat.not_lt_zero t))
  · intro hn
    exact t23_2 ⟨fun _ => h0 hn, fun c => absurd (mj_pe h.s rfl) c⟩
  · intro k hk ih hn
    refine t23_2 ⟨fun c => (mj_ps h.s hk c).elim, fun _ => ⟨mj_b20 h.s, fun c => ?_, fun c => h1 ?_⟩⟩
    · rw [mj_q21 h.s hk] at c
      rw [nI_1]
      refine ih (fun ⟨t, ht, z⟩ => ?_)
      by_cases e : t = k
      · subst e; exact c z
      · exact hn ⟨t, by omega, z⟩
    · rw [mj_q21 h.s hk] at c
      exact ⟨k, hk, c⟩
end STG
