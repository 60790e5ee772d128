-- CRUSHLOAD'S METHODS, B
section CLB
variable {Z M : mj_M} {K : mj_K} {p t l : Nat}
theorem md_add_s2 (r g ch kn gr : Int32) (Z : mj_M) : mj_pr mj_s2 (md_add r g ch kn gr Z) = mj_pr mj_s2 Z := by
  unfold md_add
  rw [mj_s12 (mj_oA_pr _ _)]
  unfold md_a6 md_a5
  rw [mj_pr_u rfl, mj_pr_u rfl, mj_pr_u rfl, mj_pr_u rfl, mj_pr_u rfl, mj_pr_u rfl, mj_pr_u rfl, mj_pr_u rfl, mj_pr_u rfl, mj_pr_u rfl]
theorem md_als_s2 (r g : Int32) (Z : mj_M) : ∀ k, mj_pr mj_s2 (md_als r g k Z) = mj_pr mj_s2 Z
  | 0 => rfl
  | k + 1 => (md_add_s2 _ _ _ _ _ _).trans (md_als_s2 r g Z k)
theorem md_train_s2 (r al sp st : Int32) (Z : mj_M) : mj_pr mj_s2 (md_train r al sp st Z) = mj_pr mj_s2 Z := by
  unfold md_train
  rw [mj_pr_u rfl, mj_pr_u rfl, mj_pr_u rfl, mj_pr_u rfl, mj_pr_u rfl]
theorem mk_enter (h : mj_Ia Z) (hc : mk_CL Z M) {s g x3 x4 gr : Int32} (k1 : ¬ md_kn Z s g → K 1 0 M) (k2 : md_kn Z s g → ¬ md_fe Z s g gr → K 2 0 M) (k3 : md_kn Z s g → md_fe Z s g gr → ¬ mj_np Z < 120 → K 3 0 M) (k0 : md_kn Z s g → md_fe Z s g gr → mj_np Z < 120 → ∀ M', mk_CL (md_add s g (md_b x3) (md_b x4) gr Z) M' → K 0 (nI (mj_np Z)) M') : mj_Cm 70 5 [.ref 0, .int s, .int g, .int x3, .int x4, .int gr] M K := by
  have hc0 := hc
  obtain ⟨⟨Y, hv, hw⟩, hf⟩ := hc
  obtain ⟨hP, eP⟩ := mj_S_P h.1.1.s
  have r21 : M 21 0 = nI (mj_np Z) := (mk_at hv 20 0).trans eP
  have r3 : M 3 g.toNatClampNeg = Z 2 g.toNatClampNeg := mk_at hv 2 _
  refine e70 (mk_86 h hc0 (fun a1 => t70_5 (mk_86 h hc0 (fun a2 => t70_10 ?_) (fun c => k1 (fun z => c z.2)))) (fun c => k1 (fun z => c z.1)))
  have p2s : p2 (mj_v M 1) s ↔ Z 2 s.toNatClampNeg = 0 := by
    rw [hv]
    exact ⟨fun z => z.2, fun z => ⟨(mk_p0 h.1.1.s s).mpr a1, z⟩⟩
  refine ⟨by rw [hv]; exact mj_b10 h.1.1.s, sp84 (fun d1 => t70_24 ⟨mj_vmono a2 (mj_S_R h.1.1.s), ?_⟩) (fun c => k2 ⟨a1, a2⟩ (fun z => mj_bi0.mp c (p2s.mpr z.1)))⟩
  have f1 := p2s.mp (mj_bi1.mp d1)
  rw [r3]
  refine ⟨fun c => sp84 (fun z => absurd rfl z) (fun _ => k2 ⟨a1, a2⟩ (fun z => z.2.1 c)), fun f2 => sp84 (fun _ => t70_48 (sp83 (fun f3 => t70_56 ?_) (fun c => k2 ⟨a1, a2⟩ (fun z => c z.2.2)))) (fun z => absurd z (by decide))⟩
  rw [r21]
  refine ⟨fun c => sp85 (fun z => absurd rfl z) (fun _ => k3 ⟨a1, a2⟩ ⟨f1, f2, f3⟩ (fun z => nI_ge z (by decide) c)), fun c => sp85 (fun _ => t70_79 ?_) (fun z => absurd z (by decide))⟩
  have hn : mj_np Z < 120 := by
    rcases Nat.lt_or_ge (mj_np Z) 120 with q | q
    · exact q
    · exact absurd (nI_le (a := 120) q (by omega)) c
  obtain ⟨e, hs⟩ := mj_vin a1
  have k := k0 ⟨a1, a2⟩ ⟨f1, f2, f3⟩ hn
  have key : ∀ w : Int32, w = md_b x3 + 2 * md_b x4 → mj_Cm 46 4 [.ref 0, .int s, .int g, .int w, .int gr] (mj_v M 1) (mj_k2 2 70 5 114 [some (.ref 0), some (.int s), some (.int g), some (.int x3), some (.int x4), some (.int gr), some (.int w)] [] M 1 40 6 (some .int) K) := by
    intro w ew
    rw [hv]
    rw [e] at k ⊢
    refine sp46 h hn hs a2 (md_b_bit x3) (md_b_bit x4) ew (Or.inl f1) (t70_114 (k _ ?_))
    obtain ⟨i1, i2⟩ := md_a6_I (gr := gr) h hn rfl hs a2 (md_b_bit x3) (md_b_bit x4) (Or.inl f1)
    have hnp : mj_np (md_add (nI s.toNatClampNeg) g (md_b x3) (md_b x4) gr Z) = mj_np Z + 1 := by
      unfold md_add
      rw [(mj_n_pr (mj_oA_pr _ _)).1, i2]
    exact mk_CL_w hf (by omega) (mj_wt_pr (md_add_s2 _ _ _ _ _ _) hw)
  have b0 : ∀ {x : Int32}, x = 0 → md_b x = 0 := fun c => by unfold md_b; rw [if_pos c]
  have b1 : ∀ {x : Int32}, ¬ x = 0 → md_b x = 1 := fun c => by unfold md_b; rw [if_neg c]
  refine ⟨fun c3 => ⟨fun c4 => key _ ?_, fun c4 => key _ ?_⟩, fun c3 => ⟨fun c4 => key _ ?_, fun c4 => key _ ?_⟩⟩
  · rw [b0 c3, b0 c4]; decide
  · rw [b0 c3, b1 c4]; decide
  · rw [b1 c3, b0 c4]; decide
  · rw [b1 c3, b1 c4]; decide
theorem mk_train (h : mj_Ia Z) (hc : mk_CL Z M) {r al g sp st : Int32} (k1 : ¬ md_kn Z r g → K 1 0 M) (k2 : md_kn Z r g → ¬ md_ft Z r al g sp st → K 2 0 M) (k3 : md_kn Z r g → md_ft Z r al g sp st → ¬ md_pt Z r → K 3 0 M) (k0 : md_kn Z r g → md_ft Z r al g sp st → md_pt Z r → ∀ M', mk_CL (md_train r (nI (md_its Z r.toNatClampNeg al.toNatClampNeg)) sp st (md_als r g (md_its Z r.toNatClampNeg al.toNatClampNeg) Z)) M' → K 0 (nI (mj_nt Z)) M') : mj_Cm 71 6 [.ref 0, .int r, .int al, .int g, .int sp, .int st] M K := by
  have hc0 := hc
  obtain ⟨⟨Y, hv, hw⟩, hf⟩ := hc
  obtain ⟨hT, eT⟩ := mj_S_T h.1.1.s
  have r29 : M 29 0 = nI (mj_nt Z) := (mk_at hv 28 0).trans eT
  have r3 : M 3 r.toNatClampNeg = Z 2 r.toNatClampNeg := mk_at hv 2 _
  refine e71 (mk_86 h hc0 (fun a1 => t71_5 (mk_86 h hc0 (fun a2 => t71_10 ⟨mj_vmono a1 (mj_S_R h.1.1.s), ?_⟩) (fun c => k1 (fun z => c z.2)))) (fun c => k1 (fun z => c z.1)))
  have p2s : p2 (mj_v M 1) g ↔ Z 2 g.toNatClampNeg = 0 := by
    rw [hv]
    exact ⟨fun z => z.2, fun z => ⟨(mk_p0 h.1.1.s g).mpr a2, z⟩⟩
  rw [r3]
  refine ⟨fun c => sp84 (fun z => absurd rfl z) (fun _ => k2 ⟨a1, a2⟩ (fun z => c z.1)), fun f1 => sp84 (fun _ => t71_34 ⟨by rw [hv]; exact mj_b10 h.1.1.s, sp84 (fun d1 => t71_48 (sp83 (fun f3 => t71_55 (sp83 (fun f4 => t71_63 (sp83 (fun f5 => t71_71 ?_) (fun c => k2 ⟨a1, a2⟩ (fun z => c z.2.2.2.2)))) (fun c => k2 ⟨a1, a2⟩ (fun z => c z.2.2.2.1)))) (fun c => k2 ⟨a1, a2⟩ (fun z => c z.2.2.1)))) (fun c => k2 ⟨a1, a2⟩ (fun z => mj_bi0.mp c (p2s.mpr z.2.1)))⟩) (fun z => absurd z (by decide))⟩
  have f2 := p2s.mp (mj_bi1.mp d1)
  have ff : md_ft Z r al g sp st := ⟨f1, f2, f3, f4, f5⟩
  rw [r29]
  refine ⟨fun c => sp85 (fun z => absurd rfl z) (fun _ => k3 ⟨a1, a2⟩ ff (fun z => nI_ge z.1 (by decide) c)), fun c => sp85 (fun _ => t71_94 ?_) (fun z => absurd z (by decide))⟩
  have hn : mj_nt Z < 12 := by
    rcases Nat.lt_or_ge (mj_nt Z) 12 with q | q
    · exact q
    · exact absurd (nI_le (a := 12) q (by omega)) c
  have pl : mj_Cm 30 3 [.ref 28, .int r] (mj_cc Z Y) (mj_k2 2 71 6 105 [some (.ref 0), some (.int r), some (.int al), some (.int g), some (.int sp), some (.int st), none] [] M 1 40 8 (some .boolean) K) := by
    refine sp30 h.1.1 (fun m => ?_) (fun m => ?_)
    · rw [← hv, mj_k2_v]
      exact t71_105 ⟨fun _ => sp85 (fun z => absurd rfl z) (fun _ => k3 ⟨a1, a2⟩ ff (fun z => z.2 m)), fun z => absurd z (by decide)⟩
    · rw [← hv, mj_k2_v]
      refine t71_105 ⟨fun z => absurd rfl z, fun _ => sp85 (fun _ => t71_116 ?_) (fun z => absurd z (by decide))⟩
      have k := k0 ⟨a1, a2⟩ ff ⟨hn, m⟩
      obtain ⟨er, hr0⟩ := mj_vin a1
      have g1 := f3.1
      have g2 := f3.2
      have i20 : (20 : Int32).toInt = 20 := by decide
      rw [mj_lt, md_0I] at g1
      rw [mj_lt, i20] at g2
      have eal : al = nI al.toNatClampNeg := mj_toN (by omega)
      have hal : al.toNatClampNeg ≤ 20 := by rw [mj_clN]; omega
      rw [hv]
      generalize r.toNatClampNeg = r0 at er hr0 f1 k
      generalize al.toNatClampNeg = w at eal hal k
      subst er
      subst eal
      refine sp47 h hr0 f1 a2 f2 hal (t71_126 ?_)
      obtain ⟨i1, i2, i3, i4, i5⟩ := md_als_k (w := w) h hr0 f1 a2 f2 (md_its Z r0 w) (Nat.le_refl _)
      have s2a := md_als_s2 (nI r0) g Z (md_its Z r0 w)
      rw [mk_win]
      generalize md_als (nI r0) g (md_its Z r0 w) Z = A at i1 i2 i3 i4 i5 s2a k ⊢
      have eq28 : A 28 0 = nI (mj_nt Z) := by rw [i5 28 (by omega)]; exact eT
      have r28 : mj_cc A (fun q => if q < 40 then Y q else M (1 + q)) 28 0 = nI (mj_nt Z) := eq28
      have eN : (A 28 0).toNatClampNeg = mj_nt A := rfl
      refine e28 ⟨fun _ => ⟨by rw [r28]; exact vp_in_nI hn (by decide), ?_⟩, fun c => absurd (by rw [r28]; exact nI_lt hn (by decide)) c⟩
      have e : mj_u (mj_u (mj_u (mj_u (mj_u (mj_cc A (fun q => if q < 40 then Y q else M (1 + q))) 29 (mj_cc A (fun q => if q < 40 then Y q else M (1 + q)) 28 0).toNatClampNeg (nI r0)) 34 (mj_cc A (fun q => if q < 40 then Y q else M (1 + q)) 28 0).toNatClampNeg (nI (md_its Z r0 w))) 30 (mj_cc A (fun q => if q < 40 then Y q else M (1 + q)) 28 0).toNatClampNeg sp) 31 (mj_cc A (fun q => if q < 40 then Y q else M (1 + q)) 28 0).toNatClampNeg st) 28 0 (mj_cc A (fun q => if q < 40 then Y q else M (1 + q)) 28 0 + 1) = mj_cc (md_train (nI r0) (nI (md_its Z r0 w)) sp st A) (fun q => if q < 40 then Y q else M (1 + q)) := by
        rw [mj_cc_w rfl, mj_cc_w rfl, mj_cc_w rfl, mj_cc_w rfl, mj_cc_ws (Or.inr (Or.inr (Or.inr (Or.inr (Or.inr ⟨rfl, rfl⟩)))))]
        rfl
      rw [e, r28]
      refine t71_145 (k _ ?_)
      refine mk_CL_w (mk_FZ_mg hf) (by show mj_np Z ≤ mj_np A; omega) (mj_wt_pr ((md_train_s2 _ _ _ _ _).trans s2a) ?_)
      show mj_wt Z (if 36 < 40 then Y 36 else M (1 + 36)) (if 37 < 40 then Y 37 else M (1 + 37))
      rw [if_pos (by decide), if_pos (by decide)]
      exact hw
  rw [hv]
  exact pl
theorem mk_clear (h : mj_Ia Z) (hc : mk_CL Z M) (k0 : ∀ M', mk_CL (md_ord Z) M' → K 0 (md_oc Z (mj_np Z)) M') : mj_Cm 72 7 [.ref 0] M K := by
  obtain ⟨⟨Y, hv, hw⟩, hf⟩ := hc
  obtain ⟨i1, i2, i3, i4⟩ := md_on_I h (mj_np Z) (Nat.le_refl _)
  refine e72 ?_
  rw [hv]
  exact sp49 h (fun Y' y1 y2 => t72_7 (k0 _ (mk_CL_w hf (by show mj_np Z ≤ mj_np (md_on Z (mj_np Z)); omega) y2)))
theorem mk_sec (h : mj_Ia Z) (hb : (Z 0 5).toInt < 1000000) (hc : mk_CL Z M) {KK : mj_K} (hK : ∀ W, mk_CL (mj_sec Z) (mj_mg M 1 40 W) → KK 0 0 W) : mj_Cm 51 6 [.ref 0] (mj_v M 1) KK := by
  obtain ⟨⟨Y, hv, hw⟩, hf⟩ := hc
  obtain ⟨s1, s2, s3⟩ := mj_sec_I h hb
  rw [hv]
  refine sp51 h.1 hb hw (fun Y' y1 y2 => hK _ ?_)
  exact mk_CL_w hf (by rw [(mj_n_pr s3).1]; exact Nat.le_refl _) (mj_wt_pr (mj_s12 s3) (by rw [y1, y2]; exact hw))
theorem mk_pass (h : mj_Ia Z) (hb : (Z 0 5).toInt + 60 ≤ 1000000) (hc : mk_CL Z M) {s : Int32} (k2 : ¬ md_rg s 1 60 → K 2 0 M) (k0 : md_rg s 1 60 → ∀ M', mk_CL (md_ss s.toNatClampNeg Z) M' → K 0 (md_ss s.toNatClampNeg Z 0 5) M') : mj_Cm 73 7 [.ref 0, .int s] M K := by
  refine e73 (sp83 (fun c => t73_7 ?_) k2)
  have k := k0 c
  obtain ⟨e, -, e2⟩ := md_rgn c (by decide) (by decide)
  have i60 : (60 : Int32).toInt = 60 := by decide
  rw [i60] at e2
  generalize s.toNatClampNeg = n at e e2 k
  subst e
  refine mj_down (P := fun j => ∀ M', mk_CL (md_ss j Z) M' → mj_W 2 73 7 9 [some (.ref 0), some (.int (nI n)), some (.int (nI j))] [] M' 1 K) n ?_ ?_ M hc
  · intro M' hM
    refine t73_9 ⟨fun _ => ?_, fun c => absurd (nI_le (Nat.le_refl n) (by omega)) c⟩
    have hM0 := hM
    obtain ⟨⟨Y, hv, hw⟩, hf⟩ := hM
    have r15 : M' 1 5 = md_ss n Z 0 5 := mk_at hv 0 5
    rw [r15]
    exact k _ hM0
  · intro j hj ih M' hM
    obtain ⟨i1, i2, i3⟩ := mj_secs_I h (n := n) (by omega) j (by omega)
    refine t73_9 ⟨fun c => absurd c (nI_ge hj (by omega)), fun _ => mk_sec i1 (by show (mj_lo (fun _ => mj_sec) j Z 0 5).toInt < 1000000; omega) hM (fun W hW => t73_21 ?_)⟩
    rw [nI_1]
    exact ih _ hW
theorem mk_now (hc : mk_CL Z M) (k0 : K 0 (Z 0 5) M) : mj_Cm 74 1 [.ref 0] M K := by
  obtain ⟨⟨Y, hv, hw⟩, hf⟩ := hc
  have r15 : M 1 5 = Z 0 5 := mk_at hv 0 5
  refine e74 ?_
  rw [r15]
  exact k0
theorem mk_wI {w : Int32} {n : Int} (c : w.toInt = n) {k : Int32} (hk : k.toInt = n) : w = k := by
  rw [mj_eq, c, hk]
theorem mk_ofRoom (h : mj_Ia Z) (hc : mk_CL Z M) {x w : Int32} (k1 : ¬ vp_in x (mj_nr Z) → K 1 0 M) (k2 : vp_in x (mj_nr Z) → ¬ md_rg w 0 4 → K 2 0 M) (k0 : ∀ r, r < mj_nr Z → x = nI r → md_rg w 0 4 → K 0 (md_vR Z r w) M) : mj_Cm 75 3 [.ref 0, .int x, .int w] M K := by
  refine e75 (mk_86 h hc (fun c => t75_5 (sp83 (fun c2 => t75_11 ?_) (fun c2 => k2 c c2))) k1)
  obtain ⟨⟨Y, hv, hw⟩, hf⟩ := hc
  obtain ⟨e, hr⟩ := mj_vin c
  have k := k0 _ hr e c2
  have v10 := mj_vmono c (mj_S_R h.1.1.s)
  have r7 : M 7 x.toNatClampNeg = Z 6 x.toNatClampNeg := mk_at hv 6 _
  have r5 : M 5 x.toNatClampNeg = Z 4 x.toNatClampNeg := mk_at hv 4 _
  have r8 : M 8 x.toNatClampNeg = Z 7 x.toNatClampNeg := mk_at hv 7 _
  have r6 : M 6 x.toNatClampNeg = Z 5 x.toNatClampNeg := mk_at hv 5 _
  obtain ⟨b1, b2, b3⟩ := h.1.1.b _ hr
  have b7 := (h.1.1.c _ hr).1
  have fe : f3 (mj_v M 1) x = nI (mj_ct Z x.toNatClampNeg 0) := by
    rw [hv]
    unfold f3
    rw [if_pos ((mk_p0 h.1.1.s x).mpr c)]
    exact b1
  unfold md_vR at k
  have d4 : w.toInt < 0 ∨ 4 ≤ w.toInt → w = 4 := by
    intro z
    rcases md_w5 c2 with q | q | q | q | q
    · rw [q] at z; exact absurd z (by decide)
    · rw [q] at z; exact absurd z (by decide)
    · rw [q] at z; exact absurd z (by decide)
    · rw [q] at z; exact absurd z (by decide)
    · exact q
  refine ⟨fun z => ⟨v10, ?_⟩, fun z => ⟨by rw [hv]; exact mj_b10 h.1.1.s, ?_⟩, fun z => ⟨v10, ?_⟩, fun z => ⟨v10, ?_⟩, fun z => ⟨v10, ?_⟩⟩
  · rw [d4 z, if_neg (by decide), if_neg (by decide), if_neg (by decide), if_neg (by decide)] at k
    rw [r7]; exact k
  · rw [if_pos (mk_wI z rfl)] at k
    rw [fe]; exact k
  · rw [mk_wI z (k := 1) rfl, if_neg (by decide), if_pos rfl, ← b2] at k
    rw [r5]; exact k
  · rw [mk_wI z (k := 2) rfl, if_neg (by decide), if_neg (by decide), if_pos rfl] at k
    rw [r8]
    refine ⟨fun q => ?_, fun q => ?_⟩
    · rw [q] at k; exact k
    · rw [(mj_bit1 b7).mpr q] at k; exact k
  · rw [mk_wI z (k := 3) rfl, if_neg (by decide), if_neg (by decide), if_neg (by decide), if_pos rfl] at k
    rw [r6]; exact k
theorem mk_ofLink (h : mj_Ia Z) (hc : mk_CL Z M) {x w : Int32} (k1 : ¬ vp_in x (mj_nl Z) → K 1 0 M) (k2 : vp_in x (mj_nl Z) → ¬ md_rg w 0 4 → K 2 0 M) (k0 : ∀ l, l < mj_nl Z → x = nI l → md_rg w 0 4 → K 0 (md_vL Z l w) M) : mj_Cm 76 5 [.ref 0, .int x, .int w] M K := by
  refine e76 (mk_87 h hc (fun c => t76_5 (sp83 (fun c2 => t76_11 ?_) (fun c2 => k2 c c2))) k1)
  obtain ⟨⟨Y, hv, hw⟩, hf⟩ := hc
  obtain ⟨e, hl⟩ := mj_vin c
  have k := k0 _ hl e c2
  have v14 := mj_vmono c (mj_S_L h.1.1.s)
  have r17 : M 17 x.toNatClampNeg = Z 16 x.toNatClampNeg := mk_at hv 16 _
  have r15 : M 15 x.toNatClampNeg = Z 14 x.toNatClampNeg := mk_at hv 14 _
  have r16 : M 16 x.toNatClampNeg = Z 15 x.toNatClampNeg := mk_at hv 15 _
  have b16 := (h.1.1.s.2.2.2.2.2.1 _ hl).1
  have fe : f10 (mj_v M 1) x = mj_ra Z x.toNatClampNeg := by
    rw [hv, e, mj_f10 h.1.1.s hl, ← e]
  unfold md_vL at k
  have d4 : w.toInt < 0 ∨ 4 ≤ w.toInt → w = 4 := by
    intro z
    rcases md_w5 c2 with q | q | q | q | q
    · rw [q] at z; exact absurd z (by decide)
    · rw [q] at z; exact absurd z (by decide)
    · rw [q] at z; exact absurd z (by decide)
    · rw [q] at z; exact absurd z (by decide)
    · exact q
  refine ⟨fun z => ⟨by rw [hv]; exact mj_b80 h.1.1.s, ?_⟩, fun z => ⟨v14, ?_⟩, fun z => ⟨v14, ?_⟩, fun z => ⟨v14, ?_⟩, fun z => ?_⟩
  · rw [d4 z, if_neg (by decide), if_neg (by decide), if_neg (by decide), if_neg (by decide)] at k
    rw [fe]; exact k
  · rw [if_pos (mk_wI z rfl)] at k
    rw [r17]
    refine ⟨fun q => ?_, fun q => ?_⟩
    · rw [q] at k; exact k
    · rw [(mj_bit1 b16).mpr q] at k; exact k
  · rw [mk_wI z (k := 1) rfl, if_neg (by decide), if_pos rfl] at k
    rw [r15]; exact k
  · rw [mk_wI z (k := 2) rfl, if_neg (by decide), if_neg (by decide), if_pos rfl] at k
    rw [r16]; exact k
  · rw [mk_wI z (k := 3) rfl, if_neg (by decide), if_neg (by decide), if_neg (by decide), if_pos rfl] at k
    have key : mj_Cm 45 4 [.ref 0, .int x] (mj_cc Z Y) (mj_k2 2 76 5 99 [some (.ref 0), some (.int x), some (.int w)] [] M 1 40 2 (some .int) K) := by
      rw [e]
      refine sp45 h.1.1 hw hl ?_
      rw [← hv, mj_k2_v, ← e]
      have k' := k
      rw [← e] at k'
      exact t76_99 k'
    rw [hv]
    exact key
theorem mk_person (h : mj_Ia Z) (hc : mk_CL Z M) {x w : Int32} (k1 : ¬ vp_in x (mj_np Z) → K 1 0 M) (k2 : vp_in x (mj_np Z) → ¬ md_rg w 0 6 → K 2 0 M) (k0 : ∀ p, p < mj_np Z → x = nI p → md_rg w 0 6 → K 0 (md_vP Z p w) M) : mj_Cm 77 4 [.ref 0, .int x, .int w] M K := by
  refine e77 (mk_88 h hc (fun c => t77_5 (sp83 (fun c2 => t77_12 ?_) (fun c2 => k2 c c2))) k1)
  obtain ⟨⟨Y, hv, hw⟩, hf⟩ := hc
  obtain ⟨e, hp⟩ := mj_vin c
  have k := k0 _ hp e c2
  have v120 := mj_vmono c (mj_S_P h.1.1.s).1
  have r27 : M 27 x.toNatClampNeg = Z 26 x.toNatClampNeg := mk_at hv 26 _
  have r22 : M 22 x.toNatClampNeg = Z 21 x.toNatClampNeg := mk_at hv 21 _
  have r23 : M 23 x.toNatClampNeg = Z 22 x.toNatClampNeg := mk_at hv 22 _
  have r24 : M 24 x.toNatClampNeg = Z 23 x.toNatClampNeg := mk_at hv 23 _
  have r28 : M 28 x.toNatClampNeg = Z 27 x.toNatClampNeg := mk_at hv 27 _
  have b40 := (h.1.1.a _ hp).2.2.1
  have b27 := (h.1.1.s.2.2.2.1 _ hp).2.2
  have q22 : p22 (mj_v M 1) x ↔ ¬ Z 40 x.toNatClampNeg = 0 := by
    rw [hv, e, mj_q22 h.1.1.s b40 hp, ← e]
  unfold md_vP at k
  refine ⟨fun z => ⟨v120, ?_⟩, fun z => ⟨v120, ?_⟩, fun z => ⟨v120, ?_⟩, fun z => ⟨v120, ?_⟩, fun z => ?_, fun z => ⟨by rw [hv]; exact mj_b20 h.1.1.s, ?_⟩, fun z => ⟨v120, ?_⟩⟩
  · rw [if_neg (by omega), if_neg (by omega), if_neg (by omega), if_neg (by omega), if_neg (by omega), if_neg (by omega)] at k
    rw [r27]; exact k
  · rw [if_pos z] at k
    rw [r22]; exact k
  · rw [if_neg (by omega), if_pos z] at k
    rw [r23]; exact k
  · rw [if_neg (by omega), if_neg (by omega), if_pos z] at k
    rw [r24]; exact k
  · rw [if_neg (by omega), if_neg (by omega), if_neg (by omega), if_pos z] at k
    have key : mj_Cm 44 3 [.ref 0, .int x] (mj_cc Z Y) (mj_k2 2 77 4 99 [some (.ref 0), some (.int x), some (.int w)] [] M 1 40 2 (some .int) K) := by
      rw [e]
      refine sp44 h.1.1 hw hp ?_
      rw [← hv, mj_k2_v, ← e]
      exact t77_99 k
    rw [hv]
    exact key
  · rw [if_neg (by omega), if_neg (by omega), if_neg (by omega), if_neg (by omega), if_pos z] at k
    rw [q22]
    refine ⟨fun q => ?_, fun q => ?_⟩
    · rw [Decidable.not_not.mp q] at k; exact k
    · rw [(mj_bit1 b40).mpr q] at k; exact k
  · rw [if_neg (by omega), if_neg (by omega), if_neg (by omega), if_neg (by omega), if_neg (by omega), if_pos z] at k
    rw [r28]
    refine ⟨fun q => ?_, fun q => ?_⟩
    · rw [q] at k; exact k
    · rw [(mj_bit1 b27).mpr q] at k; exact k
theorem mk_ofTrain (h : mj_Ia Z) (hc : mk_CL Z M) {x w : Int32} (k1 : ¬ vp_in x (mj_nt Z) → K 1 0 M) (k2 : vp_in x (mj_nt Z) → ¬ md_rg w 0 3 → K 2 0 M) (k0 : ∀ t, t < mj_nt Z → x = nI t → md_rg w 0 3 → K 0 (md_vT Z t w) M) : mj_Cm 78 3 [.ref 0, .int x, .int w] M K := by
  refine e78 (mk_89 h hc (fun c => t78_5 (sp83 (fun c2 => t78_11 ?_) (fun c2 => k2 c c2))) k1)
  obtain ⟨⟨Y, hv, hw⟩, hf⟩ := hc
  obtain ⟨e, ht⟩ := mj_vin c
  have k := k0 _ ht e c2
  have v12 := mj_vmono c (mj_S_T h.1.1.s).1
  have r32 : M 32 x.toNatClampNeg = Z 31 x.toNatClampNeg := mk_at hv 31 _
  have r34 : M 34 x.toNatClampNeg = Z 33 x.toNatClampNeg := mk_at hv 33 _
  have r35 : M 35 x.toNatClampNeg = Z 34 x.toNatClampNeg := mk_at hv 34 _
  have q29 : p29 (mj_v M 1) x ↔ ¬ Z 31 x.toNatClampNeg ≤ 0 := by
    rw [hv]
    exact ⟨fun z => z.2, fun z => ⟨(mk_p27 h.1.1.s x).mpr c, z⟩⟩
  unfold md_vT at k
  have d3 : w.toInt < 0 ∨ 3 ≤ w.toInt → w = 3 := by
    intro z
    have g1 := c2.1
    have g2 := c2.2
    rw [mj_lt, md_0I] at g1
    rw [mj_lt, show (3 : Int32).toInt = 3 by decide] at g2
    rw [mj_eq, show (3 : Int32).toInt = 3 by decide]
    omega
  refine ⟨fun z => ⟨v12, ?_⟩, fun z => ⟨v12, ?_⟩, fun z => ⟨v12, ?_⟩, fun z => ⟨by rw [hv]; exact mj_b28 h.1.1.s, ?_⟩⟩
  · rw [d3 z, if_neg (by decide), if_neg (by decide), if_pos rfl] at k
    rw [r32]; exact k
  · rw [if_pos (mk_wI z rfl)] at k
    rw [r34]; exact k
  · rw [mk_wI z (k := 1) rfl, if_neg (by decide), if_pos rfl] at k
    rw [r35]; exact k
  · rw [mk_wI z (k := 2) rfl, if_neg (by decide), if_neg (by decide), if_neg (by decide)] at k
    rw [q29]
    refine ⟨fun q => ?_, fun q => ?_⟩
    · rw [if_pos (Decidable.not_not.mp q)] at k; exact k
    · rw [if_neg q] at k; exact k
theorem mk_alone (h : mj_Ia Z) (hc : mk_CL Z M) {x : Int32} (k1 : ¬ vp_in x (mj_np Z) → K 1 0 M) (k0 : ∀ p, p < mj_np Z → x = nI p → K 0 (mj_dv Z (Z 24 p) (Z 40 p) (Z 22 p).toNatClampNeg (Z 23 p).toNatClampNeg) M) : mj_Cm 81 4 [.ref 0, .int x] M K := by
  refine e81 (mk_88 h hc (fun c => t81_5 ?_) k1)
  obtain ⟨⟨Y, hv, hw⟩, hf⟩ := hc
  obtain ⟨e, hp⟩ := mj_vin c
  have k := k0 _ hp e
  have key : mj_Cm 43 3 [.ref 0, .int x] (mj_cc Z Y) (mj_k2 2 81 4 13 [some (.ref 0), some (.int x)] [] M 1 40 1 (some .int) K) := by
    rw [e]
    refine sp43 h.1.1 hw hp ?_
    rw [← hv, mj_k2_v, ← e]
    exact t81_13 k
  rw [hv]
  exact key
end CLB
