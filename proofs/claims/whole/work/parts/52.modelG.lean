-- THE MODEL'S METHODS, G: links, persons, trains
section MOG
variable {Z X W S : mj_M} {K : mj_K} {p t l : Nat}
theorem md_trL {E A1 A4 A5 Q : Prop} {a : Int32} {G : Int32 → Int32 → Int32 → Prop} (L : ∀ b c : Int32, (b = 0 ↔ ¬ (¬ E ∧ A1 ∧ A4 ∧ A5)) → (c = 0 ↔ Q) → G a b c) : (E → (Q → G a 0 0) ∧ (¬ Q → G a 0 1)) ∧ (¬ E → (¬ A1 → (Q → G a 0 0) ∧ (¬ Q → G a 0 1)) ∧ (A1 → (¬ A4 → (Q → G a 0 0) ∧ (¬ Q → G a 0 1)) ∧ (A4 → (¬ A5 → (Q → G a 0 0) ∧ (¬ Q → G a 0 1)) ∧ (A5 → (Q → G a 1 0) ∧ (¬ Q → G a 1 1))))) := by
  have q : ∀ b : Int32, (b = 0 ↔ ¬ (¬ E ∧ A1 ∧ A4 ∧ A5)) → (Q → G a b 0) ∧ (¬ Q → G a b 1) := fun b hb => ⟨fun z => L b 0 hb ⟨fun _ => z, fun _ => rfl⟩, fun z => L b 1 hb ⟨fun y => absurd y (by decide), fun y => absurd y z⟩⟩
  exact ⟨fun e => q 0 (md_zro _ (fun z => z.1 e)), fun e => ⟨fun c => q 0 (md_zro _ (fun z => c z.2.1)), fun c => ⟨fun d => q 0 (md_zro _ (fun z => d z.2.2.1)), fun d => ⟨fun f => q 0 (md_zro _ (fun z => f z.2.2.2)), fun f => q 1 (md_one _ ⟨e, c, d, f⟩)⟩⟩⟩⟩
abbrev md_fl (k f t s r : Int32) : Prop := ¬ f = t ∧ md_rg k 0 4 ∧ md_rg s 1 5 ∧ md_rg r 0 9
theorem mq_link (h : mj_Ia Z) {k f t s r : Int32} (k1 : ¬ (vp_in f (mj_nr Z) ∧ vp_in t (mj_nr Z)) → ∀ X', X' 0 5 = 1 → K 0 0 (mj_mm Z X')) (k2 : vp_in f (mj_nr Z) ∧ vp_in t (mj_nr Z) → ¬ md_fl k f t s r → ∀ X', X' 0 5 = 2 → K 0 0 (mj_mm Z X')) (k3 : vp_in f (mj_nr Z) ∧ vp_in t (mj_nr Z) → md_fl k f t s r → ¬ mj_nl Z < 14 → ∀ X', X' 0 5 = 3 → K 0 0 (mj_mm Z X')) (k0 : vp_in f (mj_nr Z) ∧ vp_in t (mj_nr Z) → md_fl k f t s r → mj_nl Z < 14 → ∀ X', X' 0 5 = 0 → K 0 (nI (mj_nl Z)) (mj_mm (md_link k f t s r Z) X')) : mj_Cm 101 3 [.ref 0, .int k, .int f, .int t, .int s, .int r] (mj_mm Z X) K := by
  have hL := mj_S_L h.1.1.s
  have eL : Z 8 0 = nI (mj_nl Z) := mj_toN h.1.1.s.1.2.1.1
  have bb : (14 ≤ Z 8 0) ↔ ¬ mj_nl Z < 14 := by
    rw [eL]
    exact ⟨fun z y => nI_ge y (by decide) z, fun z => nI_le (a := 14) (by omega) (by omega)⟩
  have L : ∀ a b c : Int32, (a = 0 ↔ ¬ (vp_in f (mj_nr Z) ∧ vp_in t (mj_nr Z))) → (b = 0 ↔ ¬ md_fl k f t s r) → (c = 0 ↔ 14 ≤ Z 8 0) → mj_Cm 93 1 [.ref 0, .int a, .int b, .int c] (mj_mm Z X) (mj_k 1 101 3 91 [some (.ref 0), some (.int k), some (.int f), some (.int t), some (.int s), some (.int r), some (.int a), some (.int b), none] [] 0 (some .boolean) K) := by
    intro a b c ha hb hc
    refine md_goes ha hb (hc.trans bb) (fun c => t101_91 ⟨fun z => absurd rfl z, fun _ => k1 c _ (md_x05 _ _)⟩) (fun c c2 => t101_91 ⟨fun z => absurd rfl z, fun _ => k2 c c2 _ (md_x05 _ _)⟩) (fun c c2 c3 => t101_91 ⟨fun z => absurd rfl z, fun _ => k3 c c2 c3 _ (md_x05 _ _)⟩) (fun c c2 c3 => t101_91 ⟨fun _ => ?_, fun z => absurd z (by decide)⟩)
    have vl : vp_in (Z 8 0) 14 := by rw [eL]; exact vp_in_nI c3 (by decide)
    simp only [mj_rL0 vl, mj_wL0 vl, eq_true (mj_vL0 vl), mj_rL1 vl, mj_wL1 vl, eq_true (mj_vL1 vl), mj_rL2 vl, mj_wL2 vl, eq_true (mj_vL2 vl), mj_rL3 vl, mj_wL3 vl, eq_true (mj_vL3 vl), mj_rL4 vl, mj_wL4 vl, eq_true (mj_vL4 vl), mj_rL5 vl, mj_wL5 vl, eq_true (mj_vL5 vl), mj_rL6 vl, mj_wL6 vl, eq_true (mj_vL6 vl), mj_rL7 vl, mj_wL7 vl, eq_true (mj_vL7 vl), mj_rL8 vl, mj_wL8 vl, eq_true (mj_vL8 vl), mj_rL9 vl, mj_wL9 vl, eq_true (mj_vL9 vl), mj_rL10 vl, mj_wL10 vl, eq_true (mj_vL10 vl), mj_rS1236, mj_wS1236, mj_rS1237, mj_wS1237, mj_rS1238, mj_wS1238, mj_rS1239, mj_wS1239, mj_rS1240, mj_wS1240, mj_rS1241, mj_wS1241, true_and]
    have e := k0 c c2 c3 (mj_u X 0 5 0) (md_x05 _ _)
    have e2 : Z 8 0 + 1 - 1 = nI (mj_nl Z) := by rw [eL, nI_1]; exact nI_pred _
    have e3 : md_link k f t s r Z = mj_u (mj_u (mj_u (mj_u (mj_u (mj_u Z 10 (mj_nl Z) f) 11 (mj_nl Z) t) 9 (mj_nl Z) k) 12 (mj_nl Z) s) 13 (mj_nl Z) r) 8 0 (Z 8 0 + 1) := by
      unfold md_link
      rw [mj_uc _ _ _ (show 9 ≠ 10 by decide), mj_uc _ _ _ (show 9 ≠ 11 by decide)]
    rw [e3] at e
    show K 0 (Z 8 0 + 1 - 1) (mj_mm (mj_u (mj_u (mj_u (mj_u (mj_u (mj_u Z 10 (mj_nl Z) f) 11 (mj_nl Z) t) 9 (mj_nl Z) k) 12 (mj_nl Z) s) 13 (mj_nl Z) r) 8 0 (Z 8 0 + 1)) (mj_u X 0 5 0))
    rw [e2]
    exact e
  refine e101 ⟨fun c => ?_, fun c => ⟨fun c2 => ?_, fun c2 => ?_⟩⟩
  · exact md_trL (G := fun a b c => mj_Cm 93 1 [.ref 0, .int a, .int b, .int c] (mj_mm Z X) (mj_k 1 101 3 91 [some (.ref 0), some (.int k), some (.int f), some (.int t), some (.int s), some (.int r), some (.int a), some (.int b), none] [] 0 (some .boolean) K)) (a := 0) (fun b d hb hd => L 0 b d (md_zro _ (fun z => c ((mq_94 h.1.1.s.1 f).mpr z.1))) hb hd)
  · exact md_trL (G := fun a b c => mj_Cm 93 1 [.ref 0, .int a, .int b, .int c] (mj_mm Z X) (mj_k 1 101 3 91 [some (.ref 0), some (.int k), some (.int f), some (.int t), some (.int s), some (.int r), some (.int a), some (.int b), none] [] 0 (some .boolean) K)) (a := 0) (fun b d hb hd => L 0 b d (md_zro _ (fun z => c2 ((mq_94 h.1.1.s.1 t).mpr z.2))) hb hd)
  · exact md_trL (G := fun a b c => mj_Cm 93 1 [.ref 0, .int a, .int b, .int c] (mj_mm Z X) (mj_k 1 101 3 91 [some (.ref 0), some (.int k), some (.int f), some (.int t), some (.int s), some (.int r), some (.int a), some (.int b), none] [] 0 (some .boolean) K)) (a := 1) (fun b d hb hd => L 1 b d (md_one _ ⟨(mq_94 h.1.1.s.1 f).mp c, (mq_94 h.1.1.s.1 t).mp c2⟩) hb hd)
-- persons
theorem sp117g {r : Int32} (hS : mj_u (mj_u (mj_u (mj_u W 22 p r) 21 p 0) 26 p (W 0 5)) 5 r.toNatClampNeg (W 5 r.toNatClampNeg + 1) = S) (hI : mj_Iv S) (hp : p < mj_np S) (vr : vp_in r 10) (hK : K 0 0 (mj_mm (mj_oA p S) X)) : mj_Cm 117 3 [.ref 0, .int (nI p), .int r] (mj_mm W X) K := by
  have ya := mj_qv hI.s hp
  have da := mj_qc hI.s hp
  refine e117 ?_
  simp only [mj_rP0 ya, mj_wP0 ya, eq_true (mj_vP0 ya), mj_rP1 ya, mj_wP1 ya, eq_true (mj_vP1 ya), mj_rP2 ya, mj_wP2 ya, eq_true (mj_vP2 ya), mj_rP3 ya, mj_wP3 ya, eq_true (mj_vP3 ya), mj_rP4 ya, mj_wP4 ya, eq_true (mj_vP4 ya), mj_rP5 ya, mj_wP5 ya, eq_true (mj_vP5 ya), mj_rP6 ya, mj_wP6 ya, eq_true (mj_vP6 ya), mj_rP7 ya, mj_wP7 ya, eq_true (mj_vP7 ya), mj_rR0 vr, mj_wR0 vr, eq_true (mj_vR0 vr), mj_rR1 vr, mj_wR1 vr, eq_true (mj_vR1 vr), mj_rR2 vr, mj_wR2 vr, eq_true (mj_vR2 vr), mj_rR3 vr, mj_wR3 vr, eq_true (mj_vR3 vr), mj_rR4 vr, mj_wR4 vr, eq_true (mj_vR4 vr), da, true_and, mj_rS1236, mj_wS1236, mj_rS1237, mj_wS1237, mj_rS1238, mj_wS1238, mj_rS1239, mj_wS1239, mj_rS1240, mj_wS1240, mj_rS1241, mj_wS1241]
  show mj_Cm 116 2 [.ref 0, .int (nI p)] (mj_mm (mj_u (mj_u (mj_u (mj_u W 22 p r) 21 p 0) 26 p (W 0 5)) 5 r.toNatClampNeg (W 5 r.toNatClampNeg + 1)) X) _
  rw [hS]
  exact sp116 hI hp (t117_65 hK)
theorem mq_add (h : mj_Ia Z) {x3 x4 g gr : Int32} {r0 : Nat} (hn : mj_np Z < 120) (hr0 : r0 < mj_nr Z) (hg : vp_in g (mj_nr Z)) (hcap : Z 2 r0 = 0 ∨ ((mj_ct Z r0 0 + mj_ct Z r0 1 + 1 : Nat) : Int) ≤ (Z 3 r0).toInt) (hK : K 0 (nI (mj_np Z)) (mj_mm (md_add (nI r0) g (md_b x3) (md_b x4) gr Z) X)) : mj_Cm 118 4 [.ref 0, .int (nI r0), .int g, .int x3, .int x4, .int gr] (mj_mm Z X) K := by
  have hR := mj_S_R h.1.1.s
  obtain ⟨hP, eP⟩ := mj_S_P h.1.1.s
  have hy : vp_in (Z 20 0) 120 := by rw [eP]; exact vp_in_nI hn (by decide)
  have vg := mj_r10 h.1.1.s hg
  have vr : vp_in (nI r0) 10 := vp_in_nI (by omega) (by decide)
  have ep : (Z 20 0).toNatClampNeg = mj_np Z := rfl
  have em : Z 20 0 + 1 - 1 = nI (mj_np Z) := by rw [eP, nI_1]; exact nI_pred _
  obtain ⟨a1, a2⟩ := md_a6_I (gr := gr) h hn rfl hr0 hg (md_b_bit x3) (md_b_bit x4) hcap
  have key : ∀ ch kn w, ch = md_b x3 → kn = md_b x4 → w = md_wt g Z → mj_Cm 117 3 [.ref 0, .int (Z 20 0 + 1 - 1), .int (nI r0)] (mj_mm (mj_u (mj_u (mj_u (mj_u (mj_u (mj_u Z 23 (mj_np Z) g) 24 (mj_np Z) ch) 25 (mj_np Z) gr) 40 (mj_np Z) kn) 27 (mj_np Z) w) 20 0 (Z 20 0 + 1)) X) (mj_k 1 118 4 136 [some (.ref 0), some (.int (nI r0)), some (.int g), some (.int x3), some (.int x4), some (.int gr), some (.int (8 * Z 20 0))] [] 0 none K) := by
    intro ch kn w e1 e2 e3
    rw [em]
    refine sp117g (S := md_a6 (nI r0) g (md_b x3) (md_b x4) gr Z) ?_ a1.1.1 (by omega) vr (t118_136 ?_)
    · rw [← e1, ← e2]
      unfold md_a6
      rw [← e3]
      exact md_perm Z (mj_np Z) (nI r0).toNatClampNeg 0 (nI r0) g ch kn gr (Z 0 5) (Z 20 0 + 1) w (Z 5 (nI r0).toNatClampNeg + 1)
    · have e20 : md_a6 (nI r0) g (md_b x3) (md_b x4) gr Z 20 0 = Z 20 0 + 1 := by
        show mj_u Z 20 0 (Z 20 0 + 1) 20 0 = _
        rw [mj_u_at, if_pos ⟨rfl, rfl⟩]
      show K 0 (mj_oA (mj_np Z) (md_a6 (nI r0) g (md_b x3) (md_b x4) gr Z) 20 0 - 1) _
      rw [mj_oA_c _ _ (show 20 ≠ 21 by decide) (by decide), e20, em]
      exact hK
  have b0 : ∀ {x : Int32}, x = 0 → (0 : Int32) = md_b x := fun c => by unfold md_b; rw [if_pos c]
  have b1 : ∀ {x : Int32}, ¬ x = 0 → (1 : Int32) = md_b x := fun c => by unfold md_b; rw [if_neg c]
  have w0 : ¬ Z 2 g.toNatClampNeg = 2 → (0 : Int32) = md_wt g Z := fun c => by unfold md_wt; rw [if_neg (fun z => c z.1)]
  have w1 : ¬ Z 8 1 = 0 → (0 : Int32) = md_wt g Z := fun c => by unfold md_wt; rw [if_neg (fun z => c z.2)]
  have w2 : Z 2 g.toNatClampNeg = 2 → Z 8 1 = 0 → (1 : Int32) = md_wt g Z := fun c c2 => by unfold md_wt; rw [if_pos ⟨c, c2⟩]
  refine e118 ?_
  simp only [mj_rP0 hy, mj_wP0 hy, eq_true (mj_vP0 hy), mj_rP1 hy, mj_wP1 hy, eq_true (mj_vP1 hy), mj_rP2 hy, mj_wP2 hy, eq_true (mj_vP2 hy), mj_rP3 hy, mj_wP3 hy, eq_true (mj_vP3 hy), mj_rP4 hy, mj_wP4 hy, eq_true (mj_vP4 hy), mj_rP5 hy, mj_wP5 hy, eq_true (mj_vP5 hy), mj_rP6 hy, mj_wP6 hy, eq_true (mj_vP6 hy), mj_rP7 hy, mj_wP7 hy, eq_true (mj_vP7 hy), mj_rR0 vg, mj_wR0 vg, eq_true (mj_vR0 vg), mj_rR1 vg, mj_wR1 vg, eq_true (mj_vR1 vg), mj_rR2 vg, mj_wR2 vg, eq_true (mj_vR2 vg), mj_rR3 vg, mj_wR3 vg, eq_true (mj_vR3 vg), mj_rR4 vg, mj_wR4 vg, eq_true (mj_vR4 vg), mj_rS1236, mj_wS1236, mj_rS1237, mj_wS1237, mj_rS1238, mj_wS1238, mj_rS1239, mj_wS1239, mj_rS1240, mj_wS1240, mj_rS1241, mj_wS1241, ep, true_and]
  refine ⟨fun c => ⟨fun d => ⟨fun e => ?_, fun e => ⟨fun f => ?_, fun f => ?_⟩⟩, fun d => ⟨fun e => ?_, fun e => ⟨fun f => ?_, fun f => ?_⟩⟩⟩, fun c => ⟨fun d => ⟨fun e => ?_, fun e => ⟨fun f => ?_, fun f => ?_⟩⟩, fun d => ⟨fun e => ?_, fun e => ⟨fun f => ?_, fun f => ?_⟩⟩⟩⟩
  · exact key 0 0 0 (b0 c) (b0 d) (w0 e)
  · exact key 0 0 0 (b0 c) (b0 d) (w1 f)
  · exact key 0 0 1 (b0 c) (b0 d) (w2 e f)
  · exact key 0 1 0 (b0 c) (b1 d) (w0 e)
  · exact key 0 1 0 (b0 c) (b1 d) (w1 f)
  · exact key 0 1 1 (b0 c) (b1 d) (w2 e f)
  · exact key 1 0 0 (b1 c) (b0 d) (w0 e)
  · exact key 1 0 0 (b1 c) (b0 d) (w1 f)
  · exact key 1 0 1 (b1 c) (b0 d) (w2 e f)
  · exact key 1 1 0 (b1 c) (b1 d) (w0 e)
  · exact key 1 1 0 (b1 c) (b1 d) (w1 f)
  · exact key 1 1 1 (b1 c) (b1 d) (w2 e f)
abbrev md_kn (Z : mj_M) (a b : Int32) : Prop := vp_in a (mj_nr Z) ∧ vp_in b (mj_nr Z)
abbrev md_fe (Z : mj_M) (s g gr : Int32) : Prop := Z 2 s.toNatClampNeg = 0 ∧ ¬ Z 2 g.toNatClampNeg = 1 ∧ md_rg gr (-1) 9
theorem mq_enter (h : mj_Ia Z) {s g x3 x4 gr : Int32} (k1 : ¬ md_kn Z s g → ∀ X', X' 0 5 = 1 → K 0 0 (mj_mm Z X')) (k2 : md_kn Z s g → ¬ md_fe Z s g gr → ∀ X', X' 0 5 = 2 → K 0 0 (mj_mm Z X')) (k3 : md_kn Z s g → md_fe Z s g gr → ¬ mj_np Z < 120 → ∀ X', X' 0 5 = 3 → K 0 0 (mj_mm Z X')) (k0 : md_kn Z s g → md_fe Z s g gr → mj_np Z < 120 → ∀ X', X' 0 5 = 0 → K 0 (nI (mj_np Z)) (mj_mm (md_add s g (md_b x3) (md_b x4) gr Z) X')) : mj_Cm 119 5 [.ref 0, .int s, .int g, .int x3, .int x4, .int gr] (mj_mm Z X) K := by
  obtain ⟨hP, eP⟩ := mj_S_P h.1.1.s
  have bb : (120 ≤ Z 20 0) ↔ ¬ mj_np Z < 120 := by
    rw [eP]
    exact ⟨fun z y => nI_ge y (by decide) z, fun z => nI_le (a := 120) (by omega) (by omega)⟩
  have L : ∀ a b : Int32, (a = 0 ↔ ¬ md_kn Z s g) → (b = 0 ↔ ¬ (md_kn Z s g ∧ md_fe Z s g gr)) → (120 ≤ Z 20 0 → mj_Cm 93 1 [.ref 0, .int a, .int b, .int 0] (mj_mm Z X) (mj_k 1 119 5 95 [some (.ref 0), some (.int s), some (.int g), some (.int x3), some (.int x4), some (.int gr), some (.int a), some (.int b)] [] 0 (some .boolean) K)) ∧ (¬ 120 ≤ Z 20 0 → mj_Cm 93 1 [.ref 0, .int a, .int b, .int 1] (mj_mm Z X) (mj_k 1 119 5 95 [some (.ref 0), some (.int s), some (.int g), some (.int x3), some (.int x4), some (.int gr), some (.int a), some (.int b)] [] 0 (some .boolean) K)) := by
    intro a b ha hb
    have L2 : ∀ c : Int32, (c = 0 ↔ ¬ mj_np Z < 120) → mj_Cm 93 1 [.ref 0, .int a, .int b, .int c] (mj_mm Z X) (mj_k 1 119 5 95 [some (.ref 0), some (.int s), some (.int g), some (.int x3), some (.int x4), some (.int gr), some (.int a), some (.int b)] [] 0 (some .boolean) K) := by
      intro c hc
      refine md_goes ha hb hc (fun c => t119_95 ⟨fun _ => k1 c _ (md_x05 _ _), fun z => absurd rfl z⟩) (fun c c2 => t119_95 ⟨fun _ => k2 c (fun z => c2 ⟨c, z⟩) _ (md_x05 _ _), fun z => absurd rfl z⟩) (fun c c2 c3 => t119_95 ⟨fun _ => k3 c c2.2 c3 _ (md_x05 _ _), fun z => absurd rfl z⟩) (fun c c2 c3 => t119_95 ⟨fun z => absurd z (by decide), fun _ => ?_⟩)
      obtain ⟨e, hs⟩ := mj_vin c.1
      have k := k0 c c2.2 c3 (mj_u X 0 5 0) (md_x05 _ _)
      rw [e] at k ⊢
      exact mq_add h c3 hs c.2 (Or.inl c2.2.1) (t119_109 k)
    exact ⟨fun z => L2 0 (md_zro _ (bb.mp z)), fun z => L2 1 ⟨fun y => absurd y (by decide), fun y => absurd (bb.mpr y) z⟩⟩
  refine e119 ⟨fun c => ?_, fun c => ⟨fun c2 => ?_, fun c2 => ?_⟩⟩
  · have nk : ¬ md_kn Z s g := fun z => c ((mq_94 h.1.1.s.1 s).mpr z.1)
    exact L 0 0 (md_zro _ nk) (md_zro _ (fun z => nk z.1))
  · have nk : ¬ md_kn Z s g := fun z => c2 ((mq_94 h.1.1.s.1 g).mpr z.2)
    exact L 0 0 (md_zro _ nk) (md_zro _ (fun z => nk z.1))
  · have yk : md_kn Z s g := ⟨(mq_94 h.1.1.s.1 s).mp c, (mq_94 h.1.1.s.1 g).mp c2⟩
    have vs := mj_r10 h.1.1.s yk.1
    have vg := mj_r10 h.1.1.s yk.2
    simp only [mj_rR0 vs, mj_wR0 vs, eq_true (mj_vR0 vs), mj_rR1 vs, mj_wR1 vs, eq_true (mj_vR1 vs), mj_rR2 vs, mj_wR2 vs, eq_true (mj_vR2 vs), mj_rR3 vs, mj_wR3 vs, eq_true (mj_vR3 vs), mj_rR4 vs, mj_wR4 vs, eq_true (mj_vR4 vs), mj_rR0 vg, mj_wR0 vg, eq_true (mj_vR0 vg), mj_rR1 vg, mj_wR1 vg, eq_true (mj_vR1 vg), mj_rR2 vg, mj_wR2 vg, eq_true (mj_vR2 vg), mj_rR3 vg, mj_wR3 vg, eq_true (mj_vR3 vg), mj_rR4 vg, mj_wR4 vg, eq_true (mj_vR4 vg), true_and]
    refine ⟨fun c3 => L 1 0 (md_one _ yk) (md_zro _ (fun z => c3 z.2.1)), fun c3 => ⟨fun c4 => L 1 0 (md_one _ yk) (md_zro _ (fun z => z.2.2.1 c4)), fun c4 => ⟨fun c5 => L 1 0 (md_one _ yk) (md_zro _ (fun z => c5 z.2.2.2)), fun c5 => L 1 1 (md_one _ yk) (md_one _ ⟨yk, c3, c4, c5⟩)⟩⟩⟩
-- trains
theorem mq_has (h : mj_Iv Z) {r : Int32} (h1 : md_at Z r (mj_nt Z) → K 0 1 (mj_mm Z X)) (h0 : ¬ md_at Z r (mj_nt Z) → K 0 0 (mj_mm Z X)) : mj_Cm 120 1 [.ref 0, .int r] (mj_mm Z X) K := by
  refine e120 ?_
  refine mj_down (P := fun k => ∀ x : Int32, ((x = 1 ∧ md_at Z r k) ∨ (x = 0 ∧ ¬ md_at Z r k)) → mj_W 1 120 1 4 [some (.ref 0), some (.int r), some (.int x), some (.int (nI k))] [] (mj_mm Z X) 0 K) (mj_nt Z) ?_ ?_ 0 (Or.inr ⟨rfl, fun ⟨t, ht, _⟩ => absurd ht (Nat.not_lt_zero t)⟩)
  · intro x hx
    refine t120_4 ⟨fun _ => ?_, fun c => absurd (mj_te h.s rfl) c⟩
    rcases hx with ⟨rfl, z⟩ | ⟨rfl, z⟩
    · rw [mj_nb1]; exact h1 z
    · rw [mj_nb0]; exact h0 z
  · intro k hk ih x hx
    have vt := mj_qt h.s hk
    have ct := mj_qtc h.s hk
    have no : ¬ md_at Z r k → ¬ (0 < Z 31 k ∧ Z 29 k = r) → mj_W 1 120 1 4 [some (.ref 0), some (.int r), some (.int 0), some (.int (nI k + 1))] [] (mj_mm Z X) 0 K := by
      intro c c2
      rw [nI_1]
      refine ih 0 (Or.inr ⟨rfl, fun ⟨t, ht, z⟩ => ?_⟩)
      by_cases e : t = k
      · subst e; exact c2 z
      · exact c ⟨t, by omega, z⟩
    have yes : md_at Z r (k + 1) → mj_W 1 120 1 4 [some (.ref 0), some (.int r), some (.int 1), some (.int (nI k + 1))] [] (mj_mm Z X) 0 K := by
      intro c
      rw [nI_1]
      exact ih 1 (Or.inl ⟨rfl, c⟩)
    refine t120_4 ⟨fun c => (mj_ts h.s hk c).elim, fun _ => ⟨fun c => ?_, fun c => ?_⟩⟩
    · rcases hx with ⟨rfl, t, ht, z⟩ | ⟨rfl, z⟩
      · exact yes ⟨t, by omega, z⟩
      · exact absurd rfl c
    · rcases hx with ⟨rfl, z⟩ | ⟨rfl, z⟩
      · exact absurd c (by decide)
      · simp only [mj_rT0 vt, mj_wT0 vt, eq_true (mj_vT0 vt), mj_rT1 vt, mj_wT1 vt, eq_true (mj_vT1 vt), mj_rT2 vt, mj_wT2 vt, eq_true (mj_vT2 vt), mj_rT3 vt, mj_wT3 vt, eq_true (mj_vT3 vt), mj_rT4 vt, mj_wT4 vt, eq_true (mj_vT4 vt), mj_rT5 vt, mj_wT5 vt, eq_true (mj_vT5 vt), ct, true_and]
        exact ⟨fun c2 => no z (fun y => c2 y.2), fun c2 => ⟨fun c3 => no z (fun y => md_31.mp y.1 c3), fun c3 => yes ⟨k, by omega, md_31.mpr c3, c2⟩⟩⟩
abbrev md_ft (Z : mj_M) (r al g sp st : Int32) : Prop := Z 2 r.toNatClampNeg = 2 ∧ Z 2 g.toNatClampNeg = 0 ∧ md_rg al 0 20 ∧ md_rg sp 0 99 ∧ md_rg st 1 9
abbrev md_pt (Z : mj_M) (r : Int32) : Prop := mj_nt Z < 12 ∧ ¬ md_at Z r (mj_nt Z)
theorem md_pl_n (h : mj_Iv Z) {r : Nat} (hr : r < mj_nr Z) (h2 : ¬ Z 2 r = 0) : mj_pl Z r = nI ((Z 3 r).toInt.toNat - (mj_ct Z r 0 + mj_ct Z r 1)) := by
  obtain ⟨b1, b2, b3⟩ := h.b r hr
  have b3' := b3 h2
  obtain ⟨l1, l2⟩ := h.s.2.2.2.2.1 r hr
  have c1 : mj_ct Z r 0 ≤ 120 := Nat.le_trans (mj_cb_le _ _) (mj_S_P h.s).1
  have c2 : mj_ct Z r 1 ≤ 120 := Nat.le_trans (mj_cb_le _ _) (mj_S_P h.s).1
  have n0 := nI_toInt (show mj_ct Z r 0 < 2 ^ 31 by omega)
  have n1 := nI_toInt (show mj_ct Z r 1 < 2 ^ 31 by omega)
  have e1 : (Z 3 r - nI (mj_ct Z r 0)).toInt = (Z 3 r).toInt - mj_ct Z r 0 := by
    rw [fb_subI (by omega) (by omega), n0]
  unfold mj_pl
  rw [if_neg h2, mj_eq, fb_subI (by omega) (by omega), e1, n1, nI_toInt (by omega)]
  omega
theorem md_less {M : mj_M} {a b : Nat} (ha : a < 2 ^ 31) (hb : b < 2 ^ 31) : f121 M (nI a) (nI b) = nI (min a b) := by
  unfold f121
  by_cases c : b ≤ a
  · rw [if_pos (nI_le c ha), show min a b = b by omega]
  · rw [if_neg (nI_ge (by omega) hb), show min a b = a by omega]
theorem mq_train (h : mj_Ia Z) {r al g sp st : Int32} (k1 : ¬ md_kn Z r g → ∀ X', X' 0 5 = 1 → K 0 0 (mj_mm Z X')) (k2 : md_kn Z r g → ¬ md_ft Z r al g sp st → ∀ X', X' 0 5 = 2 → K 0 0 (mj_mm Z X')) (k3 : md_kn Z r g → md_ft Z r al g sp st → ¬ md_pt Z r → ∀ X', X' 0 5 = 3 → K 0 0 (mj_mm Z X')) (k0 : md_kn Z r g → md_ft Z r al g sp st → md_pt Z r → ∀ X', X' 0 5 = 0 → K 0 (nI (mj_nt Z)) (mj_mm (md_train r (nI (md_its Z r.toNatClampNeg al.toNatClampNeg)) sp st (md_als r g (md_its Z r.toNatClampNeg al.toNatClampNeg) Z)) X')) : mj_Cm 122 5 [.ref 0, .int r, .int al, .int g, .int sp, .int st] (mj_mm Z X) K := by
  obtain ⟨hP, eP⟩ := mj_S_P h.1.1.s
  obtain ⟨hT, eT⟩ := mj_S_T h.1.1.s
  have hR := mj_S_R h.1.1.s
  have bb : (12 ≤ Z 28 0) ↔ ¬ mj_nt Z < 12 := by
    rw [eT]
    exact ⟨fun z y => nI_ge y (by decide) z, fun z => nI_le (a := 12) (by omega) (by omega)⟩
  have L : ∀ a b c : Int32, (a = 0 ↔ ¬ md_kn Z r g) → (b = 0 ↔ ¬ (md_kn Z r g ∧ md_ft Z r al g sp st)) → (c = 0 ↔ ¬ (md_kn Z r g ∧ md_pt Z r)) → ∀ o8 o9 o10, mj_Cm 93 1 [.ref 0, .int a, .int b, .int c] (mj_mm Z X) (mj_k 1 122 5 129 [some (.ref 0), some (.int r), some (.int al), some (.int g), some (.int sp), some (.int st), some (.int a), some (.int b), o8, o9, o10] [] 0 (some .boolean) K) := by
    intro a b c ha hb hc o8 o9 o10
    refine md_goes ha hb hc (fun c => t122_129 ⟨fun z => absurd rfl z, fun _ => k1 c _ (md_x05 _ _)⟩) (fun c c2 => t122_129 ⟨fun z => absurd rfl z, fun _ => k2 c (fun z => c2 ⟨c, z⟩) _ (md_x05 _ _)⟩) (fun c c2 c3 => t122_129 ⟨fun z => absurd rfl z, fun _ => k3 c c2.2 (fun z => c3 ⟨c, z⟩) _ (md_x05 _ _)⟩) (fun c c2 c3 => t122_129 ⟨fun _ => ?_, fun z => absurd z (by decide)⟩)
    have k := k0 c c2.2 c3.2 (mj_u X 0 5 0) (md_x05 _ _)
    obtain ⟨er, hr0⟩ := mj_vin c.1
    obtain ⟨f1, f2, f3, f4, f5⟩ := c2.2
    have g1 := f3.1
    have g2 := f3.2
    have i20 : (20 : Int32).toInt = 20 := by decide
    have i99 : (99 : Int32).toInt = 99 := by decide
    rw [mj_lt, md_0I] at g1
    rw [mj_lt, i20] at g2
    have eal : al = nI al.toNatClampNeg := mj_toN (by omega)
    have hal : al.toNatClampNeg ≤ 20 := by rw [mj_clN]; omega
    have s1 := f4.1
    have s2 := f4.2
    rw [mj_lt, md_0I] at s1
    rw [mj_lt, i99] at s2
    generalize r.toNatClampNeg = r0 at er hr0 f1 k
    generalize al.toNatClampNeg = w at eal hal k
    subst er
    subst eal
    have e120 : (120 : Int32) - nI (mj_np Z) = nI (120 - mj_np Z) := by
      rw [show (120 : Int32) = nI ((120 - mj_np Z) + mj_np Z) by rw [show 120 - mj_np Z + mj_np Z = 120 by omega]; rfl, ← nI_add]
      grind
    have l2 := (h.1.1.s.2.2.2.2.1 r0 hr0).2
    refine sp115 h.1.1.s hr0 ?_
    rw [md_pl_n h.1.1 hr0 (by rw [f1]; decide)]
    refine t122_140 ?_
    have vt : vp_in (Z 28 0) 12 := by rw [eT]; exact vp_in_nI c3.2.1 (by decide)
    simp only [mj_rT0 vt, mj_wT0 vt, eq_true (mj_vT0 vt), mj_rT1 vt, mj_wT1 vt, eq_true (mj_vT1 vt), mj_rT2 vt, mj_wT2 vt, eq_true (mj_vT2 vt), mj_rT3 vt, mj_wT3 vt, eq_true (mj_vT3 vt), mj_rT4 vt, mj_wT4 vt, eq_true (mj_vT4 vt), mj_rT5 vt, mj_wT5 vt, eq_true (mj_vT5 vt), mj_rS1236, mj_wS1236, mj_rS1237, mj_wS1237, mj_rS1238, mj_wS1238, mj_rS1239, mj_wS1239, mj_rS1240, mj_wS1240, mj_rS1241, mj_wS1241, true_and]
    have r20 : Z 20 0 = nI (mj_np Z) := eP
    rw [r20, e120, md_less (by omega) (by omega), md_less (by omega) (by omega)]
    have eI : min w (min ((Z 3 r0).toInt.toNat - (mj_ct Z r0 0 + mj_ct Z r0 1)) (120 - mj_np Z)) = md_its Z r0 w := by
      unfold md_its; omega
    rw [eI]
    have hle : md_its Z r0 w ≤ 20 := by unfold md_its; omega
    have hI : mj_Ia (md_train (nI r0) (nI (md_its Z r0 w)) sp st Z) := md_train_I h c3.2.1 c.1 (by omega) (by omega)
    show mj_W 1 122 5 238 [some (.ref 0), some (.int (nI r0)), some (.int (nI w)), some (.int g), some (.int sp), some (.int st), some (.int a), some (.int b), some (.int (nI (md_its Z r0 w))), some (.int (6 * Z 28 0)), some (.int 0)] [] (mj_mm (md_train (nI r0) (nI (md_its Z r0 w)) sp st Z) (mj_u X 0 5 0)) 0 K
    have eits : md_its (md_train (nI r0) (nI (md_its Z r0 w)) sp st Z) r0 w = md_its Z r0 w := rfl
    rw [← md_train_als] at k
    have e28 : (md_als (nI r0) g (md_its Z r0 w) (md_train (nI r0) (nI (md_its Z r0 w)) sp st Z)) 28 0 - 1 = nI (mj_nt Z) := by
      rw [(md_als_k (w := w) hI hr0 f1 c.2 f2 (md_its Z r0 w) (by rw [eits]; omega)).2.2.2.2 28 (by omega)]
      show mj_u Z 28 0 (Z 28 0 + 1) 28 0 - 1 = _
      rw [mj_u_at, if_pos ⟨rfl, rfl⟩, eT, nI_1]
      exact nI_pred _
    have hr0B : r0 < mj_nr (md_train (nI r0) (nI (md_its Z r0 w)) sp st Z) := hr0
    have f1B : md_train (nI r0) (nI (md_its Z r0 w)) sp st Z 2 r0 = 2 := f1
    have f2B : md_train (nI r0) (nI (md_its Z r0 w)) sp st Z 2 g.toNatClampNeg = 0 := f2
    have cB : vp_in g (mj_nr (md_train (nI r0) (nI (md_its Z r0 w)) sp st Z)) := c.2
    generalize md_train (nI r0) (nI (md_its Z r0 w)) sp st Z = B at hI eits k e28 hr0B f1B f2B cB ⊢
    refine mj_down (P := fun k => mj_W 1 122 5 238 [some (.ref 0), some (.int (nI r0)), some (.int (nI w)), some (.int g), some (.int sp), some (.int st), some (.int a), some (.int b), some (.int (nI (md_its Z r0 w))), some (.int (6 * Z 28 0)), some (.int (nI k))] [] (mj_mm (md_als (nI r0) g k B) (mj_u X 0 5 0)) 0 K) (md_its Z r0 w) ?_ ?_
    · refine t122_238 ⟨fun _ => ?_, fun c => absurd (nI_le (Nat.le_refl _) (by omega)) c⟩
      show K 0 (md_als (nI r0) g (md_its Z r0 w) B 28 0 - 1) _
      rw [e28]
      exact k
    · intro n hn ih
      obtain ⟨i1, i2, i3, i4, i5⟩ := md_als_k (w := w) hI hr0B f1B cB f2B n (by rw [eits]; omega)
      have ih' : mj_W 1 122 5 238 [some (.ref 0), some (.int (nI r0)), some (.int (nI w)), some (.int g), some (.int sp), some (.int st), some (.int a), some (.int b), some (.int (nI (md_its Z r0 w))), some (.int (6 * Z 28 0)), some (.int (nI (n + 1)))] [] (mj_mm (md_add (nI r0) g (md_b 0) (md_b 0) (-1) (md_als (nI r0) g n B)) (mj_u X 0 5 0)) 0 K := ih
      have hn' := hn
      rw [← eits] at hn'
      unfold md_its at hn'
      generalize md_als (nI r0) g n B = A at i1 i2 i3 i4 i5 ih' ⊢
      have hnr : mj_nr A = mj_nr B := by unfold mj_nr; rw [i5 1 (by omega)]
      rw [← nI_1] at ih'
      refine t122_238 ⟨fun c => absurd c (nI_ge hn (by omega)), fun _ => ?_⟩
      refine mq_add i1 (by omega) (by omega) (by rw [hnr]; exact cB) (Or.inr ?_) (t122_254 ih')
      rw [i3, i4, i5 3 (by omega)]
      omega
  have LF : ∀ b : Int32, md_kn Z r g → (b = 0 ↔ ¬ (md_kn Z r g ∧ md_ft Z r al g sp st)) → (12 ≤ Z 28 0 → mj_Cm 93 1 [.ref 0, .int 1, .int b, .int 0] (mj_mm Z X) (mj_k 1 122 5 129 [some (.ref 0), some (.int r), some (.int al), some (.int g), some (.int sp), some (.int st), some (.int 1), some (.int b), none, none, none] [] 0 (some .boolean) K)) ∧ (¬ 12 ≤ Z 28 0 → mj_Cm 120 1 [.ref 0, .int r] (mj_mm Z X) (mj_k 1 122 5 118 [some (.ref 0), some (.int r), some (.int al), some (.int g), some (.int sp), some (.int st), some (.int 1), some (.int b), none, none, none] [.int b, .int 1, .ref 0] 0 (some .boolean) K)) := by
    intro b yk hb
    refine ⟨fun z => L 1 b 0 (md_one _ yk) hb (md_zro _ (fun y => bb.mp z y.2.1)) _ _ _, fun z => mq_has h.1.1 (fun m => t122_118 ⟨fun _ => L 1 b 0 (md_one _ yk) hb (md_zro _ (fun y => y.2.2 m)) _ _ _, fun y => absurd y (by decide)⟩) (fun m => t122_118 ⟨fun y => absurd rfl y, fun _ => L 1 b 1 (md_one _ yk) hb (md_one _ ⟨yk, Classical.byContradiction (fun y => z (bb.mpr y)), m⟩) _ _ _⟩)⟩
  refine e122 ⟨fun c => ?_, fun c => ⟨fun c2 => ?_, fun c2 => ?_⟩⟩
  · have nk : ¬ md_kn Z r g := fun z => c ((mq_94 h.1.1.s.1 r).mpr z.1)
    exact L 0 0 0 (md_zro _ nk) (md_zro _ (fun z => nk z.1)) (md_zro _ (fun z => nk z.1)) _ _ _
  · have nk : ¬ md_kn Z r g := fun z => c2 ((mq_94 h.1.1.s.1 g).mpr z.2)
    exact L 0 0 0 (md_zro _ nk) (md_zro _ (fun z => nk z.1)) (md_zro _ (fun z => nk z.1)) _ _ _
  · have yk : md_kn Z r g := ⟨(mq_94 h.1.1.s.1 r).mp c, (mq_94 h.1.1.s.1 g).mp c2⟩
    have vr := mj_r10 h.1.1.s yk.1
    have vg := mj_r10 h.1.1.s yk.2
    simp only [mj_rR0 vr, mj_wR0 vr, eq_true (mj_vR0 vr), mj_rR1 vr, mj_wR1 vr, eq_true (mj_vR1 vr), mj_rR2 vr, mj_wR2 vr, eq_true (mj_vR2 vr), mj_rR3 vr, mj_wR3 vr, eq_true (mj_vR3 vr), mj_rR4 vr, mj_wR4 vr, eq_true (mj_vR4 vr), mj_rR0 vg, mj_wR0 vg, eq_true (mj_vR0 vg), mj_rR1 vg, mj_wR1 vg, eq_true (mj_vR1 vg), mj_rR2 vg, mj_wR2 vg, eq_true (mj_vR2 vg), mj_rR3 vg, mj_wR3 vg, eq_true (mj_vR3 vg), mj_rR4 vg, mj_wR4 vg, eq_true (mj_vR4 vg), true_and]
    refine ⟨fun c3 => LF 0 yk (md_zro _ (fun z => c3 z.2.1)), fun c3 => ⟨fun c4 => LF 0 yk (md_zro _ (fun z => c4 z.2.2.1)), fun c4 => ⟨fun c5 => LF 0 yk (md_zro _ (fun z => c5 z.2.2.2.1)), fun c5 => ⟨fun c6 => LF 0 yk (md_zro _ (fun z => c6 z.2.2.2.2.1)), fun c6 => ⟨fun c7 => LF 0 yk (md_zro _ (fun z => c7 z.2.2.2.2.2)), fun c7 => LF 1 yk (md_one _ ⟨yk, c3, c4, c5, c6, c7⟩)⟩⟩⟩⟩⟩
end MOG
