-- THE MODEL'S METHODS, F: what the calls ask and change
section MOF
variable {Z X : mj_M} {K : mj_K} {p t l : Nat}
theorem md_perm (Z : mj_M) (p q : Nat) (v21 v22 v23 v24 v40 v25 v26 v20 v27 v5 : Int32) : mj_u (mj_u (mj_u (mj_u (mj_u (mj_u (mj_u (mj_u (mj_u (mj_u Z 23 p v23) 24 p v24) 25 p v25) 40 p v40) 27 p v27) 20 0 v20) 22 p v22) 21 p v21) 26 p v26) 5 q v5 = mj_u (mj_u (mj_u (mj_u (mj_u (mj_u (mj_u (mj_u (mj_u (mj_u Z 21 p v21) 22 p v22) 23 p v23) 24 p v24) 40 p v40) 25 p v25) 26 p v26) 20 0 v20) 27 p v27) 5 q v5 := by
  rw [mj_uc _ _ _ (show 25 ≠ 40 by decide), mj_uc _ _ _ (show 27 ≠ 20 by decide), mj_uc _ _ _ (show 27 ≠ 22 by decide), mj_uc _ _ _ (show 27 ≠ 21 by decide), mj_uc _ _ _ (show 27 ≠ 26 by decide), mj_uc _ _ _ (show 20 ≠ 22 by decide), mj_uc _ _ _ (show 20 ≠ 21 by decide), mj_uc _ _ _ (show 20 ≠ 26 by decide), mj_uc _ _ _ (show 25 ≠ 22 by decide), mj_uc _ _ _ (show 25 ≠ 21 by decide), mj_uc _ _ _ (show 40 ≠ 22 by decide), mj_uc _ _ _ (show 40 ≠ 21 by decide), mj_uc _ _ _ (show 24 ≠ 22 by decide), mj_uc _ _ _ (show 24 ≠ 21 by decide), mj_uc _ _ _ (show 23 ≠ 22 by decide), mj_uc _ _ _ (show 23 ≠ 21 by decide), mj_uc _ _ _ (show 22 ≠ 21 by decide)]
theorem md_a5_T {c i : Nat} {v : Int32} (hc : 28 ≤ c ∧ c ≤ 34) (p : Nat) (r g ch kn gr now w cn cm : Int32) (Z : mj_M) : md_a5 p r g ch kn gr now w cn cm (mj_u Z c i v) = mj_u (md_a5 p r g ch kn gr now w cn cm Z) c i v := by
  unfold md_a5
  rw [mj_uc _ _ _ (show c ≠ 21 by omega), mj_uc _ _ _ (show c ≠ 22 by omega), mj_uc _ _ _ (show c ≠ 23 by omega), mj_uc _ _ _ (show c ≠ 24 by omega), mj_uc _ _ _ (show c ≠ 40 by omega), mj_uc _ _ _ (show c ≠ 25 by omega), mj_uc _ _ _ (show c ≠ 26 by omega), mj_uc _ _ _ (show c ≠ 20 by omega), mj_uc _ _ _ (show c ≠ 27 by omega), mj_uc _ _ _ (show c ≠ 5 by omega)]
theorem md_oA_T {c i : Nat} {v : Int32} (h : c ≠ 21 ∧ c ≠ 22 ∧ c ≠ 23 ∧ c ≠ 2 ∧ c ≠ 6) (p : Nat) (Z : mj_M) : mj_oA p (mj_u Z c i v) = mj_u (mj_oA p Z) c i v := by
  obtain ⟨h1, h2, h3, h4, h5⟩ := h
  unfold mj_oA
  rw [mj_u_ne _ _ _ h1.symm, mj_u_ne _ _ _ h2.symm, mj_u_ne _ _ _ h3.symm, mj_u_ne _ _ _ h4.symm, mj_u_ne _ _ _ h5.symm]
  split
  · rw [mj_uc _ _ _ h1, mj_uc _ _ _ h5]
  · rfl
theorem md_add_T {c i : Nat} {v : Int32} (hc : 28 ≤ c ∧ c ≤ 34) (r g ch kn gr : Int32) (Z : mj_M) : md_add r g ch kn gr (mj_u Z c i v) = mj_u (md_add r g ch kn gr Z) c i v := by
  have e0 : (mj_u Z c i v) 0 = Z 0 := mj_u_ne _ _ _ (by omega)
  have e20 : (mj_u Z c i v) 20 = Z 20 := mj_u_ne _ _ _ (by omega)
  have e5 : (mj_u Z c i v) 5 = Z 5 := mj_u_ne _ _ _ (by omega)
  have e2 : (mj_u Z c i v) 2 = Z 2 := mj_u_ne _ _ _ (by omega)
  have e8 : (mj_u Z c i v) 8 = Z 8 := mj_u_ne _ _ _ (by omega)
  have en : mj_np (mj_u Z c i v) = mj_np Z := by unfold mj_np; rw [e20]
  have ew : md_wt g (mj_u Z c i v) = md_wt g Z := by unfold md_wt; rw [e2, e8]
  unfold md_add md_a6
  rw [en, ew, e0, e20, e5, md_a5_T hc, md_oA_T (by omega)]
theorem md_add_28 (r g ch kn gr : Int32) (Z : mj_M) : md_add r g ch kn gr Z 28 = Z 28 := by
  unfold md_add
  rw [mj_oA_c _ _ (by decide) (by decide), md_a6_at _ _ _ _ _ _ 28 (by decide) (by decide) (by decide) (by decide) (by decide) (by decide) (by decide) (by decide) (by decide) (by decide)]
theorem md_train_add (r al sp st r' g ch kn gr : Int32) (Z : mj_M) : md_add r' g ch kn gr (md_train r al sp st Z) = md_train r al sp st (md_add r' g ch kn gr Z) := by
  have e := md_add_28 r' g ch kn gr Z
  have en : mj_nt (md_add r' g ch kn gr Z) = mj_nt Z := by unfold mj_nt; rw [e]
  unfold md_train
  rw [md_add_T (by omega), md_add_T (by omega), md_add_T (by omega), md_add_T (by omega), md_add_T (by omega), en, e]
theorem md_train_als (r al sp st r' g : Int32) (Z : mj_M) : ∀ k, md_als r' g k (md_train r al sp st Z) = md_train r al sp st (md_als r' g k Z)
  | 0 => rfl
  | k + 1 => by
    show md_add r' g 0 0 (-1) (md_als r' g k (md_train r al sp st Z)) = md_train r al sp st (md_add r' g 0 0 (-1) (md_als r' g k Z))
    rw [md_train_als r al sp st r' g Z k, md_train_add]
-- ranges, indices
theorem mq_94 (h : mj_In Z) (x : Int32) : p94 (mj_mm Z X) x ↔ vp_in x (mj_nr Z) := by
  have hI := h.1
  have e : (Z 1 0 - 1).toInt = (Z 1 0).toInt - 1 := by rw [fb_subI (by rw [md_1I]; omega) (by rw [md_1I]; omega), md_1I]
  have en : ((mj_nr Z : Nat) : Int) = (Z 1 0).toInt := by unfold mj_nr; rw [mj_clN]; omega
  show (¬ x < 0 ∧ ¬ (Z 1 0 - 1) < x) ↔ _
  rw [mj_vi, mj_lt, mj_lt, e, md_0I, en]
  omega
theorem mq_95 (h : mj_In Z) (x : Int32) : p95 (mj_mm Z X) x ↔ vp_in x (mj_nl Z) := by
  have hI := h.2.1
  have e : (Z 8 0 - 1).toInt = (Z 8 0).toInt - 1 := by rw [fb_subI (by rw [md_1I]; omega) (by rw [md_1I]; omega), md_1I]
  have en : ((mj_nl Z : Nat) : Int) = (Z 8 0).toInt := by unfold mj_nl; rw [mj_clN]; omega
  show (¬ x < 0 ∧ ¬ (Z 8 0 - 1) < x) ↔ _
  rw [mj_vi, mj_lt, mj_lt, e, md_0I, en]
  omega
theorem mq_96 (h : mj_S Z) (x : Int32) : p96 (mj_mm Z X) x ↔ vp_in x (mj_np Z) := by
  have hI := h.2.1
  have e : (Z 20 0 - 1).toInt = (Z 20 0).toInt - 1 := by rw [fb_subI (by rw [md_1I]; omega) (by rw [md_1I]; omega), md_1I]
  have en : ((mj_np Z : Nat) : Int) = (Z 20 0).toInt := by unfold mj_np; rw [mj_clN]; omega
  show (¬ x < 0 ∧ ¬ (Z 20 0 - 1) < x) ↔ _
  rw [mj_vi, mj_lt, mj_lt, e, md_0I, en]
  omega
abbrev md_rg (x a b : Int32) : Prop := ¬ x < a ∧ ¬ b < x
theorem mq_tr (h : mj_S Z) (x : Int32) : md_rg x 0 (Z 28 0 - 1) ↔ vp_in x (mj_nt Z) := by
  have hI := h.2.2.1
  have e : (Z 28 0 - 1).toInt = (Z 28 0).toInt - 1 := by rw [fb_subI (by rw [md_1I]; omega) (by rw [md_1I]; omega), md_1I]
  have en : ((mj_nt Z : Nat) : Int) = (Z 28 0).toInt := by unfold mj_nt; rw [mj_clN]; omega
  show (¬ x < 0 ∧ ¬ (Z 28 0 - 1) < x) ↔ _
  rw [mj_vi, mj_lt, mj_lt, e, md_0I, en]
  omega
/-- a call is gone into, or not -/
theorem md_goes {A B C : Prop} {a b c : Int32} (ha : a = 0 ↔ ¬ A) (hb : b = 0 ↔ ¬ B) (hc : c = 0 ↔ ¬ C)
    (k1 : ¬ A → K 0 0 (mj_mm Z (mj_u X 0 5 1))) (k2 : A → ¬ B → K 0 0 (mj_mm Z (mj_u X 0 5 2))) (k3 : A → B → ¬ C → K 0 0 (mj_mm Z (mj_u X 0 5 3))) (k0 : A → B → C → K 0 1 (mj_mm Z (mj_u X 0 5 0))) : mj_Cm 93 1 [.ref 0, .int a, .int b, .int c] (mj_mm Z X) K := by
  refine sp93 ?_
  rw [mj_mm_wo _ _ _ _ (by decide)]
  by_cases e1 : a = 0
  · rw [show mj_gc a b c = 1 by unfold mj_gc; rw [if_pos e1], mj_bi_f (by decide)]
    exact k1 (ha.mp e1)
  · have A' : A := Classical.byContradiction (fun z => e1 (ha.mpr z))
    by_cases e2 : b = 0
    · rw [show mj_gc a b c = 2 by unfold mj_gc; rw [if_neg e1, if_pos e2], mj_bi_f (by decide)]
      exact k2 A' (hb.mp e2)
    · have B' : B := Classical.byContradiction (fun z => e2 (hb.mpr z))
      by_cases e3 : c = 0
      · rw [show mj_gc a b c = 3 by unfold mj_gc; rw [if_neg e1, if_neg e2, if_pos e3], mj_bi_f (by decide)]
        exact k3 A' B' (hc.mp e3)
      · have C' : C := Classical.byContradiction (fun z => e3 (hc.mpr z))
        rw [show mj_gc a b c = 0 by unfold mj_gc; rw [if_neg e1, if_neg e2, if_neg e3], mj_bi_t rfl]
        exact k0 A' B' C'
theorem md_one (P : Prop) (h : P) : (1 : Int32) = 0 ↔ ¬ P := ⟨fun z => absurd z (by decide), fun z => absurd h z⟩
theorem md_zro (P : Prop) (h : ¬ P) : (0 : Int32) = 0 ↔ ¬ P := ⟨fun _ => h, fun _ => rfl⟩
theorem md_tt : (1 : Int32) = 0 ↔ ¬ True := md_one True trivial
theorem md_x05 (X : mj_M) (v : Int32) : mj_u X 0 5 v 0 5 = v := by rw [mj_u_at, if_pos ⟨rfl, rfl⟩]
/-- a tree of tests -/
theorem md_bt {P Q : Prop} (h : P → Q) (g : ¬ P → Q) : Q := (Classical.em P).elim h g
theorem sp91 {M : mj_M} (hK : K 0 (M 0 5) M) : mj_Cm 91 1 [.ref 0] M K := e91 hK
abbrev md_fk (k lim : Int32) : Prop := md_rg k 0 2 ∧ md_rg lim 1 60
theorem mq_room (h : mj_Ia Z) {k lim : Int32} (k1 : ¬ md_fk k lim → ∀ X', X' 0 5 = 1 → K 0 0 (mj_mm Z X')) (k2 : md_fk k lim → ¬ mj_nr Z < 10 → ∀ X', X' 0 5 = 2 → K 0 0 (mj_mm Z X')) (k0 : md_fk k lim → mj_nr Z < 10 → ∀ X', X' 0 5 = 0 → K 0 (nI (mj_nr Z)) (mj_mm (md_room k lim Z) X')) : mj_Cm 100 2 [.ref 0, .int k, .int lim] (mj_mm Z X) K := by
  have hR := mj_S_R h.1.1.s
  have eR : Z 1 0 = nI (mj_nr Z) := mj_toN h.1.1.s.1.1.1
  have L : ∀ a b : Int32, (a = 0 ↔ ¬ md_fk k lim) → (b = 0 ↔ ¬ mj_nr Z < 10) → mj_Cm 93 1 [.ref 0, .int a, .int b, .int 1] (mj_mm Z X) (mj_k 1 100 2 47 [some (.ref 0), some (.int k), some (.int lim), none] [] 0 (some .boolean) K) := by
    intro a b ha hb
    refine md_goes ha hb md_tt (fun c => t100_47 ⟨fun z => absurd rfl z, fun _ => k1 c _ (md_x05 _ _)⟩) (fun c c2 => t100_47 ⟨fun z => absurd rfl z, fun _ => k2 c c2 _ (md_x05 _ _)⟩) (fun _ _ c => absurd trivial c) (fun c c2 _ => t100_47 ⟨fun _ => ?_, fun z => absurd z (by decide)⟩)
    have vr : vp_in (Z 1 0) 10 := by rw [eR]; exact vp_in_nI c2 (by decide)
    simp only [mj_rR0 vr, mj_wR0 vr, eq_true (mj_vR0 vr), mj_rR1 vr, mj_wR1 vr, eq_true (mj_vR1 vr), mj_rR2 vr, mj_wR2 vr, eq_true (mj_vR2 vr), mj_rR3 vr, mj_wR3 vr, eq_true (mj_vR3 vr), mj_rR4 vr, mj_wR4 vr, eq_true (mj_vR4 vr), mj_rS1236, mj_wS1236, mj_rS1237, mj_wS1237, mj_rS1238, mj_wS1238, mj_rS1239, mj_wS1239, mj_rS1240, mj_wS1240, mj_rS1241, mj_wS1241, true_and]
    have e := k0 c c2 (mj_u X 0 5 0) (md_x05 _ _)
    have e2 : Z 1 0 + 1 - 1 = nI (mj_nr Z) := by rw [eR, nI_1]; exact nI_pred _
    show K 0 (Z 1 0 + 1 - 1) (mj_mm (md_room k lim Z) (mj_u X 0 5 0))
    rw [e2]
    exact e
  have bb : (10 ≤ Z 1 0) ↔ ¬ mj_nr Z < 10 := by
    rw [eR]
    exact ⟨fun z y => nI_ge y (by decide) z, fun z => nI_le (a := 10) (by omega) (by omega)⟩
  refine e100 ⟨fun c => ?_, fun c => ⟨fun c2 => ?_, fun c2 => ?_⟩⟩
  · exact ⟨fun d => L 0 0 (md_zro _ (fun z => c z.1)) (md_zro _ (bb.mp d)), fun d => L 0 1 (md_zro _ (fun z => c z.1)) ⟨fun z => absurd z (by decide), fun z => absurd (bb.mpr z) d⟩⟩
  · exact ⟨fun d => L 0 0 (md_zro _ (fun z => c2 z.2)) (md_zro _ (bb.mp d)), fun d => L 0 1 (md_zro _ (fun z => c2 z.2)) ⟨fun z => absurd z (by decide), fun z => absurd (bb.mpr z) d⟩⟩
  · exact ⟨fun d => L 1 0 (md_one _ ⟨c, c2⟩) (md_zro _ (bb.mp d)), fun d => L 1 1 (md_one _ ⟨c, c2⟩) ⟨fun z => absurd z (by decide), fun z => absurd (bb.mpr z) d⟩⟩
-- flags of links
def md_b (x : Int32) : Int32 := if x = 0 then 0 else 1
theorem md_b_bit (x : Int32) : mj_bit (md_b x) := by
  unfold md_b
  split
  · exact Or.inl rfl
  · exact Or.inr rfl
theorem md_bi_0 {P : Prop} [Decidable P] {Q : Prop} (h : P ↔ Q) : mj_bi P = 0 ↔ ¬ Q := by
  rw [mj_bi0, h]
theorem mq_close (h : mj_Ia Z) {x b : Int32} (k1 : ¬ vp_in x (mj_nl Z) → ∀ X', X' 0 5 = 1 → K 0 0 (mj_mm Z X')) (k0 : ∀ l, l < mj_nl Z → x = nI l → ∀ X', X' 0 5 = 0 → K 0 (Z 16 l) (mj_mm (mj_u Z 16 l (md_b b)) X')) : mj_Cm 102 3 [.ref 0, .int x, .int b] (mj_mm Z X) K := by
  refine e102 (md_goes (md_bi_0 (mq_95 h.1.1.s.1 x)) md_tt md_tt (fun c => t102_11 ⟨fun z => absurd rfl z, fun _ => k1 c _ (md_x05 _ _)⟩) (fun _ c => absurd trivial c) (fun _ _ c => absurd trivial c) (fun c _ _ => t102_11 ⟨fun _ => ?_, fun z => absurd z (by decide)⟩))
  obtain ⟨e, hl⟩ := mj_vin c
  have k := k0 _ hl e (mj_u X 0 5 0) (md_x05 _ _)
  have vl : vp_in x 14 := mj_vmono c (mj_S_L h.1.1.s)
  have b16 := (h.1.1.s.2.2.2.2.2.1 _ hl).1
  simp only [mj_rL0 vl, mj_wL0 vl, eq_true (mj_vL0 vl), mj_rL1 vl, mj_wL1 vl, eq_true (mj_vL1 vl), mj_rL2 vl, mj_wL2 vl, eq_true (mj_vL2 vl), mj_rL3 vl, mj_wL3 vl, eq_true (mj_vL3 vl), mj_rL4 vl, mj_wL4 vl, eq_true (mj_vL4 vl), mj_rL5 vl, mj_wL5 vl, eq_true (mj_vL5 vl), mj_rL6 vl, mj_wL6 vl, eq_true (mj_vL6 vl), mj_rL7 vl, mj_wL7 vl, eq_true (mj_vL7 vl), mj_rL8 vl, mj_wL8 vl, eq_true (mj_vL8 vl), mj_rL9 vl, mj_wL9 vl, eq_true (mj_vL9 vl), mj_rL10 vl, mj_wL10 vl, eq_true (mj_vL10 vl), true_and]
  unfold md_b at k
  refine ⟨fun c2 => ?_, fun c2 => ?_⟩
  · have z : Z 16 x.toNatClampNeg = 0 := Classical.byContradiction (fun y => c2 ((mj_bit1 b16).mpr y))
    rw [z] at k
    refine ⟨fun c3 => ?_, fun c3 => ?_⟩
    · rw [if_pos c3] at k; exact k
    · rw [if_neg c3] at k; exact k
  · rw [c2] at k
    refine ⟨fun c3 => ?_, fun c3 => ?_⟩
    · rw [if_pos c3] at k; exact k
    · rw [if_neg c3] at k; exact k
theorem mq_ann (h : mj_Ia Z) (k0 : ∀ X', X' 0 5 = 0 → K 0 (nI (mj_cb (fun l => decide (¬ Z 16 l = 0)) (mj_nl Z))) (mj_mm (md_ann Z) X')) : mj_Cm 103 2 [.ref 0] (mj_mm Z X) K := by
  refine e103 ?_
  rw [mj_mm_wo _ _ _ _ (by decide)]
  refine mj_down (P := fun k => mj_W 1 103 2 9 [some (.ref 0), some (.int (nI (mj_cb (fun l => decide (¬ Z 16 l = 0)) k))), some (.int (nI k))] [] (mj_mm (mj_lo md_an1 k Z) (mj_u X 0 5 0)) 0 K) (mj_nl Z) ?_ ?_
  · obtain ⟨i1, i2, i3⟩ := md_ann_k h (mj_nl Z) (Nat.le_refl _)
    exact t103_9 ⟨fun _ => k0 _ (md_x05 _ _), fun c => absurd (mj_lle i1.1.1.s i2.symm) c⟩
  · intro k hk ih
    obtain ⟨i1, i2, i3⟩ := md_ann_k h k (by omega)
    have ih' : mj_W 1 103 2 9 [some (.ref 0), some (.int (nI (mj_cb (fun l => decide (¬ Z 16 l = 0)) (k + 1)))), some (.int (nI (k + 1)))] [] (mj_mm (mj_u (mj_lo md_an1 k Z) 17 k (mj_lo md_an1 k Z 16 k)) (mj_u X 0 5 0)) 0 K := ih
    have e : mj_cb (fun l => decide (¬ Z 16 l = 0)) (k + 1) = mj_cb (fun l => decide (¬ Z 16 l = 0)) k + (if decide (¬ Z 16 k = 0) = true then 1 else 0) := rfl
    generalize mj_lo md_an1 k Z = A at i1 i2 i3 ih' ⊢
    have hkA : k < mj_nl A := by omega
    have hc := mj_qlc i1.1.1.s hkA
    have hx := mj_ql i1.1.1.s hkA
    have b16 := (i1.1.1.s.2.2.2.2.2.1 k hkA).1
    rw [e, ← nI_1 k] at ih'
    refine t103_9 ⟨fun c => (mj_lls i1.1.1.s hkA c).elim, fun _ => ?_⟩
    simp only [mj_rL0 hx, mj_wL0 hx, eq_true (mj_vL0 hx), mj_rL1 hx, mj_wL1 hx, eq_true (mj_vL1 hx), mj_rL2 hx, mj_wL2 hx, eq_true (mj_vL2 hx), mj_rL3 hx, mj_wL3 hx, eq_true (mj_vL3 hx), mj_rL4 hx, mj_wL4 hx, eq_true (mj_vL4 hx), mj_rL5 hx, mj_wL5 hx, eq_true (mj_vL5 hx), mj_rL6 hx, mj_wL6 hx, eq_true (mj_vL6 hx), mj_rL7 hx, mj_wL7 hx, eq_true (mj_vL7 hx), mj_rL8 hx, mj_wL8 hx, eq_true (mj_vL8 hx), mj_rL9 hx, mj_wL9 hx, eq_true (mj_vL9 hx), mj_rL10 hx, mj_wL10 hx, eq_true (mj_vL10 hx), hc, true_and]
    show mj_W 1 103 2 9 [some (.ref 0), some (.int (nI (mj_cb (fun l => decide (¬ Z 16 l = 0)) k) + A 16 k)), some (.int (nI k + 1))] [] (mj_mm (mj_u A 17 k (A 16 k)) (mj_u X 0 5 0)) 0 K
    have z0 : ∀ x : Int32, x + 0 = x := fun x => by grind
    rcases b16 with z | z
    · have z' := z
      rw [i3] at z'
      rw [if_neg (fun y => (of_decide_eq_true y : ¬ Z 16 k = 0) z'), Nat.add_zero, z] at ih'
      rw [z, z0]
      exact ih'
    · have z' := z
      rw [i3] at z'
      rw [if_pos (decide_eq_true (by rw [z']; decide)), ← nI_1, z] at ih'
      rw [z]
      exact ih'
theorem mq_mov (h : mj_Ia Z) {x : Int32} (k0 : ¬ (vp_in x (mj_nl Z) ∧ Z 9 x.toNatClampNeg = 3) → K 0 0 (mj_mm Z X)) (k1 : vp_in x (mj_nl Z) ∧ Z 9 x.toNatClampNeg = 3 → K 0 1 (mj_mm Z X)) : mj_Cm 104 3 [.ref 0, .int x] (mj_mm Z X) K := by
  refine e104 ⟨fun c => k0 (fun z => c ((mq_95 h.1.1.s.1 x).mpr z.1)), fun c => ?_⟩
  have c' := (mq_95 h.1.1.s.1 x).mp c
  have vl : vp_in x 14 := mj_vmono c' (mj_S_L h.1.1.s)
  simp only [mj_rL0 vl, mj_wL0 vl, eq_true (mj_vL0 vl), mj_rL1 vl, mj_wL1 vl, eq_true (mj_vL1 vl), mj_rL2 vl, mj_wL2 vl, eq_true (mj_vL2 vl), mj_rL3 vl, mj_wL3 vl, eq_true (mj_vL3 vl), mj_rL4 vl, mj_wL4 vl, eq_true (mj_vL4 vl), mj_rL5 vl, mj_wL5 vl, eq_true (mj_vL5 vl), mj_rL6 vl, mj_wL6 vl, eq_true (mj_vL6 vl), mj_rL7 vl, mj_wL7 vl, eq_true (mj_vL7 vl), mj_rL8 vl, mj_wL8 vl, eq_true (mj_vL8 vl), mj_rL9 vl, mj_wL9 vl, eq_true (mj_vL9 vl), mj_rL10 vl, mj_wL10 vl, eq_true (mj_vL10 vl), true_and]
  exact ⟨fun c2 => k0 (fun z => c2 z.2), fun c2 => k1 ⟨c', c2⟩⟩
theorem mq_turn (h : mj_Ia Z) {x : Int32} (k1 : ¬ vp_in x (mj_nl Z) → ∀ X', X' 0 5 = 1 → K 0 0 (mj_mm Z X')) (k2 : ∀ l, l < mj_nl Z → x = nI l → ¬ Z 9 l = 3 → ∀ X', X' 0 5 = 2 → K 0 0 (mj_mm Z X')) (k0 : ∀ l, l < mj_nl Z → x = nI l → Z 9 l = 3 → ∀ X', X' 0 5 = 0 → K 0 (1 - Z 18 l) (mj_mm (mj_u Z 18 l (1 - Z 18 l)) X')) : mj_Cm 105 4 [.ref 0, .int x] (mj_mm Z X) K := by
  have L : ∀ b : Int32, (b = 0 ↔ ¬ (vp_in x (mj_nl Z) ∧ Z 9 x.toNatClampNeg = 3)) → mj_Cm 93 1 [.ref 0, .int (mj_bi (p95 (mj_mm Z X) x)), .int b, .int 1] (mj_mm Z X) (mj_k 1 105 4 15 [some (.ref 0), some (.int x)] [] 0 (some .boolean) K) := by
    intro b hb
    refine md_goes (md_bi_0 (mq_95 h.1.1.s.1 x)) hb md_tt (fun c => t105_15 ⟨fun z => absurd rfl z, fun _ => k1 c _ (md_x05 _ _)⟩) (fun c c2 => t105_15 ⟨fun z => absurd rfl z, fun _ => ?_⟩) (fun _ _ c => absurd trivial c) (fun c c2 _ => t105_15 ⟨fun _ => ?_, fun z => absurd z (by decide)⟩)
    · obtain ⟨e, hl⟩ := mj_vin c
      exact k2 _ hl e (fun z => c2 ⟨c, z⟩) _ (md_x05 _ _)
    · obtain ⟨e, hl⟩ := mj_vin c
      have k := k0 _ hl e c2.2 (mj_u X 0 5 0) (md_x05 _ _)
      have vl : vp_in x 14 := mj_vmono c (mj_S_L h.1.1.s)
      have b18 := (h.1.1.s.2.2.2.2.2.1 _ hl).2.2.1
      simp only [mj_rL0 vl, mj_wL0 vl, eq_true (mj_vL0 vl), mj_rL1 vl, mj_wL1 vl, eq_true (mj_vL1 vl), mj_rL2 vl, mj_wL2 vl, eq_true (mj_vL2 vl), mj_rL3 vl, mj_wL3 vl, eq_true (mj_vL3 vl), mj_rL4 vl, mj_wL4 vl, eq_true (mj_vL4 vl), mj_rL5 vl, mj_wL5 vl, eq_true (mj_vL5 vl), mj_rL6 vl, mj_wL6 vl, eq_true (mj_vL6 vl), mj_rL7 vl, mj_wL7 vl, eq_true (mj_vL7 vl), mj_rL8 vl, mj_wL8 vl, eq_true (mj_vL8 vl), mj_rL9 vl, mj_wL9 vl, eq_true (mj_vL9 vl), mj_rL10 vl, mj_wL10 vl, eq_true (mj_vL10 vl), true_and]
      have r : mj_u Z 18 x.toNatClampNeg (1 - Z 18 x.toNatClampNeg) 18 x.toNatClampNeg = 1 - Z 18 x.toNatClampNeg := by rw [mj_u_at, if_pos ⟨rfl, rfl⟩]
      rw [r]
      rcases b18 with z | z
      · rw [z] at k ⊢
        exact ⟨fun y => absurd (by decide) y, fun _ => k⟩
      · rw [z] at k ⊢
        exact ⟨fun _ => k, fun y => absurd y (by decide)⟩
  refine e105 (mq_mov h (fun c => t105_11 (L 0 (md_zro _ c))) (fun c => t105_11 (L 1 (md_one _ c))))
theorem mq_stop (h : mj_Ia Z) {x b : Int32} (k1 : ¬ vp_in x (mj_nl Z) → ∀ X', X' 0 5 = 1 → K 0 0 (mj_mm Z X')) (k2 : ∀ l, l < mj_nl Z → x = nI l → ¬ Z 9 l = 3 → ∀ X', X' 0 5 = 2 → K 0 0 (mj_mm Z X')) (k0 : ∀ l, l < mj_nl Z → x = nI l → Z 9 l = 3 → ∀ X', X' 0 5 = 0 → K 0 (Z 19 l) (mj_mm (mj_u Z 19 l (md_b b)) X')) : mj_Cm 106 4 [.ref 0, .int x, .int b] (mj_mm Z X) K := by
  have L : ∀ b1 : Int32, (b1 = 0 ↔ ¬ (vp_in x (mj_nl Z) ∧ Z 9 x.toNatClampNeg = 3)) → mj_Cm 93 1 [.ref 0, .int (mj_bi (p95 (mj_mm Z X) x)), .int b1, .int 1] (mj_mm Z X) (mj_k 1 106 4 15 [some (.ref 0), some (.int x), some (.int b), none] [] 0 (some .boolean) K) := by
    intro b1 hb
    refine md_goes (md_bi_0 (mq_95 h.1.1.s.1 x)) hb md_tt (fun c => t106_15 ⟨fun z => absurd rfl z, fun _ => k1 c _ (md_x05 _ _)⟩) (fun c c2 => t106_15 ⟨fun z => absurd rfl z, fun _ => ?_⟩) (fun _ _ c => absurd trivial c) (fun c c2 _ => t106_15 ⟨fun _ => ?_, fun z => absurd z (by decide)⟩)
    · obtain ⟨e, hl⟩ := mj_vin c
      exact k2 _ hl e (fun z => c2 ⟨c, z⟩) _ (md_x05 _ _)
    · obtain ⟨e, hl⟩ := mj_vin c
      have k := k0 _ hl e c2.2 (mj_u X 0 5 0) (md_x05 _ _)
      have vl : vp_in x 14 := mj_vmono c (mj_S_L h.1.1.s)
      have b19 := (h.1.1.s.2.2.2.2.2.1 _ hl).2.2.2.1
      simp only [mj_rL0 vl, mj_wL0 vl, eq_true (mj_vL0 vl), mj_rL1 vl, mj_wL1 vl, eq_true (mj_vL1 vl), mj_rL2 vl, mj_wL2 vl, eq_true (mj_vL2 vl), mj_rL3 vl, mj_wL3 vl, eq_true (mj_vL3 vl), mj_rL4 vl, mj_wL4 vl, eq_true (mj_vL4 vl), mj_rL5 vl, mj_wL5 vl, eq_true (mj_vL5 vl), mj_rL6 vl, mj_wL6 vl, eq_true (mj_vL6 vl), mj_rL7 vl, mj_wL7 vl, eq_true (mj_vL7 vl), mj_rL8 vl, mj_wL8 vl, eq_true (mj_vL8 vl), mj_rL9 vl, mj_wL9 vl, eq_true (mj_vL9 vl), mj_rL10 vl, mj_wL10 vl, eq_true (mj_vL10 vl), true_and]
      unfold md_b at k
      refine ⟨fun c2 => ?_, fun c2 => ?_⟩
      · have z : Z 19 x.toNatClampNeg = 0 := Classical.byContradiction (fun y => c2 ((mj_bit1 b19).mpr y))
        rw [z] at k
        refine ⟨fun c3 => ?_, fun c3 => ?_⟩
        · rw [if_pos c3] at k; exact k
        · rw [if_neg c3] at k; exact k
      · rw [c2] at k
        refine ⟨fun c3 => ?_, fun c3 => ?_⟩
        · rw [if_pos c3] at k; exact k
        · rw [if_neg c3] at k; exact k
  refine e106 (mq_mov h (fun c => t106_11 (L 0 (md_zro _ c))) (fun c => t106_11 (L 1 (md_one _ c))))
theorem mq_meter (h : mj_Ia Z) {x r : Int32} (k1 : ¬ vp_in x (mj_nl Z) → ∀ X', X' 0 5 = 1 → K 0 0 (mj_mm Z X')) (k2 : vp_in x (mj_nl Z) → ¬ md_rg r 0 9 → ∀ X', X' 0 5 = 2 → K 0 0 (mj_mm Z X')) (k0 : ∀ l, l < mj_nl Z → x = nI l → md_rg r 0 9 → ∀ X', X' 0 5 = 0 → K 0 (Z 13 l) (mj_mm (mj_u Z 13 l r) X')) : mj_Cm 107 3 [.ref 0, .int x, .int r] (mj_mm Z X) K := by
  refine e107 (md_goes (md_bi_0 (mq_95 h.1.1.s.1 x)) (md_bi_0 (Iff.rfl (a := md_rg r 0 9))) md_tt (fun c => t107_17 ⟨fun z => absurd rfl z, fun _ => k1 c _ (md_x05 _ _)⟩) (fun c c2 => t107_17 ⟨fun z => absurd rfl z, fun _ => k2 c c2 _ (md_x05 _ _)⟩) (fun _ _ c => absurd trivial c) (fun c c2 _ => t107_17 ⟨fun _ => ?_, fun z => absurd z (by decide)⟩))
  obtain ⟨e, hl⟩ := mj_vin c
  have k := k0 _ hl e c2 (mj_u X 0 5 0) (md_x05 _ _)
  have vl : vp_in x 14 := mj_vmono c (mj_S_L h.1.1.s)
  simp only [mj_rL0 vl, mj_wL0 vl, eq_true (mj_vL0 vl), mj_rL1 vl, mj_wL1 vl, eq_true (mj_vL1 vl), mj_rL2 vl, mj_wL2 vl, eq_true (mj_vL2 vl), mj_rL3 vl, mj_wL3 vl, eq_true (mj_vL3 vl), mj_rL4 vl, mj_wL4 vl, eq_true (mj_vL4 vl), mj_rL5 vl, mj_wL5 vl, eq_true (mj_vL5 vl), mj_rL6 vl, mj_wL6 vl, eq_true (mj_vL6 vl), mj_rL7 vl, mj_wL7 vl, eq_true (mj_vL7 vl), mj_rL8 vl, mj_wL8 vl, eq_true (mj_vL8 vl), mj_rL9 vl, mj_wL9 vl, eq_true (mj_vL9 vl), mj_rL10 vl, mj_wL10 vl, eq_true (mj_vL10 vl), true_and]
  exact k
end MOF
