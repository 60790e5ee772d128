-- THE MODEL'S METHODS, H: orders, seconds, what is asked
section MOH
variable {Z X : mj_M} {K : mj_K} {p t l : Nat}
theorem md_far_n (h : mj_In Z) {g a : Nat} {f : Nat → Int32} (hf : mj_far Z p g f) (ha : a < mj_nr Z) : f a = nI (mj_di Z (Z 24 p) (Z 40 p) a g) := by
  have cs := mj_D_cases (c := Z 24 p) (k := Z 40 p) h a g
  have e := hf a ha
  rw [mj_eq, e, nI_toInt (by rcases cs with q | q <;> omega)]
  rcases cs with q | q
  · rw [if_pos (by omega)]
  · rw [q]; decide
theorem md_od_1 (c : Z 21 p = 0 ∨ Z 21 p = 1) : md_od p Z = mj_u (mj_oA p (md_tk p Z)) 27 p 0 := by
  unfold md_od
  rw [if_pos c]
  have e : md_tk p (mj_u Z 27 p 0) = mj_u (md_tk p Z) 27 p 0 := by
    unfold md_tk
    rw [md_g_27]
    split
    · rfl
    · rw [mj_uc _ _ _ (show 27 ≠ 23 by decide)]
  rw [e, md_oA_T (by omega)]
theorem md_od_2 (c : ¬ (Z 21 p = 0 ∨ Z 21 p = 1)) : md_od p Z = mj_u Z 27 p 0 := by
  unfold md_od
  rw [if_neg c]
  unfold mj_oA
  exact if_neg (fun z => c (Or.inl z.1))
theorem mq_ord (h : mj_Ia Z) (hK : ∀ X', (∀ c, c ≠ 3 → X' c = X c) → K 0 (md_oc Z (mj_np Z)) (mj_mm (md_ord Z) X')) : mj_Cm 123 4 [.ref 0] (mj_mm Z X) K := by
  have hR := mj_S_R h.1.1.s
  refine e123 ?_
  simp only [mj_rS1236, mj_wS1236, mj_rS1237, mj_wS1237, mj_rS1238, mj_wS1238, mj_rS1239, mj_wS1239, mj_rS1240, mj_wS1240, mj_rS1241, mj_wS1241]
  refine mj_down (P := fun k => ∀ X', (∀ c, c ≠ 3 → X' c = X c) → ∀ o3 o4 o5, mj_W 1 123 4 13 [some (.ref 0), some (.int (md_oc Z k)), some (.int (nI k)), o3, o4, o5] [] (mj_mm (md_on Z k) X') 0 K) (mj_np Z) ?_ ?_ X (fun _ _ => rfl) none none none
  · intro X' x1 o3 o4 o5
    obtain ⟨i1, i2, i3, i4⟩ := md_on_I h (mj_np Z) (Nat.le_refl _)
    exact t123_13 ⟨fun _ => hK X' x1, fun c => absurd (mj_pe i1.1.1.s i2.symm) c⟩
  · intro k hk ih X' x1 o3 o4 o5
    obtain ⟨i1, i2, i3, i4⟩ := md_on_I h k (by omega)
    have ih' : ∀ X', (∀ c, c ≠ 3 → X' c = X c) → ∀ o3 o4 o5, mj_W 1 123 4 13 [some (.ref 0), some (.int (if md_on Z k 21 k = 0 ∨ md_on Z k 21 k = 1 then md_oc Z k + md_cg (md_on Z k) k else md_oc Z k)), some (.int (nI (k + 1))), o3, o4, o5] [] (mj_mm (md_od k (md_on Z k)) X') 0 K := ih
    have hnrA : mj_nr (md_on Z k) ≤ 10 := mj_S_R i1.1.1.s
    generalize md_on Z k = A at i1 i2 i3 i4 ih' hnrA ⊢
    have hkA : k < mj_np A := by omega
    have ya := mj_qv i1.1.1.s hkA
    have da := mj_qc i1.1.1.s hkA
    have st := (i1.1.1.a k hkA).1
    obtain ⟨a1, a2⟩ := mj_vin (i1.1.1.a k hkA).2.1
    have vr := mj_r10 i1.1.1.s (i1.1.1.a k hkA).2.1
    rw [← nI_1] at ih'
    refine t123_13 ⟨fun c => (mj_ps i1.1.1.s hkA c).elim, fun _ => ?_⟩
    simp only [mj_rP0 ya, mj_wP0 ya, eq_true (mj_vP0 ya), mj_rP1 ya, mj_wP1 ya, eq_true (mj_vP1 ya), mj_rP2 ya, mj_wP2 ya, eq_true (mj_vP2 ya), mj_rP3 ya, mj_wP3 ya, eq_true (mj_vP3 ya), mj_rP4 ya, mj_wP4 ya, eq_true (mj_vP4 ya), mj_rP5 ya, mj_wP5 ya, eq_true (mj_vP5 ya), mj_rP6 ya, mj_wP6 ya, eq_true (mj_vP6 ya), mj_rP7 ya, mj_wP7 ya, eq_true (mj_vP7 ya), da, true_and]
    refine ⟨fun c => ?_, fun c => ?_⟩
    · have c' : ¬ (A 21 k = 0 ∨ A 21 k = 1) := fun z => z.elim (fun y => by rw [y] at c; exact absurd c (by decide)) (fun y => by rw [y] at c; exact absurd c (by decide))
      rw [if_neg c', md_od_2 c'] at ih'
      exact ih' X' x1 _ _ _
    · have c' : A 21 k = 0 ∨ A 21 k = 1 := by
        rcases st with w | w | w | w
        · exact Or.inl w
        · exact Or.inr w
        · rw [w] at c; exact absurd (by decide) c
        · rw [w] at c; exact absurd (by decide) c
      rw [if_pos c', md_od_1 c'] at ih'
      obtain ⟨t1, t2⟩ := md_tk_I i1 hkA
      -- behind the search
      have fin : ∀ X', (∀ c, c ≠ 3 → X' c = X c) → ∀ x1 : Int32, x1 = md_oc Z k + md_cg A k → ∀ x3 x4 x5, mj_Cm 116 2 [.ref 0, .int (nI k)] (mj_mm (md_tk k A) X') (mj_k 1 123 4 177 [some (.ref 0), some (.int x1), some (.int (nI k)), some (.int x3), some (.int x4), some (.int x5)] [] 0 none K) := by
        intro X' y1 x1 e x3 x4 x5
        refine sp116 t1.1.1 (by omega) (t123_177 ?_)
        simp only [mj_rP0 ya, mj_wP0 ya, eq_true (mj_vP0 ya), mj_rP1 ya, mj_wP1 ya, eq_true (mj_vP1 ya), mj_rP2 ya, mj_wP2 ya, eq_true (mj_vP2 ya), mj_rP3 ya, mj_wP3 ya, eq_true (mj_vP3 ya), mj_rP4 ya, mj_wP4 ya, eq_true (mj_vP4 ya), mj_rP5 ya, mj_wP5 ya, eq_true (mj_vP5 ya), mj_rP6 ya, mj_wP6 ya, eq_true (mj_vP6 ya), mj_rP7 ya, mj_wP7 ya, eq_true (mj_vP7 ya), da, true_and]
        rw [e]
        exact ih' X' y1 _ _ _
      refine mj_down (P := fun j => ∀ X', (∀ c, c ≠ 3 → X' c = X c) → mj_W 1 123 4 44 [some (.ref 0), some (.int (md_oc Z k)), some (.int (nI k)), some (.int (md_ne A k j).1), some (.int (nI (md_ne A k j).2)), some (.int (nI j))] [] (mj_mm A X') 0 K) (mj_nr A) ?_ ?_ X' x1
      · intro X2 y1
        have z0 : ∀ x : Int32, x + 0 = x := fun x => by grind
        have fg := fin X2 y1
        unfold md_cg md_tk at fg
        refine t123_44 ⟨fun _ => ?_, fun c => absurd (mj_rre i1.1.1.s rfl) c⟩
        simp only [mj_rP0 ya, mj_wP0 ya, eq_true (mj_vP0 ya), mj_rP1 ya, mj_wP1 ya, eq_true (mj_vP1 ya), mj_rP2 ya, mj_wP2 ya, eq_true (mj_vP2 ya), mj_rP3 ya, mj_wP3 ya, eq_true (mj_vP3 ya), mj_rP4 ya, mj_wP4 ya, eq_true (mj_vP4 ya), mj_rP5 ya, mj_wP5 ya, eq_true (mj_vP5 ya), mj_rP6 ya, mj_wP6 ya, eq_true (mj_vP6 ya), mj_rP7 ya, mj_wP7 ya, eq_true (mj_vP7 ya), da, true_and]
        refine ⟨fun c => ⟨fun d => absurd c d, fun _ => ?_⟩, fun c => ⟨fun c2 => ⟨fun _ => ?_, fun d => absurd d c⟩, fun c2 => ⟨fun _ => ?_, fun d => absurd d c⟩⟩⟩
        · have c1 : md_g A k = -1 := c
          rw [if_pos c1, if_pos c1] at fg
          rw [mj_u_id rfl]
          exact fg _ rfl _ _ _
        · have c1 : ¬ md_g A k = -1 := c
          have c3 : md_g A k = A 23 k := c2
          rw [if_neg c1, if_neg c1, if_pos c3] at fg
          exact fg _ rfl _ _ _
        · have c1 : ¬ md_g A k = -1 := c
          have c3 : ¬ md_g A k = A 23 k := c2
          rw [if_neg c1, if_neg c1, if_neg c3] at fg
          exact fg _ rfl _ _ _
      · intro j hj ihj X2 y1
        have e : md_ne A k (j + 1) = if A 2 j = 0 ∧ mj_di A (A 24 k) (A 40 k) (A 22 k).toNatClampNeg j < (md_ne A k j).2 then (nI j, mj_di A (A 24 k) (A 40 k) (A 22 k).toNatClampNeg j) else md_ne A k j := rfl
        have vj := mj_qr i1.1.1.s hj
        have cj := mj_qrc i1.1.1.s hj
        have cs := mj_D_cases (c := A 24 k) (k := A 40 k) i1.1.1.s.1 (A 22 k).toNatClampNeg j
        have b2 : (md_ne A k j).2 ≤ 1000000 := by
          rcases md_ne_ok i1.1.1.s.1 k j (by omega) with q | ⟨i, q1, q2, q3⟩
          · omega
          · omega
        have b3 : mj_di A (A 24 k) (A 40 k) (A 22 k).toNatClampNeg j ≤ 1000000 := by rcases cs with q | q <;> omega
        rw [← nI_1] at ihj
        refine t123_44 ⟨fun c => (mj_rrs i1.1.1.s hj c).elim, fun _ => ?_⟩
        simp only [mj_rR0 vj, mj_wR0 vj, eq_true (mj_vR0 vj), mj_rR1 vj, mj_wR1 vj, eq_true (mj_vR1 vj), mj_rR2 vj, mj_wR2 vj, eq_true (mj_vR2 vj), mj_rR3 vj, mj_wR3 vj, eq_true (mj_vR3 vj), mj_rR4 vj, mj_wR4 vj, eq_true (mj_vR4 vj), cj, true_and]
        refine ⟨fun c => ?_, fun c => ?_⟩
        · rw [e, if_neg (fun z => c z.1)] at ihj
          exact ihj X2 y1
        · refine sp111 i1.1.1 hkA hj (fun X3 w1 w2 => t123_76 ?_)
          simp only [mj_rP0 ya, mj_wP0 ya, eq_true (mj_vP0 ya), mj_rP1 ya, mj_wP1 ya, eq_true (mj_vP1 ya), mj_rP2 ya, mj_wP2 ya, eq_true (mj_vP2 ya), mj_rP3 ya, mj_wP3 ya, eq_true (mj_vP3 ya), mj_rP4 ya, mj_wP4 ya, eq_true (mj_vP4 ya), mj_rP5 ya, mj_wP5 ya, eq_true (mj_vP5 ya), mj_rP6 ya, mj_wP6 ya, eq_true (mj_vP6 ya), mj_rP7 ya, mj_wP7 ya, eq_true (mj_vP7 ya), da, true_and]
          have e3 : mj_mm A X3 3 (A 22 k).toNatClampNeg = nI (mj_di A (A 24 k) (A 40 k) (A 22 k).toNatClampNeg j) := md_far_n i1.1.1.s.1 w2 a2
          have fr : ∀ c, c ≠ 3 → X3 c = X c := fun c hc => by rw [w1 c hc, y1 c hc]
          rw [e3, md_less (by omega) (by omega)]
          refine ⟨vr, fun c2 => ?_, fun c2 => ?_⟩
          · have c3 := (nI_leI (by omega) (by omega)).mp c2
            rw [e, if_neg (fun z => by have := z.2; omega)] at ihj
            rw [show min (md_ne A k j).2 (mj_di A (A 24 k) (A 40 k) (A 22 k).toNatClampNeg j) = (md_ne A k j).2 by omega]
            exact ihj X3 fr
          · have c3 : mj_di A (A 24 k) (A 40 k) (A 22 k).toNatClampNeg j < (md_ne A k j).2 := by
              rcases Nat.lt_or_ge (mj_di A (A 24 k) (A 40 k) (A 22 k).toNatClampNeg j) (md_ne A k j).2 with y | y
              · exact y
              · exact absurd (nI_le y (by omega)) c2
            rw [e, if_pos ⟨c, c3⟩] at ihj
            rw [show min (md_ne A k j).2 (mj_di A (A 24 k) (A 40 k) (A 22 k).toNatClampNeg j) = mj_di A (A 24 k) (A 40 k) (A 22 k).toNatClampNeg j by omega]
            exact ihj X3 fr
theorem mq_clear (h : mj_Ia Z) (hK : ∀ X', X' 0 5 = 0 → K 0 (md_oc Z (mj_np Z)) (mj_mm (md_ord Z) X')) : mj_Cm 124 5 [.ref 0] (mj_mm Z X) K := by
  refine e124 ?_
  rw [mj_mm_wo _ _ _ _ (by decide)]
  refine mq_ord h (fun X' x1 => t124_9 (hK X' ?_))
  rw [x1 0 (by decide)]
  exact md_x05 _ _
theorem mq_now (hK : ∀ X', X' 0 5 = 0 → K 0 (Z 0 5) (mj_mm Z X')) : mj_Cm 136 1 [.ref 0] (mj_mm Z X) K := by
  refine e136 ?_
  rw [mj_mm_wo _ _ _ _ (by decide)]
  exact hK _ (md_x05 _ _)
/-- so many seconds -/
noncomputable abbrev md_ss (n : Nat) (Z : mj_M) : mj_M := mj_lo (fun _ => mj_sec) n Z
theorem md_rgn {s : Int32} {a b : Int32} (h : md_rg s a b) (ha : 0 ≤ a.toInt) (hb : b.toInt ≤ 1000) : s = nI s.toNatClampNeg ∧ a.toInt ≤ (s.toNatClampNeg : Int) ∧ (s.toNatClampNeg : Int) ≤ b.toInt := by
  have h1 := h.1
  have h2 := h.2
  rw [mj_lt] at h1 h2
  refine ⟨mj_toN (by omega), ?_, ?_⟩ <;> rw [mj_clN] <;> omega
theorem mq_pass (h : mj_Ia Z) (hb : (Z 0 5).toInt + 60 ≤ 1000000) {s : Int32} (k1 : ¬ md_rg s 1 60 → ∀ X', X' 0 5 = 1 → K 0 0 (mj_mm Z X')) (k0 : md_rg s 1 60 → ∀ X', X' 0 5 = 0 → K 0 (md_ss s.toNatClampNeg Z 0 5) (mj_mm (md_ss s.toNatClampNeg Z) X')) : mj_Cm 135 6 [.ref 0, .int s] (mj_mm Z X) K := by
  refine e135 (md_goes (md_bi_0 (Iff.rfl (a := md_rg s 1 60))) md_tt md_tt (fun c => t135_13 ⟨fun z => absurd rfl z, fun _ => k1 c _ (md_x05 _ _)⟩) (fun _ c => absurd trivial c) (fun _ _ c => absurd trivial c) (fun c _ _ => t135_13 ⟨fun _ => ?_, fun z => absurd z (by decide)⟩))
  have k := k0 c
  obtain ⟨e, -, e2⟩ := md_rgn c (by decide) (by decide)
  have i60 : (60 : Int32).toInt = 60 := by decide
  rw [i60] at e2
  generalize s.toNatClampNeg = n at e e2 k
  subst e
  refine mj_down (P := fun j => ∀ X', X' 0 5 = 0 → mj_W 1 135 6 20 [some (.ref 0), some (.int (nI n)), some (.int (nI j))] [] (mj_mm (md_ss j Z) X') 0 K) n ?_ ?_ (mj_u X 0 5 0) (md_x05 _ _)
  · intro X' x1
    exact t135_20 ⟨fun _ => k X' x1, fun c => absurd (nI_le (Nat.le_refl n) (by omega)) c⟩
  · intro j hj ih X' x1
    obtain ⟨i1, i2, i3⟩ := mj_secs_I h (n := n) (by omega) j (by omega)
    refine t135_20 ⟨fun c => absurd c (nI_ge hj (by omega)), fun _ => sp134 i1.1 (by show (mj_lo (fun _ => mj_sec) j Z 0 5).toInt < 1000000; omega) (fun X2 y1 => t135_29 ?_)⟩
    rw [nI_1]
    exact ih X2 (by rw [y1 0 (by decide) (by decide) (by decide)]; exact x1)
def md_vR (Z : mj_M) (r : Nat) (w : Int32) : Int32 := if w = 0 then nI (mj_ct Z r 0) else if w = 1 then nI (mj_ct Z r 1) else if w = 2 then Z 7 r else if w = 3 then Z 5 r else Z 6 r
theorem md_w5 {w : Int32} (h : md_rg w 0 4) : w = 0 ∨ w = 1 ∨ w = 2 ∨ w = 3 ∨ w = 4 := by
  obtain ⟨e, -, e2⟩ := md_rgn h (by decide) (by decide)
  rw [show (4 : Int32).toInt = 4 by decide] at e2
  have c : w.toNatClampNeg = 0 ∨ w.toNatClampNeg = 1 ∨ w.toNatClampNeg = 2 ∨ w.toNatClampNeg = 3 ∨ w.toNatClampNeg = 4 := by omega
  rcases c with c | c | c | c | c <;> rw [c] at e
  · exact Or.inl e
  · exact Or.inr (Or.inl e)
  · exact Or.inr (Or.inr (Or.inl e))
  · exact Or.inr (Or.inr (Or.inr (Or.inl e)))
  · exact Or.inr (Or.inr (Or.inr (Or.inr e)))
theorem mq_ofRoom (h : mj_Ia Z) {x w : Int32} (k1 : ¬ vp_in x (mj_nr Z) → ∀ X', X' 0 5 = 1 → K 0 0 (mj_mm Z X')) (k2 : vp_in x (mj_nr Z) → ¬ md_rg w 0 4 → ∀ X', X' 0 5 = 2 → K 0 0 (mj_mm Z X')) (k0 : ∀ r, r < mj_nr Z → x = nI r → md_rg w 0 4 → ∀ X', X' 0 5 = 0 → K 0 (md_vR Z r w) (mj_mm Z X')) : mj_Cm 137 3 [.ref 0, .int x, .int w] (mj_mm Z X) K := by
  refine e137 (md_goes (md_bi_0 (mq_94 h.1.1.s.1 x)) (md_bi_0 (Iff.rfl (a := md_rg w 0 4))) md_tt (fun c => t137_16 ⟨fun z => absurd rfl z, fun _ => k1 c _ (md_x05 _ _)⟩) (fun c c2 => t137_16 ⟨fun z => absurd rfl z, fun _ => k2 c c2 _ (md_x05 _ _)⟩) (fun _ _ c => absurd trivial c) (fun c c2 _ => t137_16 ⟨fun _ => ?_, fun z => absurd z (by decide)⟩))
  obtain ⟨e, hr⟩ := mj_vin c
  have k := k0 _ hr e c2 (mj_u X 0 5 0) (md_x05 _ _)
  generalize x.toNatClampNeg = r at e hr k
  subst e
  have vr := mj_qr h.1.1.s hr
  have cr := mj_qrc h.1.1.s hr
  unfold md_vR at k
  refine ⟨fun w0 => ⟨fun w1 => ?_, fun w1 => ?_⟩, fun w0 => ?_⟩
  · rw [if_neg w0, if_neg w1] at k
    rcases md_w5 c2 with z | z | z | z | z
    · exact absurd z w0
    · exact absurd z w1
    · rw [z] at k ⊢
      rw [show (1114 : Int32) + 2 = 1116 by decide]
      simp only [mj_rR0 vr, mj_wR0 vr, eq_true (mj_vR0 vr), mj_rR1 vr, mj_wR1 vr, eq_true (mj_vR1 vr), mj_rR2 vr, mj_wR2 vr, eq_true (mj_vR2 vr), mj_rR3 vr, mj_wR3 vr, eq_true (mj_vR3 vr), mj_rR4 vr, mj_wR4 vr, eq_true (mj_vR4 vr), cr, true_and]
      exact k
    · rw [z] at k ⊢
      rw [show (1114 : Int32) + 3 = 1117 by decide]
      simp only [mj_rR0 vr, mj_wR0 vr, eq_true (mj_vR0 vr), mj_rR1 vr, mj_wR1 vr, eq_true (mj_vR1 vr), mj_rR2 vr, mj_wR2 vr, eq_true (mj_vR2 vr), mj_rR3 vr, mj_wR3 vr, eq_true (mj_vR3 vr), mj_rR4 vr, mj_wR4 vr, eq_true (mj_vR4 vr), cr, true_and]
      exact k
    · rw [z] at k ⊢
      rw [show (1114 : Int32) + 4 = 1118 by decide]
      simp only [mj_rR0 vr, mj_wR0 vr, eq_true (mj_vR0 vr), mj_rR1 vr, mj_wR1 vr, eq_true (mj_vR1 vr), mj_rR2 vr, mj_wR2 vr, eq_true (mj_vR2 vr), mj_rR3 vr, mj_wR3 vr, eq_true (mj_vR3 vr), mj_rR4 vr, mj_wR4 vr, eq_true (mj_vR4 vr), cr, true_and]
      exact k
  · rw [w1] at k
    exact sp114 h.1.1.s hr (t137_45 k)
  · rw [w0] at k
    exact sp114 h.1.1.s hr (t137_31 k)
noncomputable def md_vL (Z : mj_M) (l : Nat) (w : Int32) : Int32 := if w = 0 then Z 16 l else if w = 1 then Z 14 l else if w = 2 then Z 15 l else if w = 3 then nI (mj_cb (fun p => decide (mj_nl1 Z p = nI l)) (mj_np Z)) else mj_ra Z l
theorem mq_ofLink (h : mj_Ia Z) {x w : Int32} (k1 : ¬ vp_in x (mj_nl Z) → ∀ X', X' 0 5 = 1 → K 0 0 (mj_mm Z X')) (k2 : vp_in x (mj_nl Z) → ¬ md_rg w 0 4 → ∀ X', X' 0 5 = 2 → K 0 0 (mj_mm Z X')) (k0 : ∀ l, l < mj_nl Z → x = nI l → md_rg w 0 4 → ∀ X', X' 0 5 = 0 → K 0 (md_vL Z l w) (mj_mm Z X')) : mj_Cm 138 5 [.ref 0, .int x, .int w] (mj_mm Z X) K := by
  refine e138 (md_goes (md_bi_0 (mq_95 h.1.1.s.1 x)) (md_bi_0 (Iff.rfl (a := md_rg w 0 4))) md_tt (fun c => t138_16 ⟨fun z => absurd rfl z, fun _ => k1 c _ (md_x05 _ _)⟩) (fun c c2 => t138_16 ⟨fun z => absurd rfl z, fun _ => k2 c c2 _ (md_x05 _ _)⟩) (fun _ _ c => absurd trivial c) (fun c c2 _ => t138_16 ⟨fun _ => ?_, fun z => absurd z (by decide)⟩))
  obtain ⟨e, hl⟩ := mj_vin c
  have k := k0 _ hl e c2
  generalize x.toNatClampNeg = l at e hl k
  subst e
  have vl := mj_ql h.1.1.s hl
  have cl := mj_qlc h.1.1.s hl
  unfold md_vL at k
  have T : ∀ X', X' 0 5 = 0 → ∀ x3 x4 : Int32, (w = 3 → x3 = nI (mj_cb (fun p => decide (mj_nl1 Z p = nI l)) (mj_np Z))) → (¬ w = 0 → (¬ w = 1 → (¬ w = 2 → (¬ w = 3 → mj_Cm 108 2 [.ref 0, .int (nI l)] (mj_mm Z X') (mj_k 1 138 5 129 [some (.ref 0), some (.int (nI l)), some (.int w), some (.int x3), some (.int x4)] [] 0 (some .int) K)) ∧ (w = 3 → K 0 x3 (mj_mm Z X'))) ∧ (w = 2 → K 0 (Z 15 l) (mj_mm Z X'))) ∧ (w = 1 → K 0 (Z 14 l) (mj_mm Z X'))) ∧ (w = 0 → K 0 (Z 16 l) (mj_mm Z X')) := by
    intro X' hX x3 x4 h3
    have k' := k X' hX
    refine ⟨fun w0 => ⟨fun w1 => ⟨fun w2 => ⟨fun w3 => ?_, fun w3 => ?_⟩, fun w2 => ?_⟩, fun w1 => ?_⟩, fun w0 => ?_⟩
    · rw [if_neg w0, if_neg w1, if_neg w2, if_neg w3] at k'
      exact sp108 h.1.1.s hl (t138_129 k')
    · rw [if_neg w0, if_neg w1, if_neg w2, if_pos w3] at k'
      rw [h3 w3]
      exact k'
    · rw [if_neg w0, if_neg w1, if_pos w2] at k'
      exact k'
    · rw [if_neg w0, if_pos w1] at k'
      exact k'
    · rw [if_pos w0] at k'
      exact k'
  by_cases w3 : w = 3
  · refine mj_down (P := fun j => ∀ X', X' 0 5 = 0 → mj_W 1 138 5 26 [some (.ref 0), some (.int (nI l)), some (.int w), some (.int (nI (mj_cb (fun p => decide (mj_nl1 Z p = nI l)) j))), some (.int (nI j))] [] (mj_mm Z X') 0 K) (mj_np Z) ?_ ?_ (mj_u X 0 5 0) (md_x05 _ _)
    · intro X' hX
      refine t138_26 ⟨fun _ => ?_, fun c => absurd (mj_pe h.1.1.s rfl) c⟩
      simp only [mj_rL0 vl, mj_wL0 vl, eq_true (mj_vL0 vl), mj_rL1 vl, mj_wL1 vl, eq_true (mj_vL1 vl), mj_rL2 vl, mj_wL2 vl, eq_true (mj_vL2 vl), mj_rL3 vl, mj_wL3 vl, eq_true (mj_vL3 vl), mj_rL4 vl, mj_wL4 vl, eq_true (mj_vL4 vl), mj_rL5 vl, mj_wL5 vl, eq_true (mj_vL5 vl), mj_rL6 vl, mj_wL6 vl, eq_true (mj_vL6 vl), mj_rL7 vl, mj_wL7 vl, eq_true (mj_vL7 vl), mj_rL8 vl, mj_wL8 vl, eq_true (mj_vL8 vl), mj_rL9 vl, mj_wL9 vl, eq_true (mj_vL9 vl), mj_rL10 vl, mj_wL10 vl, eq_true (mj_vL10 vl), cl, true_and]
      exact T X' hX _ _ (fun _ => rfl)
    · intro j hj ih X' hX
      have ej : mj_cb (fun p => decide (mj_nl1 Z p = nI l)) (j + 1) = mj_cb (fun p => decide (mj_nl1 Z p = nI l)) j + (if decide (mj_nl1 Z j = nI l) = true then 1 else 0) := rfl
      have z0 : ∀ x : Int32, x + 0 = x := fun x => by grind
      rw [ej, ← nI_1 j] at ih
      refine t138_26 ⟨fun c => (mj_ps h.1.1.s hj c).elim, fun _ => ⟨fun c => absurd w3 c, fun _ => sp113 h.1.1 hj (fun X2 y1 => t138_51 ⟨fun c => ?_, fun c => ?_⟩)⟩⟩
      · rw [if_neg (fun z => c (of_decide_eq_true z)), Nat.add_zero] at ih
        rw [z0]
        exact ih X2 (by rw [y1 0 (by decide)]; exact hX)
      · rw [if_pos (decide_eq_true c), ← nI_1] at ih
        exact ih X2 (by rw [y1 0 (by decide)]; exact hX)
  · have t := T (mj_u X 0 5 0) (md_x05 _ _) 0 0 (fun z => absurd z w3)
    refine t138_26 ⟨fun _ => ?_, fun _ => ⟨fun _ => ?_, fun z => absurd z w3⟩⟩
    · simp only [mj_rL0 vl, mj_wL0 vl, eq_true (mj_vL0 vl), mj_rL1 vl, mj_wL1 vl, eq_true (mj_vL1 vl), mj_rL2 vl, mj_wL2 vl, eq_true (mj_vL2 vl), mj_rL3 vl, mj_wL3 vl, eq_true (mj_vL3 vl), mj_rL4 vl, mj_wL4 vl, eq_true (mj_vL4 vl), mj_rL5 vl, mj_wL5 vl, eq_true (mj_vL5 vl), mj_rL6 vl, mj_wL6 vl, eq_true (mj_vL6 vl), mj_rL7 vl, mj_wL7 vl, eq_true (mj_vL7 vl), mj_rL8 vl, mj_wL8 vl, eq_true (mj_vL8 vl), mj_rL9 vl, mj_wL9 vl, eq_true (mj_vL9 vl), mj_rL10 vl, mj_wL10 vl, eq_true (mj_vL10 vl), cl, true_and]
      exact t
    · simp only [mj_rL0 vl, mj_wL0 vl, eq_true (mj_vL0 vl), mj_rL1 vl, mj_wL1 vl, eq_true (mj_vL1 vl), mj_rL2 vl, mj_wL2 vl, eq_true (mj_vL2 vl), mj_rL3 vl, mj_wL3 vl, eq_true (mj_vL3 vl), mj_rL4 vl, mj_wL4 vl, eq_true (mj_vL4 vl), mj_rL5 vl, mj_wL5 vl, eq_true (mj_vL5 vl), mj_rL6 vl, mj_wL6 vl, eq_true (mj_vL6 vl), mj_rL7 vl, mj_wL7 vl, eq_true (mj_vL7 vl), mj_rL8 vl, mj_wL8 vl, eq_true (mj_vL8 vl), mj_rL9 vl, mj_wL9 vl, eq_true (mj_vL9 vl), mj_rL10 vl, mj_wL10 vl, eq_true (mj_vL10 vl), cl, true_and]
      exact t
noncomputable def md_vP (Z : mj_M) (p : Nat) (w : Int32) : Int32 := if w.toInt = 0 then Z 21 p else if w.toInt = 1 then Z 22 p else if w.toInt = 2 then Z 23 p else if w.toInt = 3 then mj_nl1 Z p else if w.toInt = 4 then Z 40 p else if w.toInt = 5 then Z 27 p else Z 26 p
theorem mq_person (h : mj_Ia Z) {x w : Int32} (k1 : ¬ vp_in x (mj_np Z) → ∀ X', X' 0 5 = 1 → K 0 0 (mj_mm Z X')) (k2 : vp_in x (mj_np Z) → ¬ md_rg w 0 6 → ∀ X', X' 0 5 = 2 → K 0 0 (mj_mm Z X')) (k0 : ∀ p, p < mj_np Z → x = nI p → md_rg w 0 6 → ∀ X', X' 0 5 = 0 → K 0 (md_vP Z p w) (mj_mm Z X')) : mj_Cm 139 5 [.ref 0, .int x, .int w] (mj_mm Z X) K := by
  refine e139 (md_goes (md_bi_0 (mq_96 h.1.1.s x)) (md_bi_0 (Iff.rfl (a := md_rg w 0 6))) md_tt (fun c => t139_17 ⟨fun z => absurd rfl z, fun _ => k1 c _ (md_x05 _ _)⟩) (fun c c2 => t139_17 ⟨fun z => absurd rfl z, fun _ => k2 c c2 _ (md_x05 _ _)⟩) (fun _ _ c => absurd trivial c) (fun c c2 _ => t139_17 ⟨fun _ => ?_, fun z => absurd z (by decide)⟩))
  obtain ⟨e, hp⟩ := mj_vin c
  have k := k0 _ hp e c2
  generalize x.toNatClampNeg = p at e hp k
  subst e
  have ya := mj_qv h.1.1.s hp
  have da := mj_qc h.1.1.s hp
  have k' := k (mj_u X 0 5 0) (md_x05 _ _)
  unfold md_vP at k k'
  simp only [mj_rP0 ya, mj_wP0 ya, eq_true (mj_vP0 ya), mj_rP1 ya, mj_wP1 ya, eq_true (mj_vP1 ya), mj_rP2 ya, mj_wP2 ya, eq_true (mj_vP2 ya), mj_rP3 ya, mj_wP3 ya, eq_true (mj_vP3 ya), mj_rP4 ya, mj_wP4 ya, eq_true (mj_vP4 ya), mj_rP5 ya, mj_wP5 ya, eq_true (mj_vP5 ya), mj_rP6 ya, mj_wP6 ya, eq_true (mj_vP6 ya), mj_rP7 ya, mj_wP7 ya, eq_true (mj_vP7 ya), da, true_and]
  refine ⟨fun c => ?_, fun c => ?_, fun c => ?_, fun c => ?_, fun c => ?_, fun c => ?_, fun c => ?_⟩
  · rw [if_neg (by omega), if_neg (by omega), if_neg (by omega), if_neg (by omega), if_neg (by omega), if_neg (by omega)] at k'
    exact k'
  · rw [if_pos c] at k'
    exact k'
  · rw [if_neg (by omega), if_pos c] at k'
    exact k'
  · rw [if_neg (by omega), if_neg (by omega), if_pos c] at k'
    exact k'
  · rw [if_neg (by omega), if_neg (by omega), if_neg (by omega), if_pos c] at k
    exact sp113 h.1.1 hp (fun X2 y1 => t139_86 (k X2 (by rw [y1 0 (by decide)]; exact md_x05 _ _)))
  · rw [if_neg (by omega), if_neg (by omega), if_neg (by omega), if_neg (by omega), if_pos c] at k'
    exact k'
  · rw [if_neg (by omega), if_neg (by omega), if_neg (by omega), if_neg (by omega), if_neg (by omega), if_pos c] at k'
    exact k'
def md_vT (Z : mj_M) (t : Nat) (w : Int32) : Int32 := if w = 0 then Z 33 t else if w = 1 then Z 34 t else if w = 3 then Z 31 t else if Z 31 t ≤ 0 then 0 else 1
theorem mq_ofTrain (h : mj_Ia Z) {x w : Int32} (k1 : ¬ vp_in x (mj_nt Z) → ∀ X', X' 0 5 = 1 → K 0 0 (mj_mm Z X')) (k2 : vp_in x (mj_nt Z) → ¬ md_rg w 0 3 → ∀ X', X' 0 5 = 2 → K 0 0 (mj_mm Z X')) (k0 : ∀ t, t < mj_nt Z → x = nI t → md_rg w 0 3 → ∀ X', X' 0 5 = 0 → K 0 (md_vT Z t w) (mj_mm Z X')) : mj_Cm 140 2 [.ref 0, .int x, .int w] (mj_mm Z X) K := by
  refine e140 (md_goes (md_bi_0 (mq_tr h.1.1.s x)) (md_bi_0 (Iff.rfl (a := md_rg w 0 3))) md_tt (fun c => t140_26 ⟨fun z => absurd rfl z, fun _ => k1 c _ (md_x05 _ _)⟩) (fun c c2 => t140_26 ⟨fun z => absurd rfl z, fun _ => k2 c c2 _ (md_x05 _ _)⟩) (fun _ _ c => absurd trivial c) (fun c c2 _ => t140_26 ⟨fun _ => ?_, fun z => absurd z (by decide)⟩))
  obtain ⟨e, ht⟩ := mj_vin c
  have k := k0 _ ht e c2 (mj_u X 0 5 0) (md_x05 _ _)
  generalize x.toNatClampNeg = t at e ht k
  subst e
  have vt := mj_qt h.1.1.s ht
  have ct := mj_qtc h.1.1.s ht
  unfold md_vT at k
  simp only [mj_rT0 vt, mj_wT0 vt, eq_true (mj_vT0 vt), mj_rT1 vt, mj_wT1 vt, eq_true (mj_vT1 vt), mj_rT2 vt, mj_wT2 vt, eq_true (mj_vT2 vt), mj_rT3 vt, mj_wT3 vt, eq_true (mj_vT3 vt), mj_rT4 vt, mj_wT4 vt, eq_true (mj_vT4 vt), mj_rT5 vt, mj_wT5 vt, eq_true (mj_vT5 vt), ct, true_and]
  refine ⟨fun w0 => ⟨fun w1 => ⟨fun w3 => ⟨fun c3 => ?_, fun c3 => ?_⟩, fun w3 => ?_⟩, fun w1 => ?_⟩, fun w0 => ?_⟩
  · rw [if_neg w0, if_neg w1, if_neg w3, if_pos c3] at k
    exact k
  · rw [if_neg w0, if_neg w1, if_neg w3, if_neg c3] at k
    exact k
  · rw [if_neg w0, if_neg w1, if_pos w3] at k
    exact k
  · rw [if_neg w0, if_pos w1] at k
    exact k
  · rw [if_pos w0] at k
    exact k
theorem mq_alone (h : mj_Ia Z) {x : Int32} (k1 : ¬ vp_in x (mj_np Z) → ∀ X', X' 0 5 = 1 → K 0 0 (mj_mm Z X')) (k0 : ∀ p, p < mj_np Z → x = nI p → ∀ X', X' 0 5 = 0 → K 0 (mj_dv Z (Z 24 p) (Z 40 p) (Z 22 p).toNatClampNeg (Z 23 p).toNatClampNeg) (mj_mm Z X')) : mj_Cm 145 4 [.ref 0, .int x] (mj_mm Z X) K := by
  refine e145 (md_goes (md_bi_0 (mq_96 h.1.1.s x)) md_tt md_tt (fun c => t145_11 ⟨fun z => absurd rfl z, fun _ => k1 c _ (md_x05 _ _)⟩) (fun _ c => absurd trivial c) (fun _ _ c => absurd trivial c) (fun c _ _ => t145_11 ⟨fun _ => ?_, fun z => absurd z (by decide)⟩))
  obtain ⟨e, hp⟩ := mj_vin c
  have k := k0 _ hp e
  generalize x.toNatClampNeg = p at e hp k
  subst e
  have ya := mj_qv h.1.1.s hp
  have da := mj_qc h.1.1.s hp
  obtain ⟨a1, a2⟩ := mj_vin (h.1.1.a p hp).2.1
  obtain ⟨g1, g2⟩ := mj_vin (h.1.1.s.2.2.2.1 p hp).1
  have vr := mj_r10 h.1.1.s (h.1.1.a p hp).2.1
  simp only [mj_rP0 ya, mj_wP0 ya, eq_true (mj_vP0 ya), mj_rP1 ya, mj_wP1 ya, eq_true (mj_vP1 ya), mj_rP2 ya, mj_wP2 ya, eq_true (mj_vP2 ya), mj_rP3 ya, mj_wP3 ya, eq_true (mj_vP3 ya), mj_rP4 ya, mj_wP4 ya, eq_true (mj_vP4 ya), mj_rP5 ya, mj_wP5 ya, eq_true (mj_vP5 ya), mj_rP6 ya, mj_wP6 ya, eq_true (mj_vP6 ya), mj_rP7 ya, mj_wP7 ya, eq_true (mj_vP7 ya), da, true_and]
  rw [g1]
  refine sp111 h.1.1 hp g2 (fun X2 y1 y2 => t145_27 ?_)
  simp only [mj_rP0 ya, mj_wP0 ya, eq_true (mj_vP0 ya), mj_rP1 ya, mj_wP1 ya, eq_true (mj_vP1 ya), mj_rP2 ya, mj_wP2 ya, eq_true (mj_vP2 ya), mj_rP3 ya, mj_wP3 ya, eq_true (mj_vP3 ya), mj_rP4 ya, mj_wP4 ya, eq_true (mj_vP4 ya), mj_rP5 ya, mj_wP5 ya, eq_true (mj_vP5 ya), mj_rP6 ya, mj_wP6 ya, eq_true (mj_vP6 ya), mj_rP7 ya, mj_wP7 ya, eq_true (mj_vP7 ya), da, true_and]
  have e3 : mj_mm Z X2 3 (Z 22 p).toNatClampNeg = nI (mj_di Z (Z 24 p) (Z 40 p) (Z 22 p).toNatClampNeg (Z 23 p).toNatClampNeg) := md_far_n h.1.1.s.1 y2 a2
  have cs := mj_D_cases (c := Z 24 p) (k := Z 40 p) h.1.1.s.1 (Z 22 p).toNatClampNeg (Z 23 p).toNatClampNeg
  have k' := k X2 (by rw [y1 0 (by decide)]; exact md_x05 _ _)
  unfold mj_dv at k'
  rw [e3]
  refine ⟨vr, fun c => ?_, fun c => ?_⟩
  · rcases cs with q | q
    · exact absurd c (nI_ge (b := 1000000) (by omega) (by decide))
    · rw [if_neg (by omega)] at k'
      exact k'
  · rcases cs with q | q
    · rw [if_pos (by omega)] at k'
      exact k'
    · exact absurd (nI_le (a := 1000000) (by omega) (by omega)) c
theorem mq_aloneA (h : mj_Ia Z) {x : Int32} (k1 : ¬ vp_in x (mj_np Z) → ∀ X', X' 0 5 = 1 → K 0 0 (mj_mm Z X')) (k0 : ∀ p, p < mj_np Z → x = nI p → ∀ X', X' 0 5 = 0 → K 0 (mj_dv Z (Z 24 p) (Z 40 p) (Z 22 p).toNatClampNeg (Z 23 p).toNatClampNeg) (mj_mm Z X')) : mj_Cm 146 5 [.ref 0, .int x] (mj_mm Z X) K :=
  e146 (mq_alone h (fun c X' x1 => t146_5 (k1 c X' x1)) (fun p hp e X' x1 => t146_5 (k0 p hp e X' x1)))
-- copies
theorem mq_cpa (hK : ∀ X', (∀ c, c ≠ 2 → X' c = X c) → (∀ i, i < 1242 → X' 2 i = mj_en1 Z i) → K 0 0 (mj_mm Z X')) : mj_Cm 141 1 [.ref 1, .ref 2] (mj_mm Z X) K := by
  refine e141a ?_
  refine mj_down (P := fun k => ∀ X', (∀ c, c ≠ 2 → X' c = X c) → (∀ i, i < k → X' 2 i = mj_en1 Z i) → mj_W 1 141 1 2 [some (.ref 1), some (.ref 2), some (.int (nI k))] [] (mj_mm Z X') 0 K) 1242 ?_ ?_ X (fun _ _ => rfl) (fun i hi => absurd hi (Nat.not_lt_zero i))
  · intro X' x1 x2
    exact t141_2a ⟨fun _ => hK X' x1 x2, fun c => absurd (nI_le (Nat.le_refl 1242) (by decide)) c⟩
  · intro k hk ih X' x1 x2
    have ck : (nI k).toNatClampNeg = k := nI_clamp (by omega)
    refine t141_2a ⟨fun c => absurd c (nI_ge hk (by decide)), fun _ => ⟨vp_in_nI hk (by decide), ?_⟩⟩
    rw [ck, mj_mm_wo _ _ _ _ (by decide), nI_1]
    refine ih _ (fun c hc => by rw [mj_u_ne _ _ _ hc]; exact x1 c hc) (fun i hi => ?_)
    rw [mj_u_at]
    by_cases e : i = k
    · rw [if_pos ⟨rfl, e⟩, e]; rfl
    · rw [if_neg (fun z => e z.2)]
      exact x2 i (by omega)
theorem mj_en1_0 (Z : mj_M) {i : Nat} (h : 1242 ≤ i) : mj_en1 Z i = 0 := by
  unfold mj_en1
  rw [if_neg (by omega), if_neg (by omega), if_neg (by omega), if_neg (by omega), if_neg (by omega), if_neg (by omega), if_neg (by omega), if_neg (by omega), if_neg (by omega), if_neg (by omega)]
theorem mq_cpb {Z' : mj_M} (hX : ∀ i, i < 1242 → X 2 i = mj_en1 Z i) (hK : K 0 0 (mj_mm Z X)) : mj_Cm 141 1 [.ref 2, .ref 1] (mj_mm Z' X) K := by
  have e0 : mj_mm Z' X = fun c => if c = 1 then (fun i => if i < 0 then mj_en1 Z i else mj_en1 Z' i) else X c := by
    funext c
    unfold mj_mm
    split
    · funext i; rw [if_neg (Nat.not_lt_zero i)]
    · rfl
  have e1 : mj_mm Z X = fun c => if c = 1 then (fun i => if i < 1242 then mj_en1 Z i else mj_en1 Z' i) else X c := by
    funext c
    unfold mj_mm
    split
    · funext i
      by_cases z : i < 1242
      · rw [if_pos z]
      · rw [if_neg z, mj_en1_0 Z (by omega), mj_en1_0 Z' (by omega)]
    · rfl
  refine e141b ?_
  rw [e0]
  rw [e1] at hK
  refine mj_down (P := fun k => mj_W 1 141 1 2 [some (.ref 2), some (.ref 1), some (.int (nI k))] [] (fun c => if c = 1 then (fun i => if i < k then mj_en1 Z i else mj_en1 Z' i) else X c) 0 K) 1242 ?_ ?_
  · exact t141_2b ⟨fun _ => hK, fun c => absurd (nI_le (Nat.le_refl 1242) (by decide)) c⟩
  · intro k hk ih
    have ck : (nI k).toNatClampNeg = k := nI_clamp (by omega)
    refine t141_2b ⟨fun c => absurd c (nI_ge hk (by decide)), fun _ => ⟨vp_in_nI hk (by decide), ?_⟩⟩
    rw [ck, nI_1]
    have e : mj_u (fun c => if c = 1 then (fun i => if i < k then mj_en1 Z i else mj_en1 Z' i) else X c) 1 k ((fun c => if c = 1 then (fun i => if i < k then mj_en1 Z i else mj_en1 Z' i) else X c) 2 k) = fun c => if c = 1 then (fun i => if i < k + 1 then mj_en1 Z i else mj_en1 Z' i) else X c := by
      funext c i
      rw [mj_u_at]
      have e2 : (fun c => if c = 1 then (fun i => if i < k then mj_en1 Z i else mj_en1 Z' i) else X c) 2 k = mj_en1 Z k := hX k hk
      rw [e2]
      by_cases c1 : c = 1
      · subst c1
        by_cases ik : i = k
        · rw [if_pos ⟨rfl, ik⟩, ik]
          show mj_en1 Z k = if k < k + 1 then mj_en1 Z k else _
          rw [if_pos (by omega)]
        · rw [if_neg (fun z => ik z.2)]
          show (if i < k then mj_en1 Z i else mj_en1 Z' i) = if i < k + 1 then mj_en1 Z i else mj_en1 Z' i
          by_cases z : i < k
          · rw [if_pos z, if_pos (by omega)]
          · rw [if_neg z, if_neg (by omega)]
      · rw [if_neg (fun z => c1 z.1)]
        show (if c = 1 then (fun i => if i < k then mj_en1 Z i else mj_en1 Z' i) else X c) i = (if c = 1 then (fun i => if i < k + 1 then mj_en1 Z i else mj_en1 Z' i) else X c) i
        rw [if_neg c1, if_neg c1]
    rw [e]
    exact ih
theorem mq_fore (h : mj_Ia Z) (hb : (Z 0 5).toInt + 60 ≤ 1000000) {x s : Int32} (k1 : ¬ vp_in x (mj_nr Z) → ∀ X', X' 0 5 = 1 → K 0 0 (mj_mm Z X')) (k2 : vp_in x (mj_nr Z) → ¬ md_rg s 1 60 → ∀ X', X' 0 5 = 2 → K 0 0 (mj_mm Z X')) (k0 : ∀ r, r < mj_nr Z → x = nI r → md_rg s 1 60 → ∀ X', X' 0 5 = 0 → K 0 (nI (mj_ct (md_ss s.toNatClampNeg Z) r 0)) (mj_mm Z X')) : mj_Cm 142 6 [.ref 0, .int x, .int s] (mj_mm Z X) K := by
  refine e142 (md_goes (md_bi_0 (mq_94 h.1.1.s.1 x)) (md_bi_0 (Iff.rfl (a := md_rg s 1 60))) md_tt (fun c => t142_17 ⟨fun z => absurd rfl z, fun _ => k1 c _ (md_x05 _ _)⟩) (fun c c2 => t142_17 ⟨fun z => absurd rfl z, fun _ => k2 c c2 _ (md_x05 _ _)⟩) (fun _ _ c => absurd trivial c) (fun c c2 _ => t142_17 ⟨fun _ => ?_, fun z => absurd z (by decide)⟩))
  obtain ⟨e, hr⟩ := mj_vin c
  have k := k0 _ hr e c2
  obtain ⟨es, -, e2⟩ := md_rgn c2 (by decide) (by decide)
  have i60 : (60 : Int32).toInt = 60 := by decide
  rw [i60] at e2
  generalize x.toNatClampNeg = r at e hr k
  generalize s.toNatClampNeg = n at es e2 k
  subst e
  subst es
  refine mq_cpa (fun X1 y1 y2 => t142_33 ?_)
  refine mj_down (P := fun j => ∀ X', X' 0 5 = 0 → X' 2 = X1 2 → mj_W 1 142 6 35 [some (.ref 0), some (.int (nI r)), some (.int (nI n)), some (.int (nI j))] [] (mj_mm (md_ss j Z) X') 0 K) n ?_ ?_ X1 (by rw [y1 0 (by decide)]; exact md_x05 _ _) rfl
  · intro X' x1 x2
    obtain ⟨i1, i2, i3⟩ := mj_secs_I h (n := n) (by omega) n (Nat.le_refl _)
    refine t142_35 ⟨fun _ => ?_, fun c => absurd (nI_le (Nat.le_refl n) (by omega)) c⟩
    refine sp114 i1.1.1.s (by rw [(mj_n_pr i3).2.1]; exact hr) (t142_56 ?_)
    exact mq_cpb (Z := Z) (fun i hi => by rw [x2]; exact y2 i hi) (t142_68 (k X' x1))
  · intro j hj ih X' x1 x2
    obtain ⟨i1, i2, i3⟩ := mj_secs_I h (n := n) (by omega) j (by omega)
    refine t142_35 ⟨fun c => absurd c (nI_ge hj (by omega)), fun _ => sp134 i1.1 (by show (mj_lo (fun _ => mj_sec) j Z 0 5).toInt < 1000000; omega) (fun X2 z1 => t142_44 ?_)⟩
    rw [nI_1]
    exact ih X2 (by rw [z1 0 (by decide) (by decide) (by decide)]; exact x1) (by rw [z1 2 (by decide) (by decide) (by decide)]; exact x2)
theorem mq_empty (h : mj_Iv Z) (h1 : ¬ md_ins Z (mj_np Z) → K 0 1 (mj_mm Z X)) (h0 : md_ins Z (mj_np Z) → K 0 0 (mj_mm Z X)) : mj_Cm 143 2 [.ref 0] (mj_mm Z X) K := by
  refine e143 ?_
  refine mj_down (P := fun k => ∀ x : Int32, ((x = 0 ∧ md_ins Z k) ∨ (x = 1 ∧ ¬ md_ins Z k)) → mj_W 1 143 2 4 [some (.ref 0), some (.int x), some (.int (nI k))] [] (mj_mm Z X) 0 K) (mj_np Z) ?_ ?_ 1 (Or.inr ⟨rfl, fun ⟨t, ht, _⟩ => absurd ht (Nat.not_lt_zero t)⟩)
  · intro x hx
    refine t143_4 ⟨fun _ => ?_, fun c => absurd (mj_pe h.s rfl) c⟩
    rcases hx with ⟨rfl, z⟩ | ⟨rfl, z⟩
    · rw [mj_nb0]; exact h0 z
    · rw [mj_nb1]; exact h1 z
  · intro k hk ih x hx
    have ya := mj_qv h.s hk
    have da := mj_qc h.s hk
    have st := (h.a k hk).1
    have yes : md_ins Z (k + 1) → mj_W 1 143 2 4 [some (.ref 0), some (.int 0), some (.int (nI k + 1))] [] (mj_mm Z X) 0 K := by
      intro c
      rw [nI_1]
      exact ih 0 (Or.inl ⟨rfl, c⟩)
    refine t143_4 ⟨fun c => (mj_ps h.s hk c).elim, fun _ => ⟨fun c => ?_, fun c => ?_⟩⟩
    · rcases hx with ⟨rfl, t, ht, z⟩ | ⟨rfl, z⟩
      · exact yes ⟨t, by omega, z⟩
      · exact absurd c (by decide)
    · rcases hx with ⟨rfl, z⟩ | ⟨rfl, z⟩
      · exact absurd rfl c
      · simp only [mj_rP0 ya, mj_wP0 ya, eq_true (mj_vP0 ya), mj_rP1 ya, mj_wP1 ya, eq_true (mj_vP1 ya), mj_rP2 ya, mj_wP2 ya, eq_true (mj_vP2 ya), mj_rP3 ya, mj_wP3 ya, eq_true (mj_vP3 ya), mj_rP4 ya, mj_wP4 ya, eq_true (mj_vP4 ya), mj_rP5 ya, mj_wP5 ya, eq_true (mj_vP5 ya), mj_rP6 ya, mj_wP6 ya, eq_true (mj_vP6 ya), mj_rP7 ya, mj_wP7 ya, eq_true (mj_vP7 ya), da, true_and]
        refine ⟨fun c2 => yes ⟨k, by omega, ?_⟩, fun c2 => ?_⟩
        · rcases st with w | w | w | w
          · exact Or.inl w
          · exact Or.inr w
          · rw [w] at c2; exact absurd c2 (by decide)
          · rw [w] at c2; exact absurd c2 (by decide)
        · rw [nI_1]
          refine ih 1 (Or.inr ⟨rfl, fun ⟨t, ht, y⟩ => ?_⟩)
          by_cases e : t = k
          · subst e
            rcases y with y | y <;> rw [y] at c2 <;> exact c2 (by decide)
          · exact z ⟨t, by omega, y⟩
/-- in how many seconds nobody is inside -/
def md_in (B : mj_M) (n : Nat) : Prop := md_ins (md_ss n B) (mj_np (md_ss n B))
def md_csv (B : mj_M) (v : Int32) : Prop := (∃ n, n ≤ 100 ∧ v = nI n ∧ ¬ md_in B n ∧ ∀ m, m < n → md_in B m) ∨ (v = -1 ∧ ∀ m, m ≤ 100 → md_in B m)
theorem md_csv_u {B : mj_M} {v w : Int32} (h1 : md_csv B v) (h2 : md_csv B w) : v = w := by
  rcases h1 with ⟨n, a1, a2, a3, a4⟩ | ⟨a1, a2⟩
  · rcases h2 with ⟨m, b1, b2, b3, b4⟩ | ⟨b1, b2⟩
    · have : n = m := by
        rcases Nat.lt_trichotomy n m with q | q | q
        · exact absurd (b4 n q) a3
        · exact q
        · exact absurd (a4 m q) b3
      rw [a2, b2, this]
    · exact absurd (b2 n a1) a3
  · rcases h2 with ⟨m, b1, b2, b3, b4⟩ | ⟨b1, b2⟩
    · exact absurd (a2 m b1) b3
    · rw [a1, b1]
theorem mq_clears (h : mj_Ia Z) (hb : (Z 0 5).toInt + 100 ≤ 1000000) (k0 : ∀ v, md_csv (md_ord Z) v → ∀ X', X' 0 5 = 0 → K 0 v (mj_mm Z X')) : mj_Cm 144 6 [.ref 0] (mj_mm Z X) K := by
  refine e144 ?_
  rw [mj_mm_wo _ _ _ _ (by decide)]
  refine mq_cpa (fun X1 y1 y2 => t144_16 ?_)
  refine mq_ord h (fun X2 z1 => t144_20 ?_)
  obtain ⟨i1, i2, i3, i4⟩ := md_on_I h (mj_np Z) (Nat.le_refl _)
  have hI : mj_Ia (md_ord Z) := i1
  have hb2 : (md_ord Z 0 5).toInt + (100 : Nat) ≤ 1000000 := by
    show (md_on Z (mj_np Z) 0 5).toInt + (100 : Nat) ≤ 1000000
    rw [i4]; omega
  have back : ∀ (j : Nat) X', X' 0 5 = 0 → X' 2 = X1 2 → ∀ v, md_csv (md_ord Z) v → ∀ x1 : Int32, mj_Cm 141 1 [.ref 2, .ref 1] (mj_mm (md_ss j (md_ord Z)) X') (mj_k 1 144 6 70 [some (.ref 0), some (.int x1), some (.int v)] [] 0 none K) := by
    intro j X' x1 x2 v hv y
    exact mq_cpb (Z := Z) (fun i hi => by rw [x2]; exact y2 i hi) (t144_70 (k0 v hv X' x1))
  refine mj_down (P := fun j => ∀ X', X' 0 5 = 0 → X' 2 = X1 2 → (∀ m, m < j → md_in (md_ord Z) m) → ∀ o2, mj_W 1 144 6 23 [some (.ref 0), some (.int (nI j)), o2] [] (mj_mm (md_ss j (md_ord Z)) X') 0 K) 100 ?_ ?_ X2 (by rw [z1 0 (by decide), y1 0 (by decide)]; exact md_x05 _ _) (by rw [z1 2 (by decide)]) (fun m hm => absurd hm (Nat.not_lt_zero m)) none
  · intro X' x1 x2 x3 o2
    obtain ⟨j1, j2, j3⟩ := mj_secs_I hI hb2 100 (Nat.le_refl _)
    refine t144_23 ⟨fun _ => mq_empty j1.1.1 (fun c => t144_50 ⟨fun z => absurd z (by decide), fun _ => ?_⟩) (fun c => t144_50 ⟨fun _ => ?_, fun z => absurd rfl z⟩), fun c => absurd (nI_le (Nat.le_refl 100) (by decide)) c⟩
    · exact back 100 X' x1 x2 _ (Or.inl ⟨100, Nat.le_refl _, rfl, c, x3⟩) _
    · refine back 100 X' x1 x2 _ (Or.inr ⟨rfl, fun m hm => ?_⟩) _
      by_cases e : m = 100
      · subst e; exact c
      · exact x3 m (by omega)
  · intro j hj ih X' x1 x2 x3 o2
    obtain ⟨j1, j2, j3⟩ := mj_secs_I hI hb2 j (by omega)
    refine t144_23 ⟨fun c => absurd c (nI_ge hj (by decide)), fun _ => mq_empty j1.1.1 (fun c => t144_33 ⟨fun _ => ?_, fun z => absurd z (by decide)⟩) (fun c => t144_33 ⟨fun z => absurd rfl z, fun _ => ?_⟩)⟩
    · refine mq_empty j1.1.1 (fun _ => t144_50 ⟨fun z => absurd z (by decide), fun _ => ?_⟩) (fun c2 => absurd c2 c)
      exact back j X' x1 x2 _ (Or.inl ⟨j, by omega, rfl, c, x3⟩) _
    · refine sp134 j1.1 (by show (mj_lo (fun _ => mj_sec) j (md_ord Z) 0 5).toInt < 1000000; omega) (fun X3 w1 => t144_40 ?_)
      rw [nI_1]
      refine ih X3 (by rw [w1 0 (by decide) (by decide) (by decide)]; exact x1) (by rw [w1 2 (by decide) (by decide) (by decide)]; exact x2) (fun m hm => ?_) _
      by_cases e : m = j
      · subst e; exact c
      · exact x3 m (by omega)
end MOH
