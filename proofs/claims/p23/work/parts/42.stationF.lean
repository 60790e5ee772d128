-- THE STATION'S METHODS, F: a second
section STF
variable {Z Z3 Y : mj_M} {K : mj_K} {p l : Nat}
theorem mj_be1_d (v : Nat → Int32) (s : mj_M × Nat) (hP : mj_np s.1 ≤ 120) : (mj_be1 v l p s).2 ≤ s.2 + 120 := by
  unfold mj_be1
  split
  · have := mj_sz_le (Z := s.1) (l := l) (p := p) v hP
    dsimp only
    omega
  · omega
theorem sp56 (h3 : mj_Iv Z3) (h : mj_J Z) (hV : mj_Vw Z3 Z) (hl : l < mj_nl Z) (h16 : Z 16 l = 0) (hY2 : ∀ i, i < mj_np Z → Y 38 i = mj_nv Z3 i) (hK : ∀ Y', Y' 36 = Y 36 → Y' 37 = Y 37 → Y' 38 = Y 38 → K 0 0 (mj_cc (mj_lk (mj_nv Z3) l Z) Y')) : mj_Cm 56 5 [.ref 0, .int (nI l)] (mj_cc Z Y) K := by
  have hP := (mj_S_P h.1.s).1
  refine e56 (sp57 (v := mj_nv Z3) h.1 hl hY2 (fun Y1 hY1 => ?_))
  obtain ⟨y1, y2, y3, y4⟩ := hY1
  obtain ⟨n1, n2⟩ := mj_ln_e (Z := Z) (v := mj_nv Z3) (l := l) (q := Y 39) (q' := fun _ => 0) (mj_np Z)
  obtain ⟨o1, o2⟩ := mj_ln_ok (Z := Z) (v := mj_nv Z3) (l := l) (q := fun _ => 0) (mj_np Z)
  have elk : mj_lk (mj_nv Z3) l Z = (mj_be (mj_nv Z3) l (mj_ln Z (mj_nv Z3) l (fun _ => 0) (mj_np Z)).2 (mj_ln Z (mj_nv Z3) l (fun _ => 0) (mj_np Z)).1 Z).1 := by
    unfold mj_lk
    rw [if_pos h16]
  rw [elk] at hK
  rw [n1] at y3
  have y4' : ∀ i, i < (mj_ln Z (mj_nv Z3) l (fun _ => 0) (mj_np Z)).1 → Y1 39 i = (mj_ln Z (mj_nv Z3) l (fun _ => 0) (mj_np Z)).2 i := by
    intro i hi
    rw [y4]
    exact n2 i (by omega)
  generalize (mj_ln Z (mj_nv Z3) l (fun _ => 0) (mj_np Z)).1 = n at o1 o2 y3 y4' hK
  generalize (mj_ln Z (mj_nv Z3) l (fun _ => 0) (mj_np Z)).2 = q at o2 y4' hK
  refine t56_5 ?_
  rw [mj_cc_wz (by decide)]
  have facts : ∀ i, i ≤ n → (mj_J (mj_be (mj_nv Z3) l q i Z).1 ∧ mj_Vw Z3 (mj_be (mj_nv Z3) l q i Z).1) ∧ (mj_be (mj_nv Z3) l q i Z).2 ≤ 120 * i := by
    intro i hi
    have e3 := (mj_n_pr hV.1)
    refine ⟨mj_be_ok h3 (by omega) i Z (fun j hj => ?_) h hV, ?_⟩
    · obtain ⟨p, hp, e1, e2⟩ := o2 j (by omega)
      exact ⟨p, by omega, e1, e2⟩
    · induction i with
      | zero => exact Nat.le_refl _
      | succ i ih =>
        have ihh := ih (by omega)
        have hJ := mj_be_ok h3 (show l < mj_nl Z3 by omega) i Z (fun j hj => by
          obtain ⟨p, hp, e1, e2⟩ := o2 j (by omega)
          exact ⟨p, by omega, e1, e2⟩) h hV
        have := mj_be1_d (l := l) (p := (q i).toNatClampNeg) (mj_nv Z3) (mj_be (mj_nv Z3) l q i Z) (mj_S_P hJ.1.1.s).1
        show (mj_be1 (mj_nv Z3) l (q i).toNatClampNeg (mj_be (mj_nv Z3) l q i Z)).2 ≤ _
        omega
  refine mj_down (P := fun i => ∀ Y' o3, (∀ c, c ≠ 0 → Y' c = Y1 c) → (∀ j, j ≠ 9 → Y' 0 j = Y1 0 j) → Y' 0 9 = nI (mj_be (mj_nv Z3) l q i Z).2 → mj_W 0 56 5 12 [some (.ref 0), some (.int (nI l)), some (.int (nI i)), o3] [] (mj_cc (mj_be (mj_nv Z3) l q i Z).1 Y') 0 K) n ?_ ?_ (mj_u Y1 0 9 0) none (fun c hc => mj_u_ne _ _ _ hc) (fun j hj => by rw [mj_u_at, if_neg (fun z => hj z.2)]) (by rw [mj_u_at, if_pos ⟨rfl, rfl⟩]; rfl)
  · intro Y' o3 z1 z2 z3
    refine t56_12 ⟨fun _ => hK Y' ?_ ?_ ?_, fun c => absurd ?_ c⟩
    · rw [z1 36 (by decide), y1 36 (by decide) (by decide)]
    · rw [z1 37 (by decide), y1 37 (by decide) (by decide)]
    · rw [z1 38 (by decide), y1 38 (by decide) (by decide)]
    · show Y' 0 8 ≤ nI n
      rw [z2 8 (by decide), y3]
      exact nI_le (Nat.le_refl _) (by omega)
  · intro i hi ih Y' o3 z1 z2 z3
    obtain ⟨⟨f1, f2⟩, f3⟩ := facts i (by omega)
    obtain ⟨p, hp, e1, e2⟩ := o2 i hi
    have ih' : ∀ Y' o3, (∀ c, c ≠ 0 → Y' c = Y1 c) → (∀ j, j ≠ 9 → Y' 0 j = Y1 0 j) → Y' 0 9 = nI (mj_be1 (mj_nv Z3) l p (mj_be (mj_nv Z3) l q i Z)).2 → mj_W 0 56 5 12 [some (.ref 0), some (.int (nI l)), some (.int (nI (i + 1))), o3] [] (mj_cc (mj_be1 (mj_nv Z3) l p (mj_be (mj_nv Z3) l q i Z)).1 Y') 0 K := by
      have e : mj_be (mj_nv Z3) l q (i + 1) Z = mj_be1 (mj_nv Z3) l p (mj_be (mj_nv Z3) l q i Z) := by
        show mj_be1 (mj_nv Z3) l (q i).toNatClampNeg _ = _
        rw [e1, nI_clamp (by omega)]
      rw [← e]
      exact ih
    generalize mj_be (mj_nv Z3) l q i Z = X at f1 f2 f3 z3 ih' ⊢
    obtain ⟨X, d⟩ := X
    dsimp only at f1 f2 f3 z3 ih' ⊢
    have hn : mj_np X = mj_np Z := (mj_n_pr f2.1).1.trans (mj_n_pr hV.1).1.symm
    have hnl : mj_nl X = mj_nl Z := (mj_n_pr f2.1).2.2.1.trans (mj_n_pr hV.1).2.2.1.symm
    have hpX : p < mj_np X := by omega
    have c39 : mj_cc X Y' 39 i = nI p := by
      show Y' 39 i = _
      rw [z1 39 (by decide), y4' i hi]
      exact e1
    have ci : (nI i).toNatClampNeg = i := nI_clamp (by omega)
    rw [← nI_1] at ih'
    refine t56_12 ⟨fun c => absurd c ?_, fun _ => ⟨fun c => absurd c (nI_ge (show i < 120 by omega) (by decide)), fun _ => ⟨vp_in_nI (by omega) (by decide), mj_b20 f1.1.s, ?_⟩⟩⟩
    · show ¬ Y' 0 8 ≤ nI i
      rw [z2 8 (by decide), y3]
      exact nI_ge hi (by omega)
    · rw [ci, c39]
      refine ⟨fun c => ?_, fun c => ?_⟩
      · rw [mj_q20 f1.1.s hpX] at c
        have e : mj_be1 (mj_nv Z3) l p (X, d) = (X, d) := by
          unfold mj_be1
          exact if_neg (fun z => c z.1)
        rw [e] at ih'
        exact ih' Y' _ z1 z2 z3
      · rw [mj_q20 f1.1.s hpX] at c
        refine sp59 h3 f1 f2 (by omega) hpX e2 c (by omega) z3 (fun j hj => ?_) (fun Y2 w1 w2 w3 => ?_)
        · rw [z1 38 (by decide), y1 38 (by decide) (by decide)]
          exact hY2 j (by omega)
        · exact t56_50 (ih' Y2 _ (fun c hc => by rw [w1 c hc, z1 c hc]) (fun j hj => by rw [w2 j hj, z2 j hj]) w3)
-- alarms
theorem sp5 (h : mj_J Z) (hK : K 0 0 (mj_cc (mj_lo mj_alr (mj_nr Z) Z) Y)) : mj_Cm 5 3 [.ref 1] (mj_cc Z Y) K := by
  refine e5 ?_
  refine mj_down (P := fun k => ∀ o2, mj_W 0 5 3 2 [some (.ref 1), some (.int (nI k)), o2] [] (mj_cc (mj_lo mj_alr k Z) Y) 0 K) (mj_nr Z) ?_ ?_ none
  · intro o2
    obtain ⟨k1, k2⟩ := mj_alr_k h (mj_nr Z) (Nat.le_refl _)
    exact t5_2 ⟨fun _ => hK, fun c => absurd (mj_rre k1.1.s (mj_n_pr k2).2.1.symm) c⟩
  · intro k hk ih o2
    obtain ⟨k1, k2⟩ := mj_alr_k h k (by omega)
    have ih' : ∀ o2, mj_W 0 5 3 2 [some (.ref 1), some (.int (nI (k + 1))), o2] [] (mj_cc (mj_alr k (mj_lo mj_alr k Z)) Y) 0 K := ih
    generalize mj_lo mj_alr k Z = X at k1 k2 ih' ⊢
    have hkX : k < mj_nr X := by rw [(mj_n_pr k2).2.1]; exact hk
    have hR := mj_S_R k1.1.s
    have ck : (nI k).toNatClampNeg = k := nI_clamp (by omega)
    obtain ⟨b1, b2, b3⟩ := k1.1.b k hkX
    obtain ⟨l1, l2⟩ := k1.1.s.2.2.2.2.1 k hkX
    have ca := k1.1.c k hkX
    have cle : mj_ct X k 0 ≤ 120 := Nat.le_trans (mj_cb_le _ _) (mj_S_P k1.1.s).1
    have f3e : f3 (mj_cc X Y) (nI k) = nI (mj_ct X k 0) := by
      unfold f3
      rw [if_pos (mj_q0 k1.1.s (vp_in_nI hkX (by omega))), ck]
      exact b1
    have n0 := nI_toInt (show mj_ct X k 0 < 2 ^ 31 by omega)
    have i10 : (10 : Int32).toInt = 10 := by decide
    have i9 : (9 : Int32).toInt = 9 := by decide
    have i7 : (7 : Int32).toInt = 7 := by decide
    have t10 : (10 * nI (mj_ct X k 0) : Int32).toInt = 10 * (mj_ct X k 0 : Int) := by rw [fb_mulI (by rw [i10]; omega) (by rw [i10]; omega), i10, n0]
    have t9 : (9 * X 3 k : Int32).toInt = 9 * (X 3 k).toInt := by rw [fb_mulI (by rw [i9]; omega) (by rw [i9]; omega), i9]
    have t7 : (7 * X 3 k : Int32).toInt = 7 * (X 3 k).toInt := by rw [fb_mulI (by rw [i7]; omega) (by rw [i7]; omega), i7]
    unfold mj_alr at ih'
    rw [← nI_1] at ih'
    refine t5_2 ⟨fun c => (mj_rrs k1.1.s hkX c).elim, fun _ => ⟨vp_in_nI (by omega) (by decide), ?_⟩⟩
    rw [ck, f3e]
    refine ⟨fun c => ?_, fun c => ⟨mj_b10 k1.1.s, fun c2 => ⟨fun c3 => ?_, fun c3 => ?_⟩, fun c2 => ⟨fun c3 => ?_, fun c3 => ?_⟩⟩⟩
    · have c' : X 2 k = 0 := c
      rw [if_pos c'] at ih'
      exact ih' _
    all_goals
      have c' : ¬ X 2 k = 0 := c
      rw [if_neg c'] at ih'
      rw [mj_cc_w rfl]
    · have c2' : X 7 k = 0 := c2
      have c3' : 10 * nI (mj_ct X k 0) < 9 * X 3 k := c3
      rw [mj_lt, t10, t9] at c3'
      rw [if_neg (fun z => z.elim (fun y => by omega) (fun y => by rw [c2'] at y; exact absurd y.1 (by decide)))] at ih'
      rw [mj_nb0]
      exact ih' _
    · have c2' : X 7 k = 0 := c2
      have c3' : ¬ 10 * nI (mj_ct X k 0) < 9 * X 3 k := c3
      rw [mj_lt, t10, t9] at c3'
      rw [if_pos (Or.inl (by omega))] at ih'
      rw [mj_nb1]
      exact ih' _
    · have c3' : 10 * nI (mj_ct X k 0) ≤ 7 * X 3 k := c3
      rw [mj_le, t10, t7] at c3'
      rw [if_neg (fun z => z.elim (fun y => by omega) (fun y => by omega))] at ih'
      rw [mj_nb0]
      exact ih' _
    · have c2' : X 7 k = 1 := by
        rcases ca.1 with z | z
        · exact absurd z c2
        · exact z
      have c3' : ¬ 10 * nI (mj_ct X k 0) ≤ 7 * X 3 k := c3
      rw [mj_le, t10, t7] at c3'
      rw [if_pos (Or.inr ⟨c2', by omega⟩)] at ih'
      rw [mj_nb1]
      exact ih' _
/-- a second passes -/
theorem sp51 (h : mj_J Z) (hb : (Z 0 5).toInt < 1000000) (hw : mj_wt Z (Y 36) (Y 37)) (hK : ∀ Y', Y' 36 = Y 36 → Y' 37 = Y 37 → K 0 0 (mj_cc (mj_sec Z) Y')) : mj_Cm 51 6 [.ref 0] (mj_cc Z Y) K := by
  obtain ⟨t1, t2, t3, t4, t5⟩ := mj_tick_ok h hb
  obtain ⟨a1, a2, a3, a4, a5⟩ := mj_arr_ok t1 t2 t3
  obtain ⟨s1, s2⟩ := mj_sec3_ok h hb
  refine e51 ?_
  rw [mj_cc_ws (Or.inl ⟨rfl, rfl⟩)]
  show mj_Cm 52 4 [.ref 0] (mj_cc (mj_tick Z) Y) _
  refine sp52 t1 t2 t3 ?_
  refine t51_14 ?_
  refine mj_down (P := fun k => mj_W 0 51 6 16 [some (.ref 0), some (.int (nI k))] [] (mj_cc (mj_lo mj_sv k (mj_arr (mj_tick Z))) Y) 0 K) (mj_nt (mj_arr (mj_tick Z))) ?_ ?_
  · have e3 : mj_lo mj_sv (mj_nt (mj_arr (mj_tick Z))) (mj_arr (mj_tick Z)) = mj_sec3 Z := rfl
    rw [e3]
    have hn : mj_nt (mj_arr (mj_tick Z)) = mj_nt (mj_sec3 Z) := by rw [(mj_n_pr s2).2.2.2, (mj_n_pr (a4.trans t4)).2.2.2]
    refine t51_16 ⟨fun _ => ?_, fun c => absurd (mj_te s1.1.s hn) c⟩
    refine sp55 s1 (mj_wt_pr (mj_s12 s2) hw) (fun Y1 y1 y2 y3 => ?_)
    refine t51_42 ?_
    refine mj_down (P := fun k => ∀ Y', Y' 36 = Y 36 → Y' 37 = Y 37 → Y' 38 = Y1 38 → mj_W 0 51 6 44 [some (.ref 0), some (.int (nI k))] [] (mj_cc (mj_lo (mj_lk (mj_nv (mj_sec3 Z))) k (mj_kno (mj_sec3 Z))) Y') 0 K) (mj_nl Z) ?_ ?_ Y1 y1 y2 rfl
    · intro Y' z1 z2 z3
      have hL : mj_nl Z = mj_nl (mj_sec3 Z) := (mj_n_pr s2).2.2.1.symm
      obtain ⟨k1, k2⟩ := mj_lks_ok s1 (mj_nl Z) (by omega)
      have kL := (mj_n_pr k2.1).2.2.1
      have kR := (mj_n_pr k2.1).2.1
      refine t51_44 ⟨fun _ => ?_, fun c => absurd (mj_lle k1.1.s (by omega)) c⟩
      refine sp5 k1 ?_
      refine t51_85 ?_
      have er : mj_nr (mj_lo (mj_lk (mj_nv (mj_sec3 Z))) (mj_nl Z) (mj_kno (mj_sec3 Z))) = mj_nr Z := by rw [kR, (mj_n_pr s2).2.1]
      rw [er, ← mj_sec_def]
      exact hK Y' z1 z2
    · intro k hk ih Y' z1 z2 z3
      have hL : mj_nl Z = mj_nl (mj_sec3 Z) := (mj_n_pr s2).2.2.1.symm
      obtain ⟨k1, k2⟩ := mj_lks_ok s1 k (by omega)
      have ih' : ∀ Y', Y' 36 = Y 36 → Y' 37 = Y 37 → Y' 38 = Y1 38 → mj_W 0 51 6 44 [some (.ref 0), some (.int (nI (k + 1)))] [] (mj_cc (mj_lk (mj_nv (mj_sec3 Z)) k (mj_lo (mj_lk (mj_nv (mj_sec3 Z))) k (mj_kno (mj_sec3 Z)))) Y') 0 K := ih
      generalize mj_lo (mj_lk (mj_nv (mj_sec3 Z))) k (mj_kno (mj_sec3 Z)) = X at k1 k2 ih' ⊢
      have kL := (mj_n_pr k2.1).2.2.1
      have kP := (mj_n_pr k2.1).1
      have hkX : k < mj_nl X := by omega
      have hL14 := mj_S_L k1.1.s
      have ck : (nI k).toNatClampNeg = k := nI_clamp (by omega)
      rw [← nI_1] at ih'
      refine t51_44 ⟨fun c => (mj_lls k1.1.s hkX c).elim, fun _ => ⟨vp_in_nI (by omega) (by decide), ?_⟩⟩
      rw [ck]
      refine ⟨fun c => ?_, fun c => ?_⟩
      · have e : mj_lk (mj_nv (mj_sec3 Z)) k X = X := by
          unfold mj_lk
          exact if_neg c
        rw [e] at ih'
        exact ih' Y' z1 z2 z3
      · refine sp56 s1.1 k1 k2 hkX c (fun i hi => ?_) (fun Y2 w1 w2 w3 => ?_)
        · rw [z3]
          exact y3 i (by omega)
        · exact t51_72 (ih' Y2 (w1.trans z1) (w2.trans z2) (w3.trans z3))
  · intro k hk ih
    obtain ⟨k1, k2⟩ := mj_srv_k (Z := mj_arr (mj_tick Z)) ⟨a1, a2, a3⟩ k (by omega)
    have ih' : mj_W 0 51 6 16 [some (.ref 0), some (.int (nI (k + 1)))] [] (mj_cc (mj_sv k (mj_lo mj_sv k (mj_arr (mj_tick Z)))) Y) 0 K := ih
    generalize mj_lo mj_sv k (mj_arr (mj_tick Z)) = X at k1 k2 ih' ⊢
    have hkX : k < mj_nt X := by rw [(mj_n_pr k2).2.2.2]; exact hk
    rw [← nI_1] at ih'
    refine t51_16 ⟨fun c => (mj_ts k1.1.s hkX c).elim, fun _ => ?_⟩
    exact sp53 k1 hkX (t51_32 ih')
end STF
