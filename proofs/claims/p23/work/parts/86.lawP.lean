section LWP
variable {Z Z' X X' C C' L L' : mj_M} {K : mj_K} {p l r t a b i n s : Nat} {v g ch kn gr w : Int32}
abbrev mz_LT (x5 x6 x7 : Int32) (o8 o9 o10 o11 o12 : Option Value) : List (Option Value) := [some (.ref 0), some (.ref 81), some (.ref 83), some (.ref 84), some (.ref 85), some (.int x5), some (.int x6), some (.int x7), o8, o9, o10, o11, o12]
theorem mz_pl_nI (h : mj_Iv Z) (hr : r < mj_nr Z) (h2 : ¬ Z 2 r = 0) : mz_pl Z r = nI ((Z 3 r).toInt.toNat - (mj_ct Z r 0 + mj_ct Z r 1)) ∧ (Z 3 r).toInt.toNat - (mj_ct Z r 0 + mj_ct Z r 1) < 2 ^ 31 := by
  have hd := (h.b r hr).2.2 h2
  obtain ⟨l1, l2⟩ := h.s.2.2.2.2.1 r hr
  have t0 : (nI (mj_ct Z r 0)).toInt = mj_ct Z r 0 := nI_toInt (by omega)
  have t1 : (nI (mj_ct Z r 1)).toInt = mj_ct Z r 1 := nI_toInt (by omega)
  have s1 : (Z 3 r - nI (mj_ct Z r 0)).toInt = (Z 3 r).toInt - mj_ct Z r 0 := by rw [fb_subI (by omega) (by omega), t0]
  have s2 : (Z 3 r - nI (mj_ct Z r 0) - nI (mj_ct Z r 1)).toInt = (Z 3 r).toInt - mj_ct Z r 0 - mj_ct Z r 1 := by rw [fb_subI (by omega) (by omega), s1, t1]
  have hlt := fb_rng (Z 3 r)
  refine ⟨?_, by omega⟩
  unfold mz_pl
  rw [if_neg h2]
  have e := mj_toN (x := Z 3 r - nI (mj_ct Z r 0) - nI (mj_ct Z r 1)) (by omega)
  rw [e]
  congr 1
  rw [mj_clN, s2]
  omega
/-- what the law writes of one who alights, in its own order, is what is written of one who comes -/
theorem mz_en0 {r g : Int32} (h : mj_Zb Z) (hn : n = mj_np Z) : mj_u (mj_u (mj_u (mj_u Z 22 n r) 23 n g) 25 n (-1)) 20 0 (Z 20 0 + 1) = mz_en n r g 0 0 (-1) 0 Z := by
  have z24 : Z 24 n = 0 := h 24 n (by decide) (by rw [hn]; exact Nat.le_refl _)
  have z27 : Z 27 n = 0 := h 27 n (by decide) (by rw [hn]; exact Nat.le_refl _)
  have z40 : Z 40 n = 0 := h 40 n (by decide) (by rw [hn]; exact Nat.le_refl _)
  unfold mz_en
  rw [mj_u_id (Z := mj_u (mj_u Z 22 n r) 23 n g) (c := 24) (i := n) (v := 0) z24]
  rw [mj_u_id (Z := mj_u (mj_u (mj_u Z 22 n r) 23 n g) 25 n (-1)) (c := 40) (i := n) (v := 0) z40]
  rw [mj_u_id (Z := mj_u (mj_u (mj_u Z 22 n r) 23 n g) 25 n (-1)) (c := 27) (i := n) (v := 0) z27]
theorem mz_add_25 {r g ch kn gr : Int32} : md_add r g ch kn gr Z 25 p = if p = mj_np Z then gr else Z 25 p := by
  unfold md_add
  rw [mj_oA_c _ _ (by decide) (by decide)]
  show mj_u Z 25 (mj_np Z) gr 25 p = _
  rw [mj_u_at]
  simp only [true_and]
theorem sp109 (h : mz_H Z) (hc : mk_CL Z C) {g0 : Nat} (hr : r < 6) (hr2 : r / 2 = 2) (hg : g0 < 2) {z : Int32} (hz : 0 ≤ z.toInt) (hK : ∀ Z' C' X', mz_H Z' → Z' 0 5 = Z 0 5 → mk_CL Z' C' → K 0 1 (mz_j C' (mz Z' X'))) : mj_Cm 109 7 [.ref 0, .ref 81, .ref 83, .ref 84, .ref 85, .int (nI r), .int (nI g0), .int z] (mz_j C (mz Z X)) K := by
  have hI := h.1
  have hB := h.2.1
  have hS := hI.1.1.s
  obtain ⟨n, hn⟩ : ∃ n, n = mj_np Z := ⟨_, rfl⟩
  have e4 : Z 20 0 = nI n := by rw [hn]; exact (mj_S_P hS).2
  have n8 : n ≤ 8 := by rw [hn]; exact hB.2.2.1
  obtain ⟨m, hm⟩ : ∃ m, m = mj_nt Z := ⟨_, rfl⟩
  have e28 : Z 28 0 = nI m := by rw [hm]; exact (mj_S_T hS).2
  have m3 : m ≤ 3 := by rw [hm]; exact hB.2.2.2.1
  have hr6 : r < mj_nr Z := by rw [h.2.2.1]; exact hr
  have hg6 : g0 < mj_nr Z := by rw [h.2.2.1]; omega
  have vr : vp_in (nI r) (mj_nr Z) := vp_in_nI hr6 (by rw [h.2.2.1]; decide)
  have vg : vp_in (nI g0) (mj_nr Z) := vp_in_nI hg6 (by rw [h.2.2.1]; decide)
  have cr : (nI r).toNatClampNeg = r := nI_clamp (by omega)
  have cg : (nI g0).toNatClampNeg = g0 := nI_clamp (by omega)
  have k2r : Z 2 r = 2 := by rw [h.2.2.2.2 r hr, hr2]; rfl
  have k2g : Z 2 g0 = 0 := by rw [h.2.2.2.2 g0 (by omega), show g0 / 2 = 0 by omega]; rfl
  have k2r0 : ¬ Z 2 r = 0 := by rw [k2r]; decide
  obtain ⟨zn, hzn⟩ : ∃ zn, zn = z.toNatClampNeg := ⟨_, rfl⟩
  have zlt : zn < 2 ^ 31 := by rw [hzn, mj_clN]; have := fb_rng z; omega
  have ez : z = nI zn := by rw [hzn]; exact mj_toN hz
  have z3 : (z / 3).toNatClampNeg = zn / 3 ∧ 0 ≤ (z / 3).toInt := by
    rw [ez, show (3 : Int32) = nI 3 from rfl, pk_div zlt (by decide) (by decide), nI_clamp (by omega), nI_toInt (by omega)]
    exact ⟨rfl, by omega⟩
  have z18 : (z / 18).toNatClampNeg = zn / 18 ∧ 0 ≤ (z / 18).toInt := by
    rw [ez, show (18 : Int32) = nI 18 from rfl, pk_div zlt (by decide) (by decide), nI_clamp (by omega), nI_toInt (by omega)]
    exact ⟨rfl, by omega⟩
  have eal : z - z / 3 * 3 = nI (zn % 3) := by rw [hzn]; exact mz_rem hz (show 0 < (nI 3).toInt by decide)
  have esp : z / 3 - z / 3 / 6 * 6 = nI (zn / 3 % 6) := by
    have := mz_rem z3.2 (show 0 < (nI 6).toInt by decide)
    rw [z3.1] at this
    exact this
  have est : 1 + (z / 18 - z / 18 / 9 * 9) = nI (1 + zn / 18 % 9) := by
    have := mz_rem z18.2 (show 0 < (nI 9).toInt by decide)
    rw [z18.1] at this
    rw [show z / 18 - z / 18 / 9 * 9 = nI (zn / 18 % 9) from this, show (1 : Int32) = nI 1 from rfl, nI_add]
  obtain ⟨al, hal, al3⟩ : ∃ al, al = zn % 3 ∧ al < 3 := ⟨_, rfl, Nat.mod_lt _ (by decide)⟩
  obtain ⟨sp, hsp, sp6⟩ : ∃ sp, sp = zn / 3 % 6 ∧ sp < 6 := ⟨_, rfl, Nat.mod_lt _ (by decide)⟩
  obtain ⟨st, hst, st9⟩ : ∃ st, st = 1 + zn / 18 % 9 ∧ st < 10 ∧ 1 ≤ st := ⟨_, rfl, by omega, by omega⟩
  rw [← hal] at eal
  rw [← hsp] at esp
  rw [← hst] at est
  obtain ⟨fr, hfr, frlt⟩ : ∃ fr, mz_pl Z r = nI fr ∧ fr < 2 ^ 31 ∧ fr = (Z 3 r).toInt.toNat - (mj_ct Z r 0 + mj_ct Z r 1) := by
    obtain ⟨a1, a2⟩ := mz_pl_nI hI.1.1 hr6 k2r0
    exact ⟨_, a1, a2, rfl⟩
  obtain ⟨its, hits⟩ : ∃ its, its = md_its Z r al := ⟨_, rfl⟩
  have eits : its = min al fr := by
    rw [hits]; unfold md_its
    rw [frlt.2]
    omega
  obtain ⟨T, hT⟩ : ∃ T, T = md_train (nI r) (nI its) (nI sp) (nI st) Z := ⟨_, rfl⟩
  have hmr : mj_nt Z < 12 := by omega
  obtain ⟨hTI, hTB⟩ : (m < 3 → mj_Ia T) ∧ (m < 3 → mz_B T) := by
    refine ⟨fun q => ?_, fun q => ?_⟩
    · rw [hT]
      exact md_train_I hI hmr vr (by rw [nI_toInt (by omega)]; omega) (by rw [nI_toInt (by omega)]; omega)
    · have e : mj_nt T = m + 1 := by
        rw [hT]
        have : (mj_u (mj_u (mj_u (mj_u (mj_u Z 29 (mj_nt Z) (nI r)) 34 (mj_nt Z) (nI its)) 30 (mj_nt Z) (nI sp)) 31 (mj_nt Z) (nI st)) 28 0 (Z 28 0 + 1) 28 0).toNatClampNeg = m + 1 := by
          rw [mj_u_at, if_pos ⟨rfl, rfl⟩, e28, ← nI_succ, nI_clamp (by omega)]
        exact this
      refine ⟨?_, ?_, ?_, by omega, ?_, ?_⟩
      · rw [hT]; exact hB.1
      · rw [hT]; exact hB.2.1
      · rw [hT]; exact hB.2.2.1
      · rw [hT]; exact hB.2.2.2.2.1
      · rw [hT]; exact hB.2.2.2.2.2
  have Tc : ∀ c, c ≤ 27 → T c = Z c := by
    intro c hc
    rw [hT]
    unfold md_train
    rw [mj_u_ne _ _ _ (by omega), mj_u_ne _ _ _ (by omega), mj_u_ne _ _ _ (by omega), mj_u_ne _ _ _ (by omega), mj_u_ne _ _ _ (by omega)]
  have Tnp : mj_np T = n := by unfold mj_np; rw [Tc 20 (by decide)]; exact hn.symm
  have Tnr : mj_nr T = mj_nr Z := by unfold mj_nr; rw [Tc 1 (by decide)]
  have Tct : ∀ r s, mj_ct T r s = mj_ct Z r s := by
    intro r s
    unfold mj_ct
    rw [Tnp, hn, Tc 21 (by decide), Tc 22 (by decide)]
  have Tits : md_its T r al = its := by
    rw [hits]
    unfold md_its
    rw [Tnp, hn, Tc 3 (by decide), Tct, Tct]
  have T28 : T 28 0 = nI (m + 1) := by
    rw [hT, nI_succ, ← e28]
    show mj_u _ 28 0 (Z 28 0 + 1) 28 0 = _
    rw [mj_u_at, if_pos ⟨rfl, rfl⟩]
  -- those who alight
  have second : m < 3 → n + al ≤ 8 → ¬ md_at Z (nI r) m → ∀ X' o12, mj_W 9 109 7 187 (mz_LT (nI r) (nI g0) z (some (.int 0)) (some (.int (nI its))) (some (.int (6 * nI m))) (some (.int (nI 0))) o12) [] (mz_j C (mz T X')) 0 K := by
    intro q3 q8 nat
    have hTI := hTI q3
    have hTB := hTB q3
    have als := fun k (hk : k ≤ its) => md_als_k (w := al) (g := nI g0) hTI (r0 := r) (by rw [Tnr]; exact hr6) (by rw [Tc 2 (by decide)]; exact k2r) (by rw [Tnr]; exact vg) (by rw [cg, Tc 2 (by decide)]; exact k2g) k (by rw [Tits]; exact hk)
    have alsB : ∀ k, k ≤ its → mz_B (md_als (nI r) (nI g0) k T) := by
      intro k
      induction k with
      | zero => exact fun _ => hTB
      | succ k ih =>
        intro hk
        obtain ⟨a1, a2, a3, a4, a5⟩ := als k (by omega)
        refine mz_add_B (Z := md_als (nI r) (nI g0) k T) (ih (by omega)) a1 (by rw [a2, Tnp]; omega) (by decide) ?_ ?_ (Or.inl rfl) (Or.inl rfl) (Or.inr ?_)
        · unfold mj_nr; rw [a5 1 (by omega)]; exact (show r < mj_nr T by rw [Tnr]; exact hr6)
        · have : mj_nr (md_als (nI r) (nI g0) k T) = mj_nr T := by unfold mj_nr; rw [a5 1 (by omega)]
          rw [this, Tnr]; exact vg
        · rw [a3, a4, a5 3 (by omega), Tct, Tct, Tc 3 (by decide)]
          omega
    refine mj_down (P := fun k => ∀ X' o12, mj_W 9 109 7 187 (mz_LT (nI r) (nI g0) z (some (.int 0)) (some (.int (nI its))) (some (.int (6 * nI m))) (some (.int (nI k))) o12) [] (mz_j C (mz (md_als (nI r) (nI g0) k T) X')) 0 K) its ?_ ?_
    · intro X' o12
      obtain ⟨a1, a2, a3, a4, a5⟩ := als its (Nat.le_refl _)
      have a6 := alsB its (Nat.le_refl _)
      have hc29 : (md_als (nI r) (nI g0) its T) = md_train (nI r) (nI its) (nI sp) (nI st) (md_als (nI r) (nI g0) its Z) := by
        rw [hT]; exact (mz_als_tr its).symm
      refine t109_187 ⟨fun _ => ?_, fun c => absurd (nI_le (Nat.le_refl _) (by omega)) c⟩
      simp only [mz_j84, mz_jv, mz_rT0 q3, mz_wT0 q3, eq_true (mz_vT0 q3), mz_rT1 q3, mz_wT1 q3, eq_true (mz_vT1 q3), mz_rT2 q3, mz_wT2 q3, eq_true (mz_vT2 q3), mz_rT3 q3, mz_wT3 q3, eq_true (mz_vT3 q3), mz_rT4 q3, mz_wT4 q3, eq_true (mz_vT4 q3), mz_rT5 q3, mz_wT5 q3, eq_true (mz_vT5 q3), true_and]
      refine ⟨by decide, ?_⟩
      have b30 : md_als (nI r) (nI g0) its T 30 m = nI sp := by
        rw [a5 30 (by omega), hT, hm]
        show mj_u _ 30 (mj_nt Z) (nI sp) 30 (mj_nt Z) = _
        rw [mj_u_at, if_pos ⟨rfl, rfl⟩]
      have b31 : md_als (nI r) (nI g0) its T 31 m = nI st := by
        rw [a5 31 (by omega), hT, hm]
        show mj_u _ 31 (mj_nt Z) (nI st) 31 (mj_nt Z) = _
        rw [mj_u_at, if_pos ⟨rfl, rfl⟩]
      rw [eal, b30, b31, mz_v0]
      have ift : md_ft Z (nI r) (nI al) (nI g0) (nI sp) (nI st) := by
        refine ⟨by rw [cr]; exact k2r, by rw [cg]; exact k2g, ⟨?_, ?_⟩, ⟨?_, ?_⟩, ⟨?_, ?_⟩⟩
        · rw [mj_lt, nI_toInt (by omega), show (0 : Int32).toInt = 0 by decide]; omega
        · rw [mj_lt, nI_toInt (by omega), show (20 : Int32).toInt = 20 by decide]; omega
        · rw [mj_lt, nI_toInt (by omega), show (0 : Int32).toInt = 0 by decide]; omega
        · rw [mj_lt, nI_toInt (by omega), show (99 : Int32).toInt = 99 by decide]; omega
        · rw [mj_lt, nI_toInt (by omega), show (1 : Int32).toInt = 1 by decide]; omega
        · rw [mj_lt, nI_toInt (by omega), show (9 : Int32).toInt = 9 by decide]; omega
      refine mk_train hI (mz_jCL hc) (fun q => absurd ⟨vr, vg⟩ q) (fun _ q => absurd ift q) (fun _ _ q => absurd ⟨hmr, by rw [← hm]; exact nat⟩ q) (fun _ _ _ M' hM => mz_jk ?_)
      rw [cr, nI_clamp (show al < 2 ^ 31 by omega), ← hits, ← hc29] at hM
      have e28' : md_als (nI r) (nI g0) its T 28 0 = nI (m + 1) := by rw [a5 28 (by omega)]; exact T28
      have fin : mz_H (md_als (nI r) (nI g0) its T) := by
        refine ⟨a1, a6, ?_, ?_, fun r hr => ?_⟩
        · unfold mj_nr; rw [a5 1 (by omega)]; exact Tnr.trans h.2.2.1
        · unfold mj_nl; rw [a5 8 (by omega), Tc 8 (by decide)]; exact h.2.2.2.1
        · rw [a5 2 (by omega), Tc 2 (by decide)]; exact h.2.2.2.2 r hr
      have fin5 : md_als (nI r) (nI g0) its T 0 5 = Z 0 5 := by rw [a5 0 (by omega), Tc 0 (by decide)]
      refine t109_275 ?_
      simp only [mz_j85, mz_rS0, mz_wS0, mz_rS1, mz_wS1, mz_rS2, mz_wS2, mz_rS3, mz_wS3, mz_rS4, mz_wS4, mz_rS5, mz_wS5, e28', nI_pred, hm]
      refine ⟨fun q => absurd trivial q, fun _ => t109_289 ⟨by decide, ?_⟩⟩
      rw [mj_nb1]
      exact hK _ _ _ fin fin5 hM
    · intro k hk ih X' o12
      obtain ⟨a1, a2, a3, a4, a5⟩ := als k (by omega)
      have a6 := alsB k (by omega)
      obtain ⟨A, hA⟩ : ∃ A, A = md_als (nI r) (nI g0) k T := ⟨_, rfl⟩
      rw [← hA] at a1 a2 a3 a4 a5 a6 ⊢
      have ih' : ∀ X' o12, mj_W 9 109 7 187 (mz_LT (nI r) (nI g0) z (some (.int 0)) (some (.int (nI its))) (some (.int (6 * nI m))) (some (.int (nI (k + 1)))) o12) [] (mz_j C (mz (md_add (nI r) (nI g0) 0 0 (-1) A) X')) 0 K := by
        rw [hA]; exact ih
      obtain ⟨q, hq⟩ : ∃ q, q = mj_np A := ⟨_, rfl⟩
      have q8 : q < 8 := by rw [hq, a2, Tnp]; omega
      have A20 : A 20 0 = nI q := by rw [hq]; exact (mj_S_P a1.1.1.s).2
      have Anr : mj_nr A = mj_nr T := by unfold mj_nr; rw [a5 1 (by omega)]
      refine t109_187 ⟨fun c => absurd c (nI_ge hk (by omega)), fun _ => ?_⟩
      simp only [mz_j81, mz_j85, mz_ju81, mz_ju85, mz_jv, A20, mz_rP0 q8, mz_wP0 q8, eq_true (mz_vP0 q8), mz_rP1 q8, mz_wP1 q8, eq_true (mz_vP1 q8), mz_rP2 q8, mz_wP2 q8, eq_true (mz_vP2 q8), mz_rP3 q8, mz_wP3 q8, eq_true (mz_vP3 q8), mz_rP4 q8, mz_wP4 q8, eq_true (mz_vP4 q8), mz_rP5 q8, mz_wP5 q8, eq_true (mz_vP5 q8), mz_rP6 q8, mz_wP6 q8, eq_true (mz_vP6 q8), mz_rP7 q8, mz_wP7 q8, eq_true (mz_vP7 q8), mz_rS0, mz_wS0, mz_rS1, mz_wS1, mz_rS2, mz_wS2, mz_rS3, mz_wS3, mz_rS4, mz_wS4, mz_rS5, mz_wS5, true_and]
      refine ⟨by decide, ?_⟩
      have x1 : mj_u (mj_u (mj_u (mj_u A 22 q (nI r)) 23 q (nI g0)) 25 q (-1)) 20 0 (nI q + 1) = mz_en q (nI r) (nI g0) 0 0 (-1) 0 A := by
        rw [← A20]
        exact mz_en0 a1.1.2.1 hq
      have x2 : mz_en q (nI r) (nI g0) 0 0 (-1) 0 A 20 0 - 1 = nI q := by
        show A 20 0 + 1 - 1 = nI q
        rw [A20, ← nI_succ, nI_pred]
      have wt : (0 : Int32) = md_wt (nI g0) A := by
        unfold md_wt
        rw [cg, a5 2 (by omega), Tc 2 (by decide), k2g, if_neg (fun z => absurd z.1 (by decide))]
      rw [x1, x2]
      refine mz_come a1 a6 hq q8 (by rw [Anr, Tnr]; exact hr6) (by rw [Anr, Tnr]; exact vg) (Or.inl rfl) (Or.inl rfl) (by decide) (Or.inr ?_) wt (mz_jl (t109_245 ?_))
      · rw [a3, a4, a5 3 (by omega), Tct, Tct, Tc 3 (by decide)]
        omega
      · rw [← nI_succ]
        exact ih' _ _
  -- the first loop: is a train there
  have first : ∀ b : Int32, (b = 0 → m < 3) → mj_bit b → mj_W 9 109 7 18 (mz_LT (nI r) (nI g0) z (some (.int b)) (some (.int (nI 0))) none none none) [] (mz_j C (mz Z X)) 0 K := by
    have q := mj_down (P := fun k => ∀ b : Int32, (b = 0 → m < 3 ∧ ¬ md_at Z (nI r) k) → mj_bit b → mj_W 9 109 7 18 (mz_LT (nI r) (nI g0) z (some (.int b)) (some (.int (nI k))) none none none) [] (mz_j C (mz Z X)) 0 K) m ?_ ?_
    · exact fun b hb hbb => q b (fun e => ⟨hb e, fun ⟨t, ht, _⟩ => absurd ht (Nat.not_lt_zero t)⟩) hbb
    · intro b hb hbb
      refine t109_18 ⟨fun _ => ⟨fun _ => ⟨by decide, hK Z C X h rfl hc⟩, fun b0 => ?_⟩, fun c => absurd ?_ c⟩
      · obtain ⟨m3', nat⟩ := hb b0
        simp only [mz_j85, mz_jv, mz_rS0, mz_wS0, mz_rS1, mz_wS1, mz_rS2, mz_wS2, mz_rS3, mz_wS3, mz_rS4, mz_wS4, mz_rS5, mz_wS5, e4, e28, eal, nI_add]
        refine ⟨fun le8 => ?_, fun _ => ⟨by decide, hK Z C X h rfl hc⟩⟩
        have le8' : n + al ≤ 8 := by
          rcases Nat.lt_or_ge 8 (n + al) with q | q
          · exact absurd le8 (nI_ge q (by omega))
          · exact q
        have tail : ∀ X' (v : Int32), v = nI its → mj_W 9 109 7 187 (mz_LT (nI r) (nI g0) z (some (.int 0)) (some (.int v)) (some (.int (6 * nI m))) (some (.int 0)) none) [] (mz_j C (mz (mj_u (mj_u (mj_u (mj_u (mj_u Z 29 m (nI r)) 34 m v) 30 m (nI sp)) 31 m (nI st)) 28 0 (nI m + 1)) X')) 0 K := by
          intro X' v hv
          have e : T = mj_u (mj_u (mj_u (mj_u (mj_u Z 29 m (nI r)) 34 m (nI its)) 30 m (nI sp)) 31 m (nI st)) 28 0 (nI m + 1) := by
            rw [hT, hm]; unfold md_train; rw [(mj_S_T hS).2]
          rw [hv, ← e]
          exact second m3' le8' nat X' none
        refine ⟨by decide, sp96 hS hB hr6 (mz_jl (t109_114 ⟨fun c => ⟨by decide, ?_⟩, fun c => ?_⟩))⟩
        · rw [mz_jv]
          refine sp96 hS hB hr6 (mz_jl (t109_131 ?_))
          rw [hfr] at c ⊢
          have : fr ≤ al := by
            rcases Nat.lt_or_ge al fr with q | q
            · exact absurd c (nI_ge q (by omega))
            · exact q
          simp only [mz_j84, mz_ju84, mz_j85, mz_ju85, e28, esp, est, mz_rT0 m3', mz_wT0 m3', eq_true (mz_vT0 m3'), mz_rT1 m3', mz_wT1 m3', eq_true (mz_vT1 m3'), mz_rT2 m3', mz_wT2 m3', eq_true (mz_vT2 m3'), mz_rT3 m3', mz_wT3 m3', eq_true (mz_vT3 m3'), mz_rT4 m3', mz_wT4 m3', eq_true (mz_vT4 m3'), mz_rT5 m3', mz_wT5 m3', eq_true (mz_vT5 m3'), mz_rS0, mz_wS0, mz_rS1, mz_wS1, mz_rS2, mz_wS2, mz_rS3, mz_wS3, mz_rS4, mz_wS4, mz_rS5, mz_wS5, true_and]
          rw [b0]
          exact tail _ _ (by rw [eits]; congr 1; omega)
        · rw [hfr] at c
          have : al < fr := by
            rcases Nat.lt_or_ge al fr with q | q
            · exact q
            · exact absurd (nI_le q (by omega)) c
          simp only [mz_j84, mz_ju84, mz_j85, mz_ju85, e28, esp, est, mz_rT0 m3', mz_wT0 m3', eq_true (mz_vT0 m3'), mz_rT1 m3', mz_wT1 m3', eq_true (mz_vT1 m3'), mz_rT2 m3', mz_wT2 m3', eq_true (mz_vT2 m3'), mz_rT3 m3', mz_wT3 m3', eq_true (mz_vT3 m3'), mz_rT4 m3', mz_wT4 m3', eq_true (mz_vT4 m3'), mz_rT5 m3', mz_wT5 m3', eq_true (mz_vT5 m3'), mz_rS0, mz_wS0, mz_rS1, mz_wS1, mz_rS2, mz_wS2, mz_rS3, mz_wS3, mz_rS4, mz_wS4, mz_rS5, mz_wS5, true_and]
          rw [b0]
          exact tail _ _ (by rw [eits]; congr 1; omega)
      · simp only [mz_j85, mz_rS0, mz_wS0, mz_rS1, mz_wS1, mz_rS2, mz_wS2, mz_rS3, mz_wS3, mz_rS4, mz_wS4, mz_rS5, mz_wS5]
        exact mj_te hS hm
    · intro k hk ih b hb hbb
      have k3 : k < 3 := by omega
      refine t109_18 ?_
      simp only [mz_j85, mz_j84, mz_rS0, mz_wS0, mz_rS1, mz_wS1, mz_rS2, mz_wS2, mz_rS3, mz_wS3, mz_rS4, mz_wS4, mz_rS5, mz_wS5, mz_rT0 k3, mz_wT0 k3, eq_true (mz_vT0 k3), mz_rT1 k3, mz_wT1 k3, eq_true (mz_vT1 k3), mz_rT2 k3, mz_wT2 k3, eq_true (mz_vT2 k3), mz_rT3 k3, mz_wT3 k3, eq_true (mz_vT3 k3), mz_rT4 k3, mz_wT4 k3, eq_true (mz_vT4 k3), mz_rT5 k3, mz_wT5 k3, eq_true (mz_vT5 k3), true_and]
      refine ⟨fun c => absurd c (mj_ts hS (by rw [← hm]; exact hk)), fun _ => ⟨fun c => ?_, fun c => ⟨fun d => ?_, fun d => ⟨fun e => ?_, fun e => ?_⟩⟩⟩⟩
      · refine t109_61 ?_
        rw [← nI_succ]
        exact ih 1 (fun e => absurd e (by decide)) (Or.inr rfl)
      · refine t109_61 ?_
        rw [← nI_succ]
        refine ih 0 (fun _ => ⟨(hb c).1, fun ⟨t, ht, w1, w2⟩ => ?_⟩) (Or.inl rfl)
        by_cases et : t = k
        · rw [et] at w2; exact d w2
        · exact (hb c).2 ⟨t, by omega, w1, w2⟩
      · refine t109_61 ?_
        rw [← nI_succ]
        refine ih 0 (fun _ => ⟨(hb c).1, fun ⟨t, ht, w1, w2⟩ => ?_⟩) (Or.inl rfl)
        by_cases et : t = k
        · rw [et, mj_lt] at w1
          rw [mj_le] at e
          omega
        · exact (hb c).2 ⟨t, by omega, w1, w2⟩
      · refine t109_61 ?_
        rw [← nI_succ]
        exact ih 1 (fun e => absurd e (by decide)) (Or.inr rfl)
  refine e109 ?_
  simp only [mz_j85, mz_rS0, mz_wS0, mz_rS1, mz_wS1, mz_rS2, mz_wS2, mz_rS3, mz_wS3, mz_rS4, mz_wS4, mz_rS5, mz_wS5, e28]
  refine ⟨fun c => t109_13 (first 0 (fun _ => ?_) (Or.inl rfl)), fun c => t109_13 (first 1 (fun e => absurd e (by decide)) (Or.inr rfl))⟩
  have : m ≠ 3 := fun e => c (by rw [e]; rfl)
  omega
end LWP
