-- ALL THAT IS ASKED IS ANSWERED ALIKE
section LWQ
variable {Z Z' X X' C C' L L' : mj_M} {K : mj_K} {p l r t a b i n s k d pc cn : Nat} {ls : List (Option Value)} {rest : List Value} {v g w : Int32}
theorem mz_dm {z a b : Nat} (hz : z < 2 ^ 31) (ha : 0 < a) (ha2 : a < 2 ^ 31) (hb : 0 < b) (hb2 : b < 2 ^ 31) : nI z / nI a - nI z / nI a / nI b * nI b = nI (z / a % b) := by
  have hq : z / a < 2 ^ 31 := Nat.lt_of_le_of_lt (Nat.div_le_self _ _) hz
  rw [pk_div hz ha ha2]
  have := mz_rem (x := nI (z / a)) (b := nI b) (by rw [nI_toInt hq]; exact Int.natCast_nonneg _) (by rw [nI_toInt hb2]; omega)
  rw [nI_clamp hq, nI_clamp hb2] at this
  exact this
theorem mz_dm1 {z b : Nat} (hz : z < 2 ^ 31) (hb : 0 < b) (hb2 : b < 2 ^ 31) : nI z - nI z / nI b * nI b = nI (z % b) := by
  have := mz_rem (x := nI z) (b := nI b) (by rw [nI_toInt hz]; exact Int.natCast_nonneg _) (by rw [nI_toInt hb2]; omega)
  rw [nI_clamp hz, nI_clamp hb2] at this
  exact this
theorem mz_qN (hc : mk_CL Z C) (hK : mj_W 9 k d pc ls (.int (Z 0 5) :: rest) (mz_j C L) cn K) : mj_Cm 74 1 [.ref 0] (mj_v (mz_j C L) 0) (mj_k2 9 k d pc ls rest (mz_j C L) 0 81 cn (some .int) K) := by
  rw [mz_v0]
  exact mk_now (mz_jCL hc) (mz_jk' hK)
theorem mz_qR (h : mj_Ia Z) (hc : mk_CL Z C) (hr : r < mj_nr Z) (hw : md_rg w 0 4) (hv : md_vR Z r w = v) (hK : mj_W 9 k d pc ls (.int v :: rest) (mz_j C L) cn K) : mj_Cm 75 3 [.ref 0, .int (nI r), .int w] (mj_v (mz_j C L) 0) (mj_k2 9 k d pc ls rest (mz_j C L) 0 81 cn (some .int) K) := by
  rw [mz_v0]
  have hR := mj_S_R h.1.1.s
  refine mk_ofRoom h (mz_jCL hc) (fun q => absurd (vp_in_nI hr (by omega)) q) (fun _ q => absurd hw q) (fun r' h1 h2 _ => mz_jk' ?_)
  have := (nI_eq (by omega) (by omega)).mp h2
  subst this
  rw [hv]
  exact hK
theorem mz_qL (h : mj_Ia Z) (hc : mk_CL Z C) (hl : l < mj_nl Z) (hw : md_rg w 0 4) (hv : md_vL Z l w = v) (hK : mj_W 9 k d pc ls (.int v :: rest) (mz_j C L) cn K) : mj_Cm 76 5 [.ref 0, .int (nI l), .int w] (mj_v (mz_j C L) 0) (mj_k2 9 k d pc ls rest (mz_j C L) 0 81 cn (some .int) K) := by
  rw [mz_v0]
  have hR := mj_S_L h.1.1.s
  refine mk_ofLink h (mz_jCL hc) (fun q => absurd (vp_in_nI hl (by omega)) q) (fun _ q => absurd hw q) (fun r' h1 h2 _ => mz_jk' ?_)
  have := (nI_eq (by omega) (by omega)).mp h2
  subst this
  rw [hv]
  exact hK
theorem mz_qP (h : mj_Ia Z) (hc : mk_CL Z C) (hp : p < mj_np Z) (hw : md_rg w 0 6) (hv : md_vP Z p w = v) (hK : mj_W 9 k d pc ls (.int v :: rest) (mz_j C L) cn K) : mj_Cm 77 4 [.ref 0, .int (nI p), .int w] (mj_v (mz_j C L) 0) (mj_k2 9 k d pc ls rest (mz_j C L) 0 81 cn (some .int) K) := by
  rw [mz_v0]
  have hR := (mj_S_P h.1.1.s).1
  refine mk_person h (mz_jCL hc) (fun q => absurd (vp_in_nI hp (by omega)) q) (fun _ q => absurd hw q) (fun r' h1 h2 _ => mz_jk' ?_)
  have := (nI_eq (by omega) (by omega)).mp h2
  subst this
  rw [hv]
  exact hK
theorem mz_qT (h : mj_Ia Z) (hc : mk_CL Z C) (ht : t < mj_nt Z) (hw : md_rg w 0 3) (hv : md_vT Z t w = v) (hK : mj_W 9 k d pc ls (.int v :: rest) (mz_j C L) cn K) : mj_Cm 78 3 [.ref 0, .int (nI t), .int w] (mj_v (mz_j C L) 0) (mj_k2 9 k d pc ls rest (mz_j C L) 0 81 cn (some .int) K) := by
  rw [mz_v0]
  have hR := (mj_S_T h.1.1.s).1
  refine mk_ofTrain h (mz_jCL hc) (fun q => absurd (vp_in_nI ht (by omega)) q) (fun _ q => absurd hw q) (fun r' h1 h2 _ => mz_jk' ?_)
  have := (nI_eq (by omega) (by omega)).mp h2
  subst this
  rw [hv]
  exact hK
theorem mz_qA (h : mj_Ia Z) (hc : mk_CL Z C) (hp : p < mj_np Z) (hK : mj_W 9 k d pc ls (.int (mj_dv Z (Z 24 p) (Z 40 p) (Z 22 p).toNatClampNeg (Z 23 p).toNatClampNeg) :: rest) (mz_j C L) cn K) : mj_Cm 81 4 [.ref 0, .int (nI p)] (mj_v (mz_j C L) 0) (mj_k2 9 k d pc ls rest (mz_j C L) 0 81 cn (some .int) K) := by
  rw [mz_v0]
  have hR := (mj_S_P h.1.1.s).1
  refine mk_alone h (mz_jCL hc) (fun q => absurd (vp_in_nI hp (by omega)) q) (fun r' h1 h2 => mz_jk' ?_)
  have := (nI_eq (by omega) (by omega)).mp h2
  subst this
  exact hK
theorem mz_qB (h : mj_Ia Z) (hc : mk_CL Z C) (hp : p < mj_np Z) (hK : mj_W 9 k d pc ls (.int (mj_dv Z (Z 24 p) (Z 40 p) (Z 22 p).toNatClampNeg (Z 23 p).toNatClampNeg) :: rest) (mz_j C L) cn K) : mj_Cm 82 16 [.ref 0, .int (nI p)] (mj_v (mz_j C L) 0) (mj_k2 9 k d pc ls rest (mz_j C L) 0 81 cn (some .int) K) := by
  rw [mz_v0]
  have hR := (mj_S_P h.1.1.s).1
  refine mk_aloneA h (mz_jCL hc) (fun q => absurd (vp_in_nI hp (by omega)) q) (fun r' h1 h2 => mz_jk' ?_)
  have := (nI_eq (by omega) (by omega)).mp h2
  subst this
  exact hK
theorem mz_jF {x : Int32} (h : mj_W 9 k d pc ls (.int x :: rest) (mz_j C L) cn K) (hL : ∀ c, c < 5 → L' c = L c) : mj_k2 9 k d pc ls rest (mz_j C L) 81 5 cn (some .int) K 0 x L' := by
  show mj_W 9 k d pc ls (.int x :: rest) (mj_mg (mz_j C L) 81 5 L') cn K
  rw [mz_jmF hL]
  exact h
abbrev mz_LM (x6 x7 : Int32) (o8 o9 o10 o11 o12 o13 : Option Value) : List (Option Value) := [some (.ref 0), some (.ref 81), some (.ref 82), some (.ref 83), some (.ref 84), some (.ref 85), some (.int x6), some (.int x7), o8, o9, o10, o11, o12, o13]
abbrev mz_oi (n : Nat) : Option Value := some (.int (nI n))
abbrev mz_1 : Option Value := some (.int 1)
-- the end: what is foretold of a room
theorem mz_s683 (h : mz_H Z) (hb : (Z 0 5).toInt + 100 ≤ 1000000) (hr : r < mj_nr Z) {zn : Nat} (hz : zn < 2 ^ 31) (hK : ∀ C' X', mk_CL Z C' → K 0 1 (mz_j C' (mz Z X'))) {x9 x10 x11 : Int32} {o12 o13 : Option Value} (hcn : cn ≤ 293) (hc : mk_CL Z C) : mj_W 9 107 17 683 (mz_LM (nI zn) (nI r) mz_1 (some (.int x9)) (some (.int x10)) (some (.int x11)) o12 o13) [] (mz_j C (mz Z X)) cn K := by
  have hI := h.1
  have hB := h.2.1
  have hR := mj_S_R hI.1.1.s
  have h749 : ∀ cn C X, cn ≤ 400 → mk_CL Z C → mj_W 9 107 17 749 (mz_LM (nI zn) (nI r) mz_1 (some (.int x9)) (some (.int x10)) (some (.int x11)) o12 o13) [.int 1] (mz_j C (mz Z X)) cn K := by
    intro cn C X hcn hc
    refine t107_749 ⟨hcn, ?_⟩
    rw [mj_nb1]
    exact hK C X hc
  have esec : 1 + (nI zn / 11520 - nI zn / 11520 / 20 * 20) = nI (1 + zn / 11520 % 20) := by
    have : nI zn / 11520 - nI zn / 11520 / 20 * 20 = nI (zn / 11520 % 20) := mz_dm hz (a := 11520) (b := 20) (by decide) (by decide) (by decide) (by decide)
    rw [this, show (1 : Int32) = nI 1 from rfl, nI_add]
  have hs := Nat.mod_lt (zn / 11520) (show 0 < 20 by decide)
  obtain ⟨sec, hsec⟩ : ∃ sec, sec = 1 + zn / 11520 % 20 := ⟨_, rfl⟩
  rw [← hsec] at esec
  refine t107_683 ⟨fun q => absurd q (by decide), fun _ => ⟨fun _ => h749 _ _ _ (by omega) hc, fun _ => ⟨by omega, ?_⟩⟩⟩
  rw [esec, mz_v0]
  have rg : md_rg (nI sec) 1 60 := by
    refine ⟨?_, ?_⟩
    · rw [mj_lt, nI_toInt (by omega), show (1 : Int32).toInt = 1 by decide]; omega
    · rw [mj_lt, nI_toInt (by omega), show (60 : Int32).toInt = 60 by decide]; omega
  refine mk_fore hI (by omega) (mz_jCL hc) (fun q => absurd (vp_in_nI hr (by omega)) q) (fun _ q => absurd rg q) (fun r' h1 h2 _ M' hM => mz_jk (t107_718 ⟨by omega, ?_⟩))
  · have := (nI_eq (by omega) (by omega)).mp h2
    subst this
    rw [esec, mz_jv, nI_clamp (show sec < 2 ^ 31 by omega)]
    refine sp105r hI hB h1 (by omega) (by omega) (by omega) (fun M2 hM2 => mz_jF (t107_741 ⟨fun q => absurd rfl q, fun _ => h749 _ _ _ (by omega) hM⟩) hM2)
theorem mz_s639 (h : mz_H Z) (hb : (Z 0 5).toInt + 100 ≤ 1000000) (hr : r < mj_nr Z) {zn : Nat} (hz : zn < 2 ^ 31) (hK : ∀ C' X', mk_CL Z C' → K 0 1 (mz_j C' (mz Z X'))) {x9 x10 x11 : Int32} {o12 o13 : Option Value} (hcn : cn ≤ 188) (hc : mk_CL Z C) : mj_W 9 107 17 639 (mz_LM (nI zn) (nI r) mz_1 (some (.int x9)) (some (.int x10)) (some (.int x11)) o12 o13) [] (mz_j C (mz Z X)) cn K := by
  have hI := h.1
  have hB := h.2.1
  refine t107_639 ⟨fun _ => mz_s683 h hb hr hz hK (by omega) hc, fun _ => ⟨fun q => absurd q (by decide), fun _ => ⟨by omega, ?_⟩⟩⟩
  rw [mz_v0]
  refine mk_clears hI hb (mz_jCL hc) (fun v hv M' hM => mz_jk (t107_660 ⟨by omega, ?_⟩))
  rw [mz_jv]
  exact sp105c hI hB hb (fun v2 M2 hv2 hM2 => mz_jF (t107_673 ⟨fun q => absurd (mz_csv_u hv hv2) q, fun _ => t107_681 (mz_s683 h hb hr hz hK (by omega) hM)⟩) hM2)
theorem mz_s519 (h : mz_H Z) (hb : (Z 0 5).toInt + 100 ≤ 1000000) (hr : r < mj_nr Z) {zn : Nat} (hz : zn < 2 ^ 31) (hK : ∀ C' X', mk_CL Z C' → K 0 1 (mz_j C' (mz Z X'))) {x9 x10 x11 : Int32} {o12 o13 : Option Value} (hcn : cn ≤ 180) (hc : mk_CL Z C) : mj_W 9 107 17 519 (mz_LM (nI zn) (nI r) mz_1 (some (.int x9)) (some (.int x10)) (some (.int x11)) o12 o13) [] (mz_j C (mz Z X)) cn K := by
  have hI := h.1
  have hB := h.2.1
  obtain ⟨m, hm⟩ : ∃ m, m = mj_nt Z := ⟨_, rfl⟩
  have e28 : Z 28 0 = nI m := by rw [hm]; exact (mj_S_T hI.1.1.s).2
  have m3 : m ≤ 3 := by rw [hm]; exact hB.2.2.2.1
  refine t107_519 ?_
  simp only [mz_j85, mz_rS0, mz_wS0, mz_rS1, mz_wS1, mz_rS2, mz_wS2, mz_rS3, mz_wS3, mz_rS4, mz_wS4, mz_rS5, mz_wS5, e28]
  by_cases m0 : m = 0
  · rw [m0]
    exact ⟨fun _ => mz_s639 h hb hr hz hK (by omega) hc, fun c => absurd (by decide) c⟩
  · refine ⟨fun c => absurd c (nI_nle (by omega) (by omega)), fun _ => ⟨fun q => absurd q (by decide), fun _ => ⟨nI_ne0 (by omega) (by omega), by omega, ?_⟩⟩⟩
    have e240 : nI zn / 240 - nI zn / 240 / nI m * nI m = nI (zn / 240 % m) := mz_dm hz (a := 240) (by decide) (by decide) (by omega) (by omega)
    rw [e240]
    have htm := Nat.mod_lt (zn / 240) (show 0 < m by omega)
    generalize zn / 240 % m = t at htm ⊢
    have t3 : t < 3 := by omega
    have htn : t < mj_nt Z := by rw [← hm]; exact htm
    refine mz_qT hI hc htn ⟨by decide, by decide⟩ (show md_vT Z t 0 = Z 33 t from rfl) (t107_551 ?_)
    simp only [mz_j84, mz_rT0 t3, mz_wT0 t3, eq_true (mz_vT0 t3), mz_rT1 t3, mz_wT1 t3, eq_true (mz_vT1 t3), mz_rT2 t3, mz_wT2 t3, eq_true (mz_vT2 t3), mz_rT3 t3, mz_wT3 t3, eq_true (mz_vT3 t3), mz_rT4 t3, mz_wT4 t3, eq_true (mz_vT4 t3), mz_rT5 t3, mz_wT5 t3, eq_true (mz_vT5 t3), true_and]
    refine ⟨fun q => absurd trivial q, fun _ => ⟨by omega, mz_qT hI hc htn ⟨by decide, by decide⟩ (show md_vT Z t 1 = Z 34 t from rfl) (t107_571 ?_)⟩⟩
    simp only [mz_j84, mz_rT0 t3, mz_wT0 t3, eq_true (mz_vT0 t3), mz_rT1 t3, mz_wT1 t3, eq_true (mz_vT1 t3), mz_rT2 t3, mz_wT2 t3, eq_true (mz_vT2 t3), mz_rT3 t3, mz_wT3 t3, eq_true (mz_vT3 t3), mz_rT4 t3, mz_wT4 t3, eq_true (mz_vT4 t3), mz_rT5 t3, mz_wT5 t3, eq_true (mz_vT5 t3), true_and]
    refine ⟨fun q => absurd trivial q, fun _ => ⟨by omega, mz_qT hI hc htn ⟨by decide, by decide⟩ rfl (t107_591 ?_)⟩⟩
    have e2 : md_vT Z t 2 = if Z 31 t ≤ 0 then 0 else 1 := rfl
    have fin : mj_W 9 107 17 619 (mz_LM (nI zn) (nI r) mz_1 (some (.int x9)) (some (.int x10)) (some (.int x11)) (mz_oi t) o13) [.int (Z 31 t)] (mz_j C (mz Z X)) (cn + 2 + 2 + 2 + 2) K := by
      refine t107_619 ?_
      simp only [mz_j84, mz_rT0 t3, mz_wT0 t3, eq_true (mz_vT0 t3), mz_rT1 t3, mz_wT1 t3, eq_true (mz_vT1 t3), mz_rT2 t3, mz_wT2 t3, eq_true (mz_vT2 t3), mz_rT3 t3, mz_wT3 t3, eq_true (mz_vT3 t3), mz_rT4 t3, mz_wT4 t3, eq_true (mz_vT4 t3), mz_rT5 t3, mz_wT5 t3, eq_true (mz_vT5 t3), true_and]
      exact ⟨fun q => absurd trivial q, fun _ => t107_637 (mz_s639 h hb hr hz hK (by omega) hc)⟩
    simp only [mz_j84, mz_rT0 t3, mz_wT0 t3, eq_true (mz_vT0 t3), mz_rT1 t3, mz_wT1 t3, eq_true (mz_vT1 t3), mz_rT2 t3, mz_wT2 t3, eq_true (mz_vT2 t3), mz_rT3 t3, mz_wT3 t3, eq_true (mz_vT3 t3), mz_rT4 t3, mz_wT4 t3, eq_true (mz_vT4 t3), mz_rT5 t3, mz_wT5 t3, eq_true (mz_vT5 t3), true_and]
    rw [e2]
    refine ⟨fun c => ?_, fun c => ?_⟩
    · rw [if_pos c]
      exact t107_609 ⟨fun q => absurd rfl q, fun _ => ⟨by omega, mz_qT hI hc htn ⟨by decide, by decide⟩ (show md_vT Z t 3 = Z 31 t from rfl) fin⟩⟩
    · rw [if_neg c]
      exact t107_609 ⟨fun q => absurd rfl q, fun _ => ⟨by omega, mz_qT hI hc htn ⟨by decide, by decide⟩ (show md_vT Z t 3 = Z 31 t from rfl) fin⟩⟩
theorem mz_s303 (h : mz_H Z) (hb : (Z 0 5).toInt + 100 ≤ 1000000) (hr : r < mj_nr Z) {zn : Nat} (hz : zn < 2 ^ 31) (hK : ∀ C' X', mk_CL Z C' → K 0 1 (mz_j C' (mz Z X'))) {x8 x9 x10 x11 : Int32} {o12 o13 : Option Value} (hcn : cn ≤ 160) (hc : mk_CL Z C) : mj_W 9 107 17 303 (mz_LM (nI zn) (nI r) (some (.int x8)) (some (.int x9)) (some (.int x10)) (some (.int x11)) o12 o13) [.int 1] (mz_j C (mz Z X)) cn K := by
  have hI := h.1
  have hB := h.2.1
  have hS := hI.1.1.s
  obtain ⟨n, hn⟩ : ∃ n, n = mj_np Z := ⟨_, rfl⟩
  have e4 : Z 20 0 = nI n := by rw [hn]; exact (mj_S_P hS).2
  have n8 : n ≤ 8 := by rw [hn]; exact hB.2.2.1
  refine t107_303 ?_
  simp only [mz_j81, mz_j85, mz_jv, mz_rS0, mz_wS0, mz_rS1, mz_wS1, mz_rS2, mz_wS2, mz_rS3, mz_wS3, mz_rS4, mz_wS4, mz_rS5, mz_wS5, e4]
  by_cases n0 : n = 0
  · rw [n0]
    exact ⟨fun _ => mz_s519 h hb hr hz hK (by omega) hc, fun c => absurd (by decide) c⟩
  · have e30 : nI zn / 30 - nI zn / 30 / nI n * nI n = nI (zn / 30 % n) := mz_dm hz (a := 30) (by decide) (by decide) (by omega) (by omega)
    simp only [e30]
    have hpm := Nat.mod_lt (zn / 30) (show 0 < n by omega)
    generalize zn / 30 % n = p at hpm ⊢
    have p8 : p < 8 := by omega
    have hpn : p < mj_np Z := by rw [← hn]; exact hpm
    simp only [mz_rP0 p8, mz_wP0 p8, eq_true (mz_vP0 p8), mz_rP1 p8, mz_wP1 p8, eq_true (mz_vP1 p8), mz_rP2 p8, mz_wP2 p8, eq_true (mz_vP2 p8), mz_rP3 p8, mz_wP3 p8, eq_true (mz_vP3 p8), mz_rP4 p8, mz_wP4 p8, eq_true (mz_vP4 p8), mz_rP5 p8, mz_wP5 p8, eq_true (mz_vP5 p8), mz_rP6 p8, mz_wP6 p8, eq_true (mz_vP6 p8), mz_rP7 p8, mz_wP7 p8, eq_true (mz_vP7 p8), true_and]
    refine ⟨fun c => absurd c (nI_nle (by omega) (by omega)), fun _ => ⟨fun q => absurd q (by decide), fun _ => ⟨nI_ne0 (by omega) (by omega), by omega, ?_⟩⟩⟩
    obtain ⟨-, v22, hk, -⟩ := hI.1.1.a p hpn
    obtain ⟨a, ea, ha, ca⟩ := mz_rm hS v22
    obtain ⟨g, eg, hg, cg⟩ := mz_rm hS (hS.2.2.2.1 p hpn).1
    rw [ea, eg]
    refine sp93 hS hB hpn hk ha hg (fun X1 _ => mz_jl (t107_354 ⟨by omega, ?_⟩))
    generalize mz_mx X X1 = X2
    have edv : mj_dv Z (Z 24 p) (Z 40 p) (Z 22 p).toNatClampNeg (Z 23 p).toNatClampNeg = mj_dv Z (Z 24 p) (Z 40 p) a g := by rw [ca, cg]
    have rg : ∀ {w : Int32}, 0 ≤ w.toInt → w.toInt ≤ 6 → md_rg w 0 6 := fun {w} a b => ⟨by rw [mj_lt, show (0 : Int32).toInt = 0 by decide]; omega, by rw [mj_lt, show (6 : Int32).toInt = 6 by decide]; omega⟩
    refine mz_qP hI hc hpn (rg (by decide) (by decide)) (show md_vP Z p 0 = Z 21 p from rfl) (t107_363 ?_)
    simp only [mz_j81, mz_rP0 p8, mz_wP0 p8, eq_true (mz_vP0 p8), mz_rP1 p8, mz_wP1 p8, eq_true (mz_vP1 p8), mz_rP2 p8, mz_wP2 p8, eq_true (mz_vP2 p8), mz_rP3 p8, mz_wP3 p8, eq_true (mz_vP3 p8), mz_rP4 p8, mz_wP4 p8, eq_true (mz_vP4 p8), mz_rP5 p8, mz_wP5 p8, eq_true (mz_vP5 p8), mz_rP6 p8, mz_wP6 p8, eq_true (mz_vP6 p8), mz_rP7 p8, mz_wP7 p8, eq_true (mz_vP7 p8), true_and]
    refine ⟨fun q => absurd trivial q, fun _ => ⟨by omega, mz_qP hI hc hpn (rg (by decide) (by decide)) (show md_vP Z p 1 = Z 22 p from rfl) (t107_382 ?_)⟩⟩
    simp only [mz_j81, mz_rP0 p8, mz_wP0 p8, eq_true (mz_vP0 p8), mz_rP1 p8, mz_wP1 p8, eq_true (mz_vP1 p8), mz_rP2 p8, mz_wP2 p8, eq_true (mz_vP2 p8), mz_rP3 p8, mz_wP3 p8, eq_true (mz_vP3 p8), mz_rP4 p8, mz_wP4 p8, eq_true (mz_vP4 p8), mz_rP5 p8, mz_wP5 p8, eq_true (mz_vP5 p8), mz_rP6 p8, mz_wP6 p8, eq_true (mz_vP6 p8), mz_rP7 p8, mz_wP7 p8, eq_true (mz_vP7 p8), true_and]
    refine ⟨fun q => absurd trivial q, fun _ => ⟨by omega, mz_qP hI hc hpn (rg (by decide) (by decide)) (show md_vP Z p 2 = Z 23 p from rfl) (t107_399 ?_)⟩⟩
    simp only [mz_j81, mz_rP0 p8, mz_wP0 p8, eq_true (mz_vP0 p8), mz_rP1 p8, mz_wP1 p8, eq_true (mz_vP1 p8), mz_rP2 p8, mz_wP2 p8, eq_true (mz_vP2 p8), mz_rP3 p8, mz_wP3 p8, eq_true (mz_vP3 p8), mz_rP4 p8, mz_wP4 p8, eq_true (mz_vP4 p8), mz_rP5 p8, mz_wP5 p8, eq_true (mz_vP5 p8), mz_rP6 p8, mz_wP6 p8, eq_true (mz_vP6 p8), mz_rP7 p8, mz_wP7 p8, eq_true (mz_vP7 p8), true_and]
    refine ⟨fun q => absurd trivial q, fun _ => ⟨by omega, mz_qP hI hc hpn (rg (by decide) (by decide)) (show md_vP Z p 3 = mj_nl1 Z p from rfl) (t107_418 ⟨by omega, ?_⟩)⟩⟩
    rw [mz_jv]
    refine sp94 hS hB hI.1.1.a hpn (fun X3 _ => mz_jl (t107_427 ⟨fun q => absurd rfl q, fun _ => ⟨by omega, ?_⟩⟩))
    generalize mz_mx X2 X3 = X4
    refine mz_qP hI hc hpn (rg (by decide) (by decide)) (show md_vP Z p 4 = Z 40 p from rfl) (t107_437 ?_)
    simp only [mz_j81, mz_rP0 p8, mz_wP0 p8, eq_true (mz_vP0 p8), mz_rP1 p8, mz_wP1 p8, eq_true (mz_vP1 p8), mz_rP2 p8, mz_wP2 p8, eq_true (mz_vP2 p8), mz_rP3 p8, mz_wP3 p8, eq_true (mz_vP3 p8), mz_rP4 p8, mz_wP4 p8, eq_true (mz_vP4 p8), mz_rP5 p8, mz_wP5 p8, eq_true (mz_vP5 p8), mz_rP6 p8, mz_wP6 p8, eq_true (mz_vP6 p8), mz_rP7 p8, mz_wP7 p8, eq_true (mz_vP7 p8), true_and]
    refine ⟨fun q => absurd trivial q, fun _ => ⟨by omega, mz_qP hI hc hpn (rg (by decide) (by decide)) (show md_vP Z p 5 = Z 27 p from rfl) (t107_456 ?_)⟩⟩
    simp only [mz_j81, mz_rP0 p8, mz_wP0 p8, eq_true (mz_vP0 p8), mz_rP1 p8, mz_wP1 p8, eq_true (mz_vP1 p8), mz_rP2 p8, mz_wP2 p8, eq_true (mz_vP2 p8), mz_rP3 p8, mz_wP3 p8, eq_true (mz_vP3 p8), mz_rP4 p8, mz_wP4 p8, eq_true (mz_vP4 p8), mz_rP5 p8, mz_wP5 p8, eq_true (mz_vP5 p8), mz_rP6 p8, mz_wP6 p8, eq_true (mz_vP6 p8), mz_rP7 p8, mz_wP7 p8, eq_true (mz_vP7 p8), true_and]
    refine ⟨fun q => absurd trivial q, fun _ => ⟨by omega, mz_qP hI hc hpn (rg (by decide) (by decide)) (show md_vP Z p 6 = Z 26 p from rfl) (t107_477 ?_)⟩⟩
    simp only [mz_j81, mz_rP0 p8, mz_wP0 p8, eq_true (mz_vP0 p8), mz_rP1 p8, mz_wP1 p8, eq_true (mz_vP1 p8), mz_rP2 p8, mz_wP2 p8, eq_true (mz_vP2 p8), mz_rP3 p8, mz_wP3 p8, eq_true (mz_vP3 p8), mz_rP4 p8, mz_wP4 p8, eq_true (mz_vP4 p8), mz_rP5 p8, mz_wP5 p8, eq_true (mz_vP5 p8), mz_rP6 p8, mz_wP6 p8, eq_true (mz_vP6 p8), mz_rP7 p8, mz_wP7 p8, eq_true (mz_vP7 p8), true_and]
    refine ⟨fun q => absurd trivial q, fun _ => ⟨by omega, mz_qA hI hc hpn (t107_496 ⟨fun q => absurd edv q, fun _ => ⟨by omega, mz_qB hI hc hpn (t107_507 ⟨fun q => absurd edv q, fun _ => t107_517 (mz_s519 h hb hr hz hK (by omega) hc)⟩)⟩⟩)⟩⟩
theorem mz_s208 (h : mz_H Z) (hb : (Z 0 5).toInt + 100 ≤ 1000000) (hr : r < mj_nr Z) {zn : Nat} (hz : zn < 2 ^ 31) (hK : ∀ C' X', mk_CL Z C' → K 0 1 (mz_j C' (mz Z X'))) (hl : l < mj_nl Z) {x11 : Int32} {o12 o13 : Option Value} (hcn : cn ≤ 150) (hc : mk_CL Z C) : mj_W 9 107 17 208 (mz_LM (nI zn) (nI r) mz_1 (mz_oi l) (mz_oi (mj_cb (fun p => decide (mj_nl1 Z p = nI l)) (mj_np Z))) (some (.int x11)) o12 o13) [.int (mj_ra Z l)] (mz_j C (mz Z X)) cn K := by
  have hI := h.1
  have hB := h.2.1
  have hl5 : l < 5 := by rw [h.2.2.2.1] at hl; exact hl
  refine t107_208 ⟨fun q => absurd q (by decide), fun _ => ⟨by omega, mz_qL hI hc hl ⟨by decide, by decide⟩ (show md_vL Z l 0 = Z 16 l from rfl) (t107_222 ?_)⟩⟩
  simp only [mz_j82, mz_rL0 hl5, mz_wL0 hl5, eq_true (mz_vL0 hl5), mz_rL1 hl5, mz_wL1 hl5, eq_true (mz_vL1 hl5), mz_rL2 hl5, mz_wL2 hl5, eq_true (mz_vL2 hl5), mz_rL3 hl5, mz_wL3 hl5, eq_true (mz_vL3 hl5), mz_rL4 hl5, mz_wL4 hl5, eq_true (mz_vL4 hl5), mz_rL5 hl5, mz_wL5 hl5, eq_true (mz_vL5 hl5), mz_rL6 hl5, mz_wL6 hl5, eq_true (mz_vL6 hl5), mz_rL7 hl5, mz_wL7 hl5, eq_true (mz_vL7 hl5), mz_rL8 hl5, mz_wL8 hl5, eq_true (mz_vL8 hl5), mz_rL9 hl5, mz_wL9 hl5, eq_true (mz_vL9 hl5), mz_rL10 hl5, mz_wL10 hl5, eq_true (mz_vL10 hl5), true_and]
  refine ⟨fun q => absurd trivial q, fun _ => ⟨by omega, mz_qL hI hc hl ⟨by decide, by decide⟩ (show md_vL Z l 1 = Z 14 l from rfl) (t107_241 ?_)⟩⟩
  simp only [mz_j82, mz_rL0 hl5, mz_wL0 hl5, eq_true (mz_vL0 hl5), mz_rL1 hl5, mz_wL1 hl5, eq_true (mz_vL1 hl5), mz_rL2 hl5, mz_wL2 hl5, eq_true (mz_vL2 hl5), mz_rL3 hl5, mz_wL3 hl5, eq_true (mz_vL3 hl5), mz_rL4 hl5, mz_wL4 hl5, eq_true (mz_vL4 hl5), mz_rL5 hl5, mz_wL5 hl5, eq_true (mz_vL5 hl5), mz_rL6 hl5, mz_wL6 hl5, eq_true (mz_vL6 hl5), mz_rL7 hl5, mz_wL7 hl5, eq_true (mz_vL7 hl5), mz_rL8 hl5, mz_wL8 hl5, eq_true (mz_vL8 hl5), mz_rL9 hl5, mz_wL9 hl5, eq_true (mz_vL9 hl5), mz_rL10 hl5, mz_wL10 hl5, eq_true (mz_vL10 hl5), true_and]
  refine ⟨fun q => absurd trivial q, fun _ => ⟨by omega, mz_qL hI hc hl ⟨by decide, by decide⟩ (show md_vL Z l 2 = Z 15 l from rfl) (t107_261 ?_)⟩⟩
  simp only [mz_j82, mz_rL0 hl5, mz_wL0 hl5, eq_true (mz_vL0 hl5), mz_rL1 hl5, mz_wL1 hl5, eq_true (mz_vL1 hl5), mz_rL2 hl5, mz_wL2 hl5, eq_true (mz_vL2 hl5), mz_rL3 hl5, mz_wL3 hl5, eq_true (mz_vL3 hl5), mz_rL4 hl5, mz_wL4 hl5, eq_true (mz_vL4 hl5), mz_rL5 hl5, mz_wL5 hl5, eq_true (mz_vL5 hl5), mz_rL6 hl5, mz_wL6 hl5, eq_true (mz_vL6 hl5), mz_rL7 hl5, mz_wL7 hl5, eq_true (mz_vL7 hl5), mz_rL8 hl5, mz_wL8 hl5, eq_true (mz_vL8 hl5), mz_rL9 hl5, mz_wL9 hl5, eq_true (mz_vL9 hl5), mz_rL10 hl5, mz_wL10 hl5, eq_true (mz_vL10 hl5), true_and]
  refine ⟨fun q => absurd trivial q, fun _ => ⟨by omega, mz_qL hI hc hl ⟨by decide, by decide⟩ (show md_vL Z l 3 = nI (mj_cb (fun p => decide (mj_nl1 Z p = nI l)) (mj_np Z)) from rfl) (t107_281 ⟨fun q => absurd rfl q, fun _ => ⟨by omega, mz_qL hI hc hl ⟨by decide, by decide⟩ (show md_vL Z l 4 = mj_ra Z l from rfl) (t107_293 ⟨fun q => absurd rfl q, fun _ => mz_s303 h hb hr hz hK (by omega) hc⟩)⟩⟩)⟩⟩
theorem mz_s130 (h : mz_H Z) (hb : (Z 0 5).toInt + 100 ≤ 1000000) (hr : r < mj_nr Z) {zn : Nat} (hz : zn < 2 ^ 31) (hK : ∀ C' X', mk_CL Z C' → K 0 1 (mz_j C' (mz Z X'))) (hl : l < mj_nl Z) {o12 o13 : Option Value} (hcn : cn ≤ 150) (hc : mk_CL Z C) : mj_W 9 107 17 130 (mz_LM (nI zn) (nI r) mz_1 (mz_oi l) (mz_oi 0) (mz_oi 0) o12 o13) [] (mz_j C (mz Z X)) cn K := by
  have hI := h.1
  have hB := h.2.1
  have hS := hI.1.1.s
  obtain ⟨n, hn⟩ : ∃ n, n = mj_np Z := ⟨_, rfl⟩
  have e4 : Z 20 0 = nI n := by rw [hn]; exact (mj_S_P hS).2
  have n8 : n ≤ 8 := by rw [hn]; exact hB.2.2.1
  have hl5 : l < 5 := by rw [h.2.2.2.1] at hl; exact hl
  refine mj_down (P := fun k => ∀ X, mj_W 9 107 17 130 (mz_LM (nI zn) (nI r) mz_1 (mz_oi l) (mz_oi (mj_cb (fun p => decide (mj_nl1 Z p = nI l)) k)) (mz_oi k) o12 o13) [] (mz_j C (mz Z X)) cn K) n ?_ ?_ X
  · intro X
    rw [hn]
    refine t107_130 ?_
    simp only [mz_j82, mz_j85, mz_rS0, mz_wS0, mz_rS1, mz_wS1, mz_rS2, mz_wS2, mz_rS3, mz_wS3, mz_rS4, mz_wS4, mz_rS5, mz_wS5, mz_rL0 hl5, mz_wL0 hl5, eq_true (mz_vL0 hl5), mz_rL1 hl5, mz_wL1 hl5, eq_true (mz_vL1 hl5), mz_rL2 hl5, mz_wL2 hl5, eq_true (mz_vL2 hl5), mz_rL3 hl5, mz_wL3 hl5, eq_true (mz_vL3 hl5), mz_rL4 hl5, mz_wL4 hl5, eq_true (mz_vL4 hl5), mz_rL5 hl5, mz_wL5 hl5, eq_true (mz_vL5 hl5), mz_rL6 hl5, mz_wL6 hl5, eq_true (mz_vL6 hl5), mz_rL7 hl5, mz_wL7 hl5, eq_true (mz_vL7 hl5), mz_rL8 hl5, mz_wL8 hl5, eq_true (mz_vL8 hl5), mz_rL9 hl5, mz_wL9 hl5, eq_true (mz_vL9 hl5), mz_rL10 hl5, mz_wL10 hl5, eq_true (mz_vL10 hl5), true_and]
    refine ⟨fun _ => ?_, fun c => absurd (by rw [e4, hn]; exact nI_le (Nat.le_refl _) (by omega)) c⟩
    have er : (¬ Z 19 l = 1 → Z 13 l = mj_ra Z l) ∧ (Z 19 l = 1 → (Z 13 l + 1) / 2 = mj_ra Z l) := by
      obtain ⟨b16, b17, b18, b19, r1, r2⟩ := hS.2.2.2.2.2.1 l hl
      unfold mj_ra
      refine ⟨fun q => ?_, fun q => ?_⟩
      · rw [if_pos ((mz_and2 _ b19).mp q)]
      · rw [if_neg (by rw [q]; decide)]
    refine ⟨fun q => ?_, fun q => ?_⟩
    · rw [er.1 q]
      exact mz_s208 h hb hr hz hK hl hcn hc
    · rw [er.2 q]
      exact mz_s208 h hb hr hz hK hl hcn hc
  · intro k hk ih X
    refine t107_130 ?_
    simp only [mz_j82, mz_j85, mz_jv, mz_rS0, mz_wS0, mz_rS1, mz_wS1, mz_rS2, mz_wS2, mz_rS3, mz_wS3, mz_rS4, mz_wS4, mz_rS5, mz_wS5, e4]
    refine ⟨fun c => absurd c (nI_ge hk (by omega)), fun _ => ⟨by omega, sp94 hS hB hI.1.1.a (by rw [← hn]; exact hk) (fun X1 _ => mz_jl ?_)⟩⟩
    generalize mz_mx X X1 = X2
    have ih' : mj_W 9 107 17 130 (mz_LM (nI zn) (nI r) mz_1 (mz_oi l) (mz_oi (mj_cb (fun p => decide (mj_nl1 Z p = nI l)) k + (if decide (mj_nl1 Z k = nI l) = true then 1 else 0))) (mz_oi (k + 1)) o12 o13) [] (mz_j C (mz Z X2)) cn K := ih X2
    refine t107_150 ⟨fun q => t107_160 ?_, fun q => t107_160 ?_⟩
    · rw [if_neg (by rw [decide_eq_false q]; decide), Nat.add_zero] at ih'
      rw [mz_a0, ← nI_succ]
      exact ih'
    · rw [if_pos (decide_eq_true q)] at ih'
      rw [← nI_succ, ← nI_succ]
      exact ih'
theorem mz_s68 (h : mz_H Z) (hb : (Z 0 5).toInt + 100 ≤ 1000000) (hr : r < mj_nr Z) {zn : Nat} (hz : zn < 2 ^ 31) (hK : ∀ C' X', mk_CL Z C' → K 0 1 (mz_j C' (mz Z X'))) {o10 o11 o12 o13 : Option Value} (hcn : cn ≤ 140) (hc : mk_CL Z C) : mj_W 9 107 17 68 (mz_LM (nI zn) (nI r) mz_1 (some (.int 2)) o10 o11 o12 o13) [] (mz_j C (mz Z X)) cn K := by
  have hI := h.1
  have hB := h.2.1
  have hr6 : r < 6 := by rw [h.2.2.1] at hr; exact hr
  have e6 : nI zn / 6 - nI zn / 6 / nI 5 * nI 5 = nI (zn / 6 % 5) := mz_dm hz (a := 6) (by decide) (by decide) (by decide) (by decide)
  refine t107_68 ⟨fun q => absurd q (by decide), fun _ => ⟨fun q => absurd q (by decide), fun _ => ⟨by omega, mz_qR hI hc hr ⟨by decide, by decide⟩ (show md_vR Z r 2 = Z 7 r from rfl) (t107_87 ?_)⟩⟩⟩
  simp only [mz_j83, mz_rR0 hr6, mz_wR0 hr6, eq_true (mz_vR0 hr6), mz_rR1 hr6, mz_wR1 hr6, eq_true (mz_vR1 hr6), mz_rR2 hr6, mz_wR2 hr6, eq_true (mz_vR2 hr6), mz_rR3 hr6, mz_wR3 hr6, eq_true (mz_vR3 hr6), mz_rR4 hr6, mz_wR4 hr6, eq_true (mz_vR4 hr6), true_and]
  refine ⟨fun q => absurd trivial q, fun _ => t107_104 ?_⟩
  refine t107_68 ⟨fun q => absurd q (by decide), fun _ => ⟨fun q => absurd q (by decide), fun _ => ⟨by omega, mz_qR hI hc hr ⟨by decide, by decide⟩ (show md_vR Z r (2 + 1) = Z 5 r from rfl) (t107_87 ?_)⟩⟩⟩
  rw [show (2 + 1 : Int32) = 3 from rfl]
  simp only [mz_j83, mz_rR0 hr6, mz_wR0 hr6, eq_true (mz_vR0 hr6), mz_rR1 hr6, mz_wR1 hr6, eq_true (mz_vR1 hr6), mz_rR2 hr6, mz_wR2 hr6, eq_true (mz_vR2 hr6), mz_rR3 hr6, mz_wR3 hr6, eq_true (mz_vR3 hr6), mz_rR4 hr6, mz_wR4 hr6, eq_true (mz_vR4 hr6), true_and]
  refine ⟨fun q => absurd trivial q, fun _ => t107_104 ?_⟩
  refine t107_68 ⟨fun q => absurd q (by decide), fun _ => ⟨fun q => absurd q (by decide), fun _ => ⟨by omega, mz_qR hI hc hr ⟨by decide, by decide⟩ (show md_vR Z r (3 + 1) = Z 6 r from rfl) (t107_87 ?_)⟩⟩⟩
  rw [show (3 + 1 : Int32) = 4 from rfl]
  simp only [mz_j83, mz_rR0 hr6, mz_wR0 hr6, eq_true (mz_vR0 hr6), mz_rR1 hr6, mz_wR1 hr6, eq_true (mz_vR1 hr6), mz_rR2 hr6, mz_wR2 hr6, eq_true (mz_vR2 hr6), mz_rR3 hr6, mz_wR3 hr6, eq_true (mz_vR3 hr6), mz_rR4 hr6, mz_wR4 hr6, eq_true (mz_vR4 hr6), true_and]
  refine ⟨fun q => absurd trivial q, fun _ => t107_104 ?_⟩
  refine t107_68 ⟨fun _ => ?_, fun q => absurd (by decide) q⟩
  simp only [mz_j85, mz_rS0, mz_wS0, mz_rS1, mz_wS1, mz_rS2, mz_wS2, mz_rS3, mz_wS3, mz_rS4, mz_wS4, mz_rS5, mz_wS5, h.e8, e6]
  exact ⟨by decide, mz_s130 h hb hr hz hK (by rw [h.2.2.2.1]; exact Nat.mod_lt _ (by decide)) (by omega) hc⟩
theorem sp107 (h : mz_H Z) (hb : (Z 0 5).toInt + 100 ≤ 1000000) {zn : Nat} (hz : zn < 2 ^ 31) (hc : mk_CL Z C) (hK : ∀ C' X', mk_CL Z C' → K 0 1 (mz_j C' (mz Z X'))) : mj_Cm 107 17 [.ref 0, .ref 81, .ref 82, .ref 83, .ref 84, .ref 85, .int (nI zn)] (mz_j C (mz Z X)) K := by
  have hI := h.1
  have hB := h.2.1
  have hS := hI.1.1.s
  have er : nI zn - nI zn / nI 6 * nI 6 = nI (zn % 6) := mz_dm1 hz (by decide) (by decide)
  have hr : zn % 6 < mj_nr Z := by rw [h.2.2.1]; exact Nat.mod_lt _ (by decide)
  refine e107 ?_
  simp only [mz_j85, mz_rS0, mz_wS0, mz_rS1, mz_wS1, mz_rS2, mz_wS2, mz_rS3, mz_wS3, mz_rS4, mz_wS4, mz_rS5, mz_wS5, h.e1, er]
  generalize zn % 6 = r at hr ⊢
  refine ⟨by decide, by decide, mz_qN hc (t107_13 ?_)⟩
  simp only [mz_j85, mz_rS0, mz_wS0, mz_rS1, mz_wS1, mz_rS2, mz_wS2, mz_rS3, mz_wS3, mz_rS4, mz_wS4, mz_rS5, mz_wS5]
  refine ⟨fun q => absurd trivial q, fun _ => ⟨by decide, mz_qR hI hc hr ⟨by decide, by decide⟩ (show md_vR Z r 0 = nI (mj_ct Z r 0) from rfl) (t107_27 ⟨by decide, ?_⟩)⟩⟩
  rw [mz_jv]
  refine sp95 hS hB hr (mz_jl ?_)
  rw [mz_mxX]
  refine t107_36 ⟨fun q => absurd rfl q, fun _ => ⟨by decide, mz_qR hI hc hr ⟨by decide, by decide⟩ (show md_vR Z r 1 = nI (mj_ct Z r 1) from rfl) (t107_46 ⟨by decide, ?_⟩)⟩⟩
  rw [mz_jv]
  refine sp95 hS hB hr (mz_jl ?_)
  rw [mz_mxX]
  exact t107_55 ⟨fun q => absurd rfl q, fun _ => t107_63 (mz_s68 h hb hr hz hK (by decide) hc)⟩
end LWQ
