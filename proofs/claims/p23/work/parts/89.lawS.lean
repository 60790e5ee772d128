-- THE LAW'S LOOP
section LWS
variable {Z Z' X X' C C' L L' : mj_M} {K : mj_K} {p l r t a b i n s k cn : Nat} {v g w : Int32}
theorem mz_H_pr (h : mz_H Z) (hI : mj_Ia Z') (hpr : mj_pr mj_s1 Z' = mj_pr mj_s1 Z) : mz_H Z' := by
  obtain ⟨n1, n2, n3, n4⟩ := mj_n_pr hpr
  refine ⟨hI, mz_B_pr hpr h.2.1, n2.trans h.2.2.1, n3.trans h.2.2.2.1, fun r hr => ?_⟩
  rw [mj_pr_at hpr (show mj_s1 2 = true from rfl)]
  exact h.2.2.2.2 r hr
theorem mz_od_2 : md_od p Z 2 = Z 2 := by
  unfold md_od
  rw [mj_oA_c _ _ (by decide) (by decide)]
  split
  · unfold md_tk
    split <;> rfl
  · rfl
theorem mz_on_2 : ∀ k, md_on Z k 2 = Z 2
  | 0 => rfl
  | k + 1 => by
    show md_od k (md_on Z k) 2 = Z 2
    rw [mz_od_2, mz_on_2 k]
theorem mz_H_ord (h : mz_H Z) : mz_H (md_ord Z) ∧ md_ord Z 0 5 = Z 0 5 := by
  obtain ⟨i1, i2, i3, i4⟩ := md_on_I h.1 (mj_np Z) (Nat.le_refl _)
  refine ⟨⟨i1, mz_B_on h.2.1 _, ?_, ?_, fun r hr => ?_⟩, congrFun i4 5⟩
  · have := mj_pr_at i3 (show mj_s2 1 = true from rfl)
    show ((md_on Z (mj_np Z)) 1 0).toNatClampNeg = 6
    rw [this]
    exact h.2.2.1
  · have := mj_pr_at i3 (show mj_s2 8 = true from rfl)
    show ((md_on Z (mj_np Z)) 8 0).toNatClampNeg = 5
    rw [this]
    exact h.2.2.2.1
  · show md_on Z (mj_np Z) 2 r = _
    rw [mz_on_2]
    exact h.2.2.2.2 r hr
theorem mz_H_ss (h : mz_H Z) {n : Nat} (hb : (Z 0 5).toInt + n ≤ 1000000) {k : Nat} (hk : k ≤ n) : mz_H (md_ss k Z) ∧ (md_ss k Z 0 5).toInt = (Z 0 5).toInt + k := by
  obtain ⟨i1, i2, i3⟩ := mj_secs_I h.1 hb k hk
  exact ⟨mz_H_pr h i1 i3, i2⟩
abbrev mz_LL (x7 x8 : Int32) (o9 o10 o11 o12 o13 : Option Value) : List (Option Value) := [some (.ref 999), some (.ref 0), some (.ref 81), some (.ref 82), some (.ref 83), some (.ref 84), some (.ref 85), some (.int x7), some (.int x8), o9, o10, o11, o12, o13]
/-- the head of the loop after so many rounds -/
def mz_Hd (K : mj_K) (i : Nat) : Prop := ∀ Z C X cn o9 o10 o11 o12 o13, mz_H Z → (Z 0 5).toInt ≤ 7 * i → mk_CL Z C → cn ≤ 200 + 445 * i → mj_W 9 112 18 51 (mz_LL 1 (nI i) o9 o10 o11 o12 o13) [] (mz_j C (mz Z X)) cn K
/-- after a call of the round: all that is asked -/
theorem mz_s365 (hi : i < 48) (hd : mz_Hd K (i + 1)) {vn : Nat} (hv : vn < 2 ^ 31) {x9 x11 : Int32} {o12 o13 : Option Value} (h : mz_H Z) (ht : (Z 0 5).toInt ≤ 7 * i + 7) (hc : mk_CL Z C) (hcn : cn ≤ 245 + 445 * i) : mj_W 9 112 18 365 (mz_LL 1 (nI i) (some (.int x9)) (some (.int (nI vn))) (some (.int x11)) o12 o13) [] (mz_j C (mz Z X)) cn K := by
  have e7 : nI vn / 7 = nI (vn / 7) := pk_div (d := 7) hv (by decide) (by decide)
  refine t112_365 ⟨fun q => absurd q (by decide), fun _ => ⟨by omega, ?_⟩⟩
  rw [e7]
  refine sp107 h (by omega) (by omega) hc (fun C' X' hC => ?_)
  show mj_W 9 112 18 387 (mz_LL 1 (nI i) (some (.int x9)) (some (.int (nI vn))) (some (.int x11)) o12 o13) [.int 1] (mz_j C' (mz Z X')) (cn + 400) K
  refine t112_387 ⟨fun q => absurd q (by decide), fun _ => t112_395 ?_⟩
  rw [← nI_succ]
  exact hd _ _ _ _ _ _ _ _ _ h (by omega) hC (by omega)
/-- so many seconds pass -/
theorem mz_s189 (hi : i < 48) (hd : mz_Hd K (i + 1)) {vn : Nat} (hv : vn < 2 ^ 31) {x9 x11 : Int32} (h : mz_H Z) (ht : (Z 0 5).toInt ≤ 7 * i) (hc : mk_CL Z C) (hcn : cn ≤ 200 + 445 * i) (hs1 : 1 ≤ s) (hs7 : s ≤ 7) : mj_W 9 112 18 189 (mz_LL 1 (nI i) (some (.int x9)) (some (.int (nI vn))) (some (.int x11)) (mz_oi s) (mz_oi 0)) [] (mz_j C (mz Z X)) cn K := by
  refine mj_down (P := fun k => ∀ X cn, cn ≤ 200 + 445 * i + k → mj_W 9 112 18 189 (mz_LL 1 (nI i) (some (.int x9)) (some (.int (nI vn))) (some (.int x11)) (mz_oi s) (mz_oi k)) [] (mz_j C (mz (md_ss k Z) X)) cn K) s ?_ ?_ X cn hcn
  · intro X cn hcn
    obtain ⟨hH, hT⟩ := mz_H_ss h (n := s) (by omega) (Nat.le_refl _)
    have rg : md_rg (nI s) 1 60 := by
      refine ⟨?_, ?_⟩
      · rw [mj_lt, nI_toInt (by omega), show (1 : Int32).toInt = 1 by decide]; omega
      · rw [mj_lt, nI_toInt (by omega), show (60 : Int32).toInt = 60 by decide]; omega
    refine t112_189 ⟨fun _ => ⟨by omega, ?_⟩, fun q => absurd (nI_le (Nat.le_refl _) (by omega)) q⟩
    rw [mz_v0]
    refine mk_pass h.1 (by omega) (mz_jCL hc) (fun q => absurd rg q) (fun _ M' hM => mz_jk ?_)
    rw [nI_clamp (show s < 2 ^ 31 by omega)] at hM
    rw [nI_clamp (show s < 2 ^ 31 by omega)]
    refine t112_219 ?_
    simp only [mz_j85, mz_rS0, mz_wS0, mz_rS1, mz_wS1, mz_rS2, mz_wS2, mz_rS3, mz_wS3, mz_rS4, mz_wS4, mz_rS5, mz_wS5]
    exact ⟨fun q => absurd trivial q, fun _ => t112_231 (mz_s365 hi hd hv hH (by omega) hM (by omega))⟩
  · intro k hk ih X cn hcn
    obtain ⟨hH, hT⟩ := mz_H_ss h (n := s) (by omega) (show k ≤ s by omega)
    refine t112_189 ⟨fun q => absurd q (nI_ge hk (by omega)), fun _ => ⟨by omega, ?_⟩⟩
    rw [mz_jv]
    refine sp102 hH.1.1 hH.2.1 (by omega) (fun X' _ => mz_jl (t112_207 ?_))
    rw [← nI_succ]
    exact ih _ _ (by omega)
theorem mz_s119 (hi : i < 48) (hd : mz_Hd K (i + 1)) {vn a : Nat} (hv : vn < 2 ^ 31) (ha : a < 32) {x11 : Int32} {o12 o13 : Option Value} (h : mz_H Z) (ht : (Z 0 5).toInt ≤ 7 * i) (hc : mk_CL Z C) (hcn : cn ≤ 200 + 445 * i) {g0 : Nat} (hg : g0 < 6) (hg1 : g0 ≠ 2 ∧ g0 ≠ 3) : mj_W 9 112 18 119 (mz_LL 1 (nI i) (mz_oi a) (some (.int (nI vn))) (some (.int x11)) o12 o13) [.int (nI g0)] (mz_j C (mz Z X)) cn K := by
  have le : ∀ b, b < 40 → (nI b ≤ nI a ↔ b ≤ a) := fun b hb => mz_le2 (by omega) (by omega)
  have e2 : nI vn - nI vn / 2 * 2 = nI (vn % 2) := mz_dm1 hv (b := 2) (by decide) (by decide)
  have e22 : nI vn / 2 - nI vn / 2 / 2 * 2 = nI (vn / 2 % 2) := mz_dm hv (a := 2) (b := 2) (by decide) (by decide) (by decide) (by decide)
  have e7 : nI vn - nI vn / 7 * 7 = nI (vn % 7) := mz_dm1 hv (b := 7) (by decide) (by decide)
  have e10 : nI vn / 10 = nI (vn / 10) := pk_div (d := 10) hv (by decide) (by decide)
  have e4 : nI vn / 4 = nI (vn / 4) := pk_div (d := 4) hv (by decide) (by decide)
  have pos : ∀ m, m < 2 ^ 31 → 0 ≤ (nI m).toInt := fun m hm => by rw [nI_toInt hm]; exact Int.natCast_nonneg _
  have m2 := Nat.mod_lt vn (show 0 < 2 by decide)
  have m22 := Nat.mod_lt (vn / 2) (show 0 < 2 by decide)
  have m7 := Nat.mod_lt vn (show 0 < 7 by decide)
  have after : ∀ Z' C' X' cn o12 o13, mz_H Z' → Z' 0 5 = Z 0 5 → mk_CL Z' C' → cn ≤ 245 + 445 * i → mj_W 9 112 18 365 (mz_LL 1 (nI i) (mz_oi a) (some (.int (nI vn))) (mz_oi g0) o12 o13) [] (mz_j C' (mz Z' X')) cn K := by
    intro Z' C' X' cn o12 o13 h' h5 hc' hcn'
    exact mz_s365 hi hd hv h' (by rw [h5]; omega) hc' hcn'
  have enter : mj_Cm 108 6 [.ref 0, .ref 81, .ref 83, .ref 85, .int (nI vn - nI vn / 2 * 2), .int (nI g0), .int (nI vn / 10)] (mz_j C (mz Z X)) (mj_k 9 112 18 154 (mz_LL 1 (nI i) (mz_oi a) (some (.int (nI vn))) (mz_oi g0) o12 o13) [] (cn + 20) (some .boolean) K) := by
    rw [e2, e10]
    refine sp108 h hc m2 hg hg1 (pos _ (by omega)) (fun Z' C' X' h' h5 hc' => ?_)
    show mj_W 9 112 18 154 (mz_LL 1 (nI i) (mz_oi a) (some (.int (nI vn))) (mz_oi g0) o12 o13) [.int 1] (mz_j C' (mz Z' X')) (cn + 20) K
    exact t112_154 (after Z' C' X' _ _ _ h' h5 hc' (by omega))
  have link : ∀ w, w ≤ 4 → mj_W 9 112 18 328 (mz_LL 1 (nI i) (mz_oi a) (some (.int (nI vn))) (mz_oi g0) o12 o13) [.int (nI w), .ref 85, .ref 82, .ref 0] (mz_j C (mz Z X)) cn K := by
    intro w hw
    refine t112_328 ⟨by omega, sp110 h hc hw (pos _ hv) (fun Z' C' h' h5 hc' => ?_)⟩
    show mj_W 9 112 18 333 (mz_LL 1 (nI i) (mz_oi a) (some (.int (nI vn))) (mz_oi g0) o12 o13) [.int 1] (mz_j C' (mz Z' X)) (cn + 40) K
    exact t112_333 (after Z' C' X _ _ _ h' h5 hc' (by omega))
  refine t112_119 ⟨fun _ => ⟨by omega, enter⟩, fun _ => ⟨fun q8 => ⟨fun q20 => ⟨fun q23 => ⟨fun q31 => ⟨by omega, ?_⟩, fun q31 => ⟨fun q25 => ⟨fun q27 => ⟨fun q29 => ?_, fun q29 => link 2 (by decide)⟩, fun q27 => ?_⟩, fun q25 => link 0 (by decide)⟩⟩, fun q23 => ⟨by omega, ?_⟩⟩, fun q20 => ⟨fun q18 => t112_184 ?_, fun q18 => t112_184 ?_⟩⟩, fun q8 => ⟨by omega, enter⟩⟩⟩
  · -- the order to clear
    obtain ⟨hH, h5⟩ := mz_H_ord h
    rw [mz_jv]
    refine sp103 h.1 h.2.1 (fun X' _ => mz_jl (t112_347 ⟨by omega, ?_⟩))
    rw [mz_v0]
    refine mk_clear h.1 (mz_jCL hc) (fun M' hM => mz_jk (t112_353 ⟨fun q => absurd rfl q, fun _ => t112_363 (after _ _ _ _ _ _ hH h5 hM (by omega))⟩))
  · have q29' := (le 29 (by decide)).mp q29
    have q31' : ¬ 31 ≤ a := fun z => q31 ((le 31 (by decide)).mpr z)
    have e : nI a - 26 = nI (a - 26) := by
      have : nI a = nI (a - 26) + nI 26 := by rw [nI_add]; congr 1; omega
      rw [this, show (26 : Int32) = nI 26 from rfl]
      grind
    rw [e]
    exact link (a - 26) (by omega)
  · have q25' := (le 25 (by decide)).mp q25
    have q27' : ¬ 27 ≤ a := fun z => q27 ((le 27 (by decide)).mpr z)
    have e : nI a - 24 = nI (a - 24) := by
      have : nI a = nI (a - 24) + nI 24 := by rw [nI_add]; congr 1; omega
      rw [this, show (24 : Int32) = nI 24 from rfl]
      grind
    rw [e]
    exact link (a - 24) (by omega)
  · -- a train
    have e44 : 4 + (nI vn - nI vn / 2 * 2) = nI (4 + vn % 2) := by rw [e2, show (4 : Int32) = nI 4 from rfl, nI_add]
    rw [e44, e22, e4]
    refine sp109 h hc (by omega) (by omega) m22 (pos _ (by omega)) (fun Z' C' X' h' h5 hc' => ?_)
    show mj_W 9 112 18 270 (mz_LL 1 (nI i) (mz_oi a) (some (.int (nI vn))) (mz_oi g0) o12 o13) [.int 1] (mz_j C' (mz Z' X')) (cn + 20) K
    exact t112_270 (after Z' C' X' _ _ _ h' h5 hc' (by omega))
  · have e17 : 1 + (nI vn - nI vn / 7 * 7) = nI (1 + vn % 7) := by rw [e7, show (1 : Int32) = nI 1 from rfl, nI_add]
    rw [e17]
    exact mz_s189 hi hd hv h ht hc hcn (by omega) (by omega)
  · exact mz_s189 (s := 1) hi hd hv h ht hc hcn (by decide) (by decide)
theorem mz_loop (hK : ∀ M, K 0 1 M) : mz_Hd K 0 := by
  refine mj_down (P := mz_Hd K) 48 ?_ ?_
  · intro Z C X cn o9 o10 o11 o12 o13 h ht hc hcn
    refine t112_51 ⟨fun _ => ⟨by omega, ?_⟩, fun q => absurd (nI_le (a := 48) (Nat.le_refl _) (by decide)) q⟩
    rw [mj_nb1]
    exact hK _
  · intro i hi ih Z C X cn o9 o10 o11 o12 o13 h ht hc hcn
    have two : 2 * nI i = nI (2 * i) := by
      have : nI (2 * i) = nI i + nI i := by rw [nI_add]; congr 1; omega
      rw [this]; grind
    have two1 : 2 * nI i + 1 = nI (2 * i + 1) := by rw [two, nI_succ]
    have i9 : (1000000000 : Int32).toInt = 1000000000 := by decide
    have i32 : (32 : Int32).toInt = 32 := by decide
    refine t112_51 ⟨fun q => absurd q (nI_ge hi (by decide)), fun _ => ⟨fun q => absurd q (by decide), fun _ => ⟨by omega, ?_⟩⟩⟩
    rw [two]
    refine sp91 (by rw [nI_toInt (by omega)]; exact Int.natCast_nonneg _) (by decide) (fun x x0 x32 => ?_)
    rw [i32] at x32
    obtain ⟨a, ea, ha⟩ : ∃ a, x = nI a ∧ a < 32 := ⟨x.toNatClampNeg, mj_toN x0, by rw [mj_clN]; omega⟩
    rw [ea]
    show mj_W 9 112 18 73 (mz_LL 1 (nI i) o9 o10 o11 o12 o13) [.int (nI a)] (mz_j C (mz Z X)) cn K
    refine t112_73 ⟨by omega, ?_⟩
    rw [two1]
    refine sp91 (by rw [nI_toInt (by omega)]; exact Int.natCast_nonneg _) (by rw [i9]; decide) (fun y y0 y9 => ?_)
    rw [i9] at y9
    obtain ⟨vn, ev, hv⟩ : ∃ vn, y = nI vn ∧ vn < 2 ^ 31 := ⟨y.toNatClampNeg, mj_toN y0, by rw [mj_clN]; omega⟩
    rw [ev]
    show mj_W 9 112 18 87 (mz_LL 1 (nI i) (mz_oi a) o10 o11 o12 o13) [.int (nI vn)] (mz_j C (mz Z X)) cn K
    have e25 : nI vn / 2 - nI vn / 2 / 5 * 5 = nI (vn / 2 % 5) := mz_dm hv (a := 2) (b := 5) (by decide) (by decide) (by decide) (by decide)
    have m5 := Nat.mod_lt (vn / 2) (show 0 < 5 by decide)
    refine t112_87 ?_
    rw [e25]
    generalize vn / 2 % 5 = e at m5 ⊢
    refine ⟨fun q2 => ⟨fun q4 => mz_s119 (g0 := 5) hi ih hv ha h ht hc hcn (by decide) (by decide), fun q4 => mz_s119 (g0 := 4) hi ih hv ha h ht hc hcn (by decide) (by decide)⟩, fun q2 => ?_⟩
    have q2' : ¬ 2 ≤ e := fun z => q2 ((mz_le2 (a := 2) (by decide) (by omega)).mpr z)
    exact mz_s119 hi ih hv ha h ht hc hcn (by omega) (by omega)
theorem mz_s36 (h : mz_G 0 0 Z) (hc : mk_CL Z C) {o7 o8 o9 o10 o11 o12 o13 : Option Value} (hcn : cn ≤ 100) (hK : ∀ M, K 0 1 M) : mj_W 9 112 18 36 [some (.ref 999), some (.ref 0), some (.ref 81), some (.ref 82), some (.ref 83), some (.ref 84), some (.ref 85), o7, o8, o9, o10, o11, o12, o13] [] (mz_j C (mz Z X)) cn K := by
  refine t112_36 ⟨by omega, sp111 h hc (fun Z' C' h' h5 hc' => ?_)⟩
  show mj_W 9 112 18 46 [some (.ref 999), some (.ref 0), some (.ref 81), some (.ref 82), some (.ref 83), some (.ref 84), some (.ref 85), o7, o8, o9, o10, o11, o12, o13] [.int 1] (mz_j C' (mz Z' X)) (cn + 100) K
  exact t112_46 (mz_loop hK Z' C' X _ _ _ _ _ _ h' (by rw [h5]; decide) hc' (by omega))
end LWS
