-- THE LAW BEGINS: SIX ROOMS, FIVE LINKS
section LWR
variable {Z Z' X X' C C' L L' : mj_M} {K : mj_K} {p l r t a b i n s k cn : Nat} {v g w : Int32}
def mz_G (k n : Nat) (Z : mj_M) : Prop := mj_Ia Z ∧ Z 1 0 = nI k ∧ Z 8 0 = nI n ∧ Z 20 0 = 0 ∧ Z 28 0 = 0 ∧ Z 0 5 = 0 ∧ (∀ l, Z 19 l = 0) ∧ ∀ r, r < k → Z 2 r = nI (r / 2)
theorem mz_G_nr (h : mz_G k n Z) (hk : k < 10) : mj_nr Z = k := by
  unfold mj_nr
  rw [h.2.1, nI_clamp (by omega)]
theorem mz_G_nl (h : mz_G k n Z) (hn : n < 10) : mj_nl Z = n := by
  unfold mj_nl
  rw [h.2.2.1, nI_clamp (by omega)]
theorem mz_uuR {A B : Int32} : mj_u (mj_u (mj_u Z 1 0 0) 2 k A) 3 k B = mj_u (mj_u (mj_u (mj_u Z 2 k A) 3 k B) 1 0 v) 1 0 0 := by
  funext c q
  simp only [mj_u_at]
  by_cases e3 : c = 3
  · subst e3; simp
  · by_cases e2 : c = 2
    · subst e2; simp
    · by_cases e1 : c = 1
      · subst e1; by_cases e0 : q = 0 <;> simp [e0]
      · simp [e1, e2, e3]
theorem mz_uuL {A B D E F : Int32} : mj_u (mj_u (mj_u (mj_u (mj_u (mj_u Z 8 0 0) 9 k A) 10 k B) 11 k D) 12 k E) 13 k F = mj_u (mj_u (mj_u (mj_u (mj_u (mj_u (mj_u Z 9 k A) 10 k B) 11 k D) 12 k E) 13 k F) 8 0 v) 8 0 0 := by
  funext c q
  simp only [mj_u_at]
  by_cases e9 : c = 9
  · subst e9; simp
  · by_cases e10 : c = 10
    · subst e10; simp
    · by_cases e11 : c = 11
      · subst e11; simp
      · by_cases e12 : c = 12
        · subst e12; simp
        · by_cases e13 : c = 13
          · subst e13; simp
          · by_cases e8 : c = 8
            · subst e8; by_cases e0 : q = 0 <;> simp [e0]
            · simp [e8, e9, e10, e11, e12, e13]
theorem mz_uu0 {c : Nat} {x : Int32} (h : Z c 0 = v) : mj_u (mj_u Z c 0 x) c 0 v = Z := by
  funext d q
  simp only [mj_u_at]
  by_cases e : d = c ∧ q = 0
  · rw [if_pos e, e.1, e.2, h]
  · rw [if_neg e, if_neg e]
abbrev mz_LB (x5 x6 : Int32) (o7 o8 o9 o10 : Option Value) : List (Option Value) := [some (.ref 0), some (.ref 999), some (.ref 82), some (.ref 83), some (.ref 85), some (.int x5), some (.int x6), o7, o8, o9, o10]
theorem mz_le2 {a b : Nat} (ha : a < 1000) (hb : b < 1000) : nI a ≤ nI b ↔ a ≤ b := by
  rw [mj_le, nI_toInt (by omega), nI_toInt (by omega)]
  omega
theorem mz_b112 (hK : ∀ Z' C', mz_H Z' → Z' 0 5 = 0 → mk_CL Z' C' → K 0 1 (mz_j C' (mz Z' X))) : ∀ Z C cn o7 o8 o9 o10, mz_G 6 0 Z → mk_CL Z C → cn ≤ 30 → mj_W 9 111 7 112 (mz_LB 1 0 o7 o8 o9 o10) [] (mz_j C (mz Z X)) cn K := by
  intro Z0 C0 cn0 p7 p8 p9 p10 g0 c0 hcn0
  have key := mj_down (P := fun n => ∀ Z C cn o7 o8 o9 o10, mz_G 6 n Z → mk_CL Z C → cn ≤ 30 + 7 * n → mj_W 9 111 7 112 (mz_LB 1 (nI n) o7 o8 o9 o10) [] (mz_j C (mz (mj_u Z 8 0 0) X)) cn K) 5 ?_ ?_
  · have := key Z0 C0 cn0 p7 p8 p9 p10 g0 c0 hcn0
    rw [mj_u_id (Z := Z0) (c := 8) (i := 0) (v := 0) g0.2.2.1] at this
    exact this
  · intro Z C cn o7 o8 o9 o10 hG hC hcn
    refine t111_112 ⟨fun _ => ⟨by omega, ?_⟩, fun q => absurd (by decide) q⟩
    rw [mz_ju85]
    have e5 : mj_u (mz (mj_u Z 8 0 0) X) 4 3 5 = mz (mj_u (mj_u Z 8 0 0) 8 0 5) X := mz_wS3
    rw [e5, mz_uu0 (v := 5) hG.2.2.1, mj_nb1]
    have n1 := mz_G_nr hG (by decide)
    have n2 := mz_G_nl hG (by decide)
    have n3 : mj_np Z = 0 := by unfold mj_np; rw [hG.2.2.2.1]; decide
    have n4 : mj_nt Z = 0 := by unfold mj_nt; rw [hG.2.2.2.2.1]; decide
    refine hK Z C ⟨hG.1, ⟨by omega, by omega, by omega, by omega, fun p hp => by omega, fun l _ q => absurd (hG.2.2.2.2.2.2.1 l) q⟩, n1, n2, hG.2.2.2.2.2.2.2⟩ hG.2.2.2.2.2.1 hC
  · intro n hn ih Z C cn o7 o8 o9 o10 hG hC hcn
    have nr6 := mz_G_nr hG (by decide)
    have nl := mz_G_nl hG (by omega)
    have n5 : n < 5 := hn
    have i9 : (1000000000 : Int32).toInt = 1000000000 := by decide
    refine t111_112 ⟨fun q => absurd q ?_, fun _ => ⟨fun q => absurd q (by decide), fun _ => ⟨by omega, sp91 ?_ (by rw [i9]; decide) (fun v v0 v9 => ?_)⟩⟩⟩
    · rw [show (5 : Int32) = nI 5 from rfl, mz_le2 (by decide) (by omega)]; omega
    · rw [show (410 : Int32) = nI 410 from rfl, nI_add, nI_toInt (by omega)]; exact Int.natCast_nonneg _
    · show mj_W 9 111 7 135 (mz_LB 1 (nI n) o7 o8 o9 o10) [.int v] (mz_j C (mz (mj_u Z 8 0 0) X)) cn K
      obtain ⟨vn, hvn⟩ : ∃ vn, vn = v.toNatClampNeg := ⟨_, rfl⟩
      have vlt : vn < 2 ^ 31 := by rw [hvn, mj_clN]; omega
      have ev : v = nI vn := by rw [hvn]; exact mj_toN v0
      rw [ev]
      have ne : ∀ b, b < 5 → (nI n = nI b ↔ n = b) := fun b hb => nI_eq (by omega) (by omega)
      obtain ⟨kd, hkd, kd5⟩ : ∃ kd, kd = vn / 60 % 5 ∧ kd < 5 := ⟨_, rfl, Nat.mod_lt _ (by decide)⟩
      obtain ⟨sc, hsc, sc5⟩ : ∃ sc, sc = 1 + vn / 300 % 5 ∧ 1 ≤ sc ∧ sc ≤ 5 := ⟨_, rfl, by omega, by omega⟩
      obtain ⟨rt, hrt, rt3⟩ : ∃ rt, rt = 1 + vn / 1500 % 3 ∧ 1 ≤ rt ∧ rt ≤ 3 := ⟨_, rfl, by omega, by omega⟩
      have ekd : nI vn / 60 - nI vn / 60 / 5 * 5 = nI kd := by
        rw [hkd]; exact mz_dm vlt (a := 60) (b := 5) (by decide) (by decide) (by decide) (by decide)
      have esc : 1 + (nI vn / 300 - nI vn / 300 / 5 * 5) = nI sc := by
        have : nI vn / 300 - nI vn / 300 / 5 * 5 = nI (vn / 300 % 5) := mz_dm vlt (a := 300) (b := 5) (by decide) (by decide) (by decide) (by decide)
        rw [this, show (1 : Int32) = nI 1 from rfl, nI_add, hsc]
      have ert : 1 + (nI vn / 1500 - nI vn / 1500 / 3 * 3) = nI rt := by
        have : nI vn / 1500 - nI vn / 1500 / 3 * 3 = nI (vn / 1500 % 3) := mz_dm vlt (a := 1500) (b := 3) (by decide) (by decide) (by decide) (by decide)
        rw [this, show (1 : Int32) = nI 1 from rfl, nI_add, hrt]
      -- with the two ends known
      have last : ∀ f g : Nat, f < 6 → g < 6 → f ≠ g → ∀ y8 y9 y10 : Int32, mj_W 9 111 7 298 (mz_LB 1 (nI n) (some (.int (nI vn))) (some (.int y8)) (some (.int y9)) (some (.int y10))) [.int (nI g), .int (11 * nI n + 2), .ref 82] (mz_j C (mz (mj_u (mj_u (mj_u Z 8 0 0) 9 n (nI kd)) 10 n (nI f)) X)) cn K := by
        intro f g hf hg hfg y8 y9 y10
        refine t111_298 ?_
        simp only [mz_j82, mz_ju82, mz_rL0 n5, mz_wL0 n5, eq_true (mz_vL0 n5), mz_rL1 n5, mz_wL1 n5, eq_true (mz_vL1 n5), mz_rL2 n5, mz_wL2 n5, eq_true (mz_vL2 n5), mz_rL3 n5, mz_wL3 n5, eq_true (mz_vL3 n5), mz_rL4 n5, mz_wL4 n5, eq_true (mz_vL4 n5), mz_rL5 n5, mz_wL5 n5, eq_true (mz_vL5 n5), mz_rL6 n5, mz_wL6 n5, eq_true (mz_vL6 n5), mz_rL7 n5, mz_wL7 n5, eq_true (mz_vL7 n5), mz_rL8 n5, mz_wL8 n5, eq_true (mz_vL8 n5), mz_rL9 n5, mz_wL9 n5, eq_true (mz_vL9 n5), mz_rL10 n5, mz_wL10 n5, eq_true (mz_vL10 n5), true_and, esc, ert]
        have w9 : mj_u (mj_u (mj_u (mj_u (mj_u (mj_u Z 8 0 0) 9 n (nI kd)) 10 n (nI f)) 11 n (nI g)) 12 n (nI sc)) 13 n (nI rt) 9 n = nI kd := by simp [mj_u_at]
        have w10 : mj_u (mj_u (mj_u (mj_u (mj_u (mj_u Z 8 0 0) 9 n (nI kd)) 10 n (nI f)) 11 n (nI g)) 12 n (nI sc)) 13 n (nI rt) 10 n = nI f := by simp [mj_u_at]
        have w11 : mj_u (mj_u (mj_u (mj_u (mj_u (mj_u Z 8 0 0) 9 n (nI kd)) 10 n (nI f)) 11 n (nI g)) 12 n (nI sc)) 13 n (nI rt) 11 n = nI g := by simp [mj_u_at]
        have w12 : mj_u (mj_u (mj_u (mj_u (mj_u (mj_u Z 8 0 0) 9 n (nI kd)) 10 n (nI f)) 11 n (nI g)) 12 n (nI sc)) 13 n (nI rt) 12 n = nI sc := by simp [mj_u_at]
        have w13 : mj_u (mj_u (mj_u (mj_u (mj_u (mj_u Z 8 0 0) 9 n (nI kd)) 10 n (nI f)) 11 n (nI g)) 12 n (nI sc)) 13 n (nI rt) 13 n = nI rt := by simp [mj_u_at]
        rw [w9, w10, w11, w12, w13, mz_v0]
        have vf : vp_in (nI f) (mj_nr Z) := vp_in_nI (by omega) (by omega)
        have vg : vp_in (nI g) (mj_nr Z) := vp_in_nI (by omega) (by omega)
        have nfg : ¬ nI f = nI g := fun q => hfg ((nI_eq (by omega) (by omega)).mp q)
        have fl : md_fl (nI kd) (nI f) (nI g) (nI sc) (nI rt) := by
          refine ⟨nfg, ⟨?_, ?_⟩, ⟨?_, ?_⟩, ⟨?_, ?_⟩⟩
          · rw [mj_lt, nI_toInt (by omega), show (0 : Int32).toInt = 0 by decide]; omega
          · rw [mj_lt, nI_toInt (by omega), show (4 : Int32).toInt = 4 by decide]; omega
          · rw [mj_lt, nI_toInt (by omega), show (1 : Int32).toInt = 1 by decide]; omega
          · rw [mj_lt, nI_toInt (by omega), show (5 : Int32).toInt = 5 by decide]; omega
          · rw [mj_lt, nI_toInt (by omega), show (0 : Int32).toInt = 0 by decide]; omega
          · rw [mj_lt, nI_toInt (by omega), show (9 : Int32).toInt = 9 by decide]; omega
        refine ⟨by omega, mk_link hG.1 (mz_jCL hC) (fun q => absurd ⟨vf, vg⟩ q) (fun _ q => absurd fl q) (fun _ _ q => absurd (show mj_nl Z < 14 by omega) q) (fun _ _ _ M' hM => mz_jk ?_)⟩
        rw [nl]
        refine t111_384 ⟨fun q => absurd rfl q, fun _ => t111_394 ?_⟩
        have eW : mj_u (mj_u (mj_u (mj_u (mj_u (mj_u Z 8 0 0) 9 n (nI kd)) 10 n (nI f)) 11 n (nI g)) 12 n (nI sc)) 13 n (nI rt) = mj_u (md_link (nI kd) (nI f) (nI g) (nI sc) (nI rt) Z) 8 0 0 := by
          unfold md_link; rw [nl]; exact mz_uuL
        rw [eW, ← nI_succ]
        refine ih _ M' _ _ _ _ _ ⟨md_link_I hG.1 (by omega) vf vg nfg ?_ ?_ ?_ ?_, hG.2.1, ?_, hG.2.2.2.1, hG.2.2.2.2.1, hG.2.2.2.2.2.1, hG.2.2.2.2.2.2.1, hG.2.2.2.2.2.2.2⟩ hM (by omega)
        · rw [nI_toInt (by omega)]; omega
        · rw [nI_toInt (by omega)]; omega
        · rw [nI_toInt (by omega)]; omega
        · rw [nI_toInt (by omega)]; omega
        · show mj_u _ 8 0 (Z 8 0 + 1) 8 0 = _
          rw [mj_u_at, if_pos ⟨rfl, rfl⟩, hG.2.2.1, nI_succ]
      have s241 : ∀ f g : Nat, f < 6 → g < 6 → f ≠ g → ∀ (b : Int32) o10, mj_W 9 111 7 241 (mz_LB 1 (nI n) (some (.int (nI vn))) (some (.int (nI f))) (some (.int (nI g))) o10) [.int b] (mz_j C (mz (mj_u Z 8 0 0) X)) cn K := by
        intro f g hf hg hfg b o10
        refine t111_241 ?_
        simp only [mz_j82, mz_ju82, mz_rL0 n5, mz_wL0 n5, eq_true (mz_vL0 n5), mz_rL1 n5, mz_wL1 n5, eq_true (mz_vL1 n5), mz_rL2 n5, mz_wL2 n5, eq_true (mz_vL2 n5), mz_rL3 n5, mz_wL3 n5, eq_true (mz_vL3 n5), mz_rL4 n5, mz_wL4 n5, eq_true (mz_vL4 n5), mz_rL5 n5, mz_wL5 n5, eq_true (mz_vL5 n5), mz_rL6 n5, mz_wL6 n5, eq_true (mz_vL6 n5), mz_rL7 n5, mz_wL7 n5, eq_true (mz_vL7 n5), mz_rL8 n5, mz_wL8 n5, eq_true (mz_vL8 n5), mz_rL9 n5, mz_wL9 n5, eq_true (mz_vL9 n5), mz_rL10 n5, mz_wL10 n5, eq_true (mz_vL10 n5), true_and, ekd]
        refine ⟨fun b0 => t111_277 ?_, fun b0 => t111_277 ?_⟩
        · simp only [mz_j82, mz_ju82, mz_rL0 n5, mz_wL0 n5, eq_true (mz_vL0 n5), mz_rL1 n5, mz_wL1 n5, eq_true (mz_vL1 n5), mz_rL2 n5, mz_wL2 n5, eq_true (mz_vL2 n5), mz_rL3 n5, mz_wL3 n5, eq_true (mz_vL3 n5), mz_rL4 n5, mz_wL4 n5, eq_true (mz_vL4 n5), mz_rL5 n5, mz_wL5 n5, eq_true (mz_vL5 n5), mz_rL6 n5, mz_wL6 n5, eq_true (mz_vL6 n5), mz_rL7 n5, mz_wL7 n5, eq_true (mz_vL7 n5), mz_rL8 n5, mz_wL8 n5, eq_true (mz_vL8 n5), mz_rL9 n5, mz_wL9 n5, eq_true (mz_vL9 n5), mz_rL10 n5, mz_wL10 n5, eq_true (mz_vL10 n5), true_and]
          exact ⟨fun _ => last f g hf hg hfg _ _ _, fun q => absurd b0 q⟩
        · simp only [mz_j82, mz_ju82, mz_rL0 n5, mz_wL0 n5, eq_true (mz_vL0 n5), mz_rL1 n5, mz_wL1 n5, eq_true (mz_vL1 n5), mz_rL2 n5, mz_wL2 n5, eq_true (mz_vL2 n5), mz_rL3 n5, mz_wL3 n5, eq_true (mz_vL3 n5), mz_rL4 n5, mz_wL4 n5, eq_true (mz_vL4 n5), mz_rL5 n5, mz_wL5 n5, eq_true (mz_vL5 n5), mz_rL6 n5, mz_wL6 n5, eq_true (mz_vL6 n5), mz_rL7 n5, mz_wL7 n5, eq_true (mz_vL7 n5), mz_rL8 n5, mz_wL8 n5, eq_true (mz_vL8 n5), mz_rL9 n5, mz_wL9 n5, eq_true (mz_vL9 n5), mz_rL10 n5, mz_wL10 n5, eq_true (mz_vL10 n5), true_and]
          exact ⟨fun q => absurd q b0, fun _ => last g f hg hf (fun e => hfg e.symm) _ _ _⟩
      have s217 : ∀ f g : Nat, f < 6 → g < 6 → f ≠ g → ∀ o9 o10, mj_W 9 111 7 217 (mz_LB 1 (nI n) (some (.int (nI vn))) (some (.int (nI f))) o9 o10) [.int (nI g)] (mz_j C (mz (mj_u Z 8 0 0) X)) cn K := by
        intro f g hf hg hfg o9 o10
        exact t111_217 ⟨fun _ => s241 f g hf hg hfg _ _, fun _ => ⟨fun _ => s241 f g hf hg hfg _ _, fun _ => s241 f g hf hg hfg _ _⟩⟩
      have ne0 : (nI n = 0 ↔ n = 0) := ne 0 (by decide)
      have ne1 : (nI n = 1 ↔ n = 1) := ne 1 (by decide)
      have ne2 : (nI n = 2 ↔ n = 2) := ne 2 (by decide)
      have e6 : nI vn - nI vn / 6 * 6 = nI (vn % 6) := mz_dm1 vlt (b := 6) (by decide) (by decide)
      have e65 : nI vn / 6 - nI vn / 6 / 5 * 5 = nI (vn / 6 % 5) := mz_dm vlt (a := 6) (b := 5) (by decide) (by decide) (by decide) (by decide)
      have d5 := Nat.mod_lt (vn / 6) (show 0 < 5 by decide)
      generalize vn / 6 % 5 = d at e65 d5
      refine t111_135 ⟨fun q0 => ⟨fun q1 => ⟨fun q2 => t111_171 ⟨fun _ => ⟨fun _ => ⟨fun _ => ?_, fun c => absurd c q2⟩, fun c => absurd c q1⟩, fun c => absurd c q0⟩, fun q2 => t111_171 ⟨fun _ => ⟨fun _ => ⟨fun c => absurd q2 c, fun _ => s217 2 1 (by decide) (by decide) (by decide) _ _⟩, fun c => absurd c q1⟩, fun c => absurd c q0⟩⟩, fun q1 => t111_171 ⟨fun _ => ⟨fun c => absurd q1 c, fun _ => s217 2 4 (by decide) (by decide) (by decide) _ _⟩, fun c => absurd c q0⟩⟩, fun q0 => t111_171 ⟨fun c => absurd q0 c, fun _ => s217 0 2 (by decide) (by decide) (by decide) _ _⟩⟩
      rw [e6, e65]
      have f6 := Nat.mod_lt vn (show 0 < 6 by decide)
      generalize vn % 6 = f at f6
      have e1 : nI f + 1 + nI d = nI (f + 1 + d) := by rw [← nI_succ, nI_add]
      have e2 : nI (f + 1 + d) - nI (f + 1 + d) / 6 * 6 = nI ((f + 1 + d) % 6) := mz_dm1 (by omega) (b := 6) (by decide) (by decide)
      rw [e1, e2]
      exact s217 f _ f6 (Nat.mod_lt _ (by decide)) (by omega) _ _
theorem sp111 (h : mz_G 0 0 Z) (hc : mk_CL Z C) (hK : ∀ Z' C', mz_H Z' → Z' 0 5 = 0 → mk_CL Z' C' → K 0 1 (mz_j C' (mz Z' X))) : mj_Cm 111 7 [.ref 0, .ref 999, .ref 82, .ref 83, .ref 85] (mz_j C (mz Z X)) K := by
  refine e111 ?_
  have key := mj_down (P := fun k => ∀ Z C cn o7 o8 o9 o10, mz_G k 0 Z → mk_CL Z C → cn ≤ 3 * k → mj_W 9 111 7 6 (mz_LB 1 (nI k) o7 o8 o9 o10) [] (mz_j C (mz (mj_u Z 1 0 0) X)) cn K) 6 ?_ ?_
  · have := key Z C 0 none none none none h hc (by omega)
    rw [mj_u_id (Z := Z) (c := 1) (i := 0) (v := 0) h.2.1] at this
    exact this
  · intro Z C cn o7 o8 o9 o10 hG hC hcn
    refine t111_6 ⟨fun _ => ?_, fun q => absurd (by decide) q⟩
    rw [mz_ju85]
    have e5 : mj_u (mz (mj_u Z 1 0 0) X) 4 2 6 = mz (mj_u (mj_u Z 1 0 0) 1 0 6) X := mz_wS2
    rw [e5, mz_uu0 (v := 6) hG.2.1]
    exact mz_b112 hK Z C cn _ _ _ _ hG hC (by omega)
  · intro k hk ih Z C cn o7 o8 o9 o10 hG hC hcn
    have nrk := mz_G_nr hG (by omega)
    have kk2 : k / 2 ≤ 2 := by omega
    have fin : ∀ o7 o8 o9 o10, mj_W 9 111 7 44 (mz_LB 1 (nI k) o7 o8 o9 o10) [.int (nI (k / 2)), .int (5 * nI k), .ref 83] (mz_j C (mz (mj_u Z 1 0 0) X)) cn K := by
      intro o7 o8 o9 o10
      refine t111_44 ?_
      simp only [mz_j83, mz_ju83, mz_rR0 hk, mz_wR0 hk, eq_true (mz_vR0 hk), mz_rR1 hk, mz_wR1 hk, eq_true (mz_vR1 hk), mz_rR2 hk, mz_wR2 hk, eq_true (mz_vR2 hk), mz_rR3 hk, mz_wR3 hk, eq_true (mz_vR3 hk), mz_rR4 hk, mz_wR4 hk, eq_true (mz_vR4 hk), true_and]
      refine ⟨by omega, sp91 ?_ (by decide) (fun v v0 v6 => ?_)⟩
      · rw [show (400 : Int32) = nI 400 from rfl, nI_add, nI_toInt (by omega)]; exact Int.natCast_nonneg _
      · show mj_W 9 111 7 65 (mz_LB 1 (nI k) o7 o8 o9 o10) [.int v, .int 1, .int (5 * nI k + 1), .ref 83] (mz_j C (mz (mj_u (mj_u Z 1 0 0) 2 k (nI (k / 2))) X)) cn K
        have i6 : (6 : Int32).toInt = 6 := by decide
        rw [i6] at v6
        obtain ⟨vn, hvn⟩ : ∃ vn, vn = v.toNatClampNeg := ⟨_, rfl⟩
        have vlt : vn < 6 := by rw [hvn, mj_clN]; omega
        have ev : v = nI vn := by rw [hvn]; exact mj_toN v0
        rw [ev]
        have e1 : 1 + nI vn = nI (1 + vn) := by rw [show (1 : Int32) = nI 1 from rfl, nI_add]
        refine t111_65 ?_
        simp only [mz_j83, mz_ju83, mz_rR0 hk, mz_wR0 hk, eq_true (mz_vR0 hk), mz_rR1 hk, mz_wR1 hk, eq_true (mz_vR1 hk), mz_rR2 hk, mz_wR2 hk, eq_true (mz_vR2 hk), mz_rR3 hk, mz_wR3 hk, eq_true (mz_vR3 hk), mz_rR4 hk, mz_wR4 hk, eq_true (mz_vR4 hk), true_and, e1]
        have w2 : mj_u (mj_u (mj_u Z 1 0 0) 2 k (nI (k / 2))) 3 k (nI (1 + vn)) 2 k = nI (k / 2) := by simp [mj_u_at]
        have w3 : mj_u (mj_u (mj_u Z 1 0 0) 2 k (nI (k / 2))) 3 k (nI (1 + vn)) 3 k = nI (1 + vn) := by simp [mj_u_at]
        rw [w2, w3, mz_v0]
        have fk : md_fk (nI (k / 2)) (nI (1 + vn)) := by
          refine ⟨⟨?_, ?_⟩, ⟨?_, ?_⟩⟩
          · rw [mj_lt, nI_toInt (by omega), show (0 : Int32).toInt = 0 by decide]; omega
          · rw [mj_lt, nI_toInt (by omega), show (2 : Int32).toInt = 2 by decide]; omega
          · rw [mj_lt, nI_toInt (by omega), show (1 : Int32).toInt = 1 by decide]; omega
          · rw [mj_lt, nI_toInt (by omega), show (60 : Int32).toInt = 60 by decide]; omega
        refine ⟨by omega, mk_room hG.1 (mz_jCL hC) (fun q => absurd fk q) (fun _ q => absurd (show mj_nr Z < 10 by omega) q) (fun _ _ M' hM => mz_jk ?_)⟩
        rw [nrk]
        refine t111_85 ⟨fun q => absurd rfl q, fun _ => t111_95 ?_⟩
        have eW : mj_u (mj_u (mj_u Z 1 0 0) 2 k (nI (k / 2))) 3 k (nI (1 + vn)) = mj_u (md_room (nI (k / 2)) (nI (1 + vn)) Z) 1 0 0 := by
          unfold md_room; rw [nrk]; exact mz_uuR
        rw [eW, ← nI_succ]
        refine ih _ M' _ _ _ _ _ ⟨md_room_I hG.1 (by omega) ?_ ?_, ?_, hG.2.2.1, hG.2.2.2.1, hG.2.2.2.2.1, hG.2.2.2.2.2.1, hG.2.2.2.2.2.2.1, fun r hr => ?_⟩ hM (by omega)
        · rw [nI_toInt (by omega)]; omega
        · rw [nI_toInt (by omega)]; omega
        · show mj_u _ 1 0 (Z 1 0 + 1) 1 0 = _
          rw [mj_u_at, if_pos ⟨rfl, rfl⟩, hG.2.1, nI_succ]
        · show mj_u Z 2 (mj_nr Z) (nI (k / 2)) 2 r = _
          rw [mj_u_at, nrk]
          by_cases e : r = k
          · rw [if_pos ⟨rfl, e⟩, e]
          · rw [if_neg (fun q => e q.2)]
            exact hG.2.2.2.2.2.2.2 r (by omega)
    refine t111_6 ⟨fun q => absurd q ?_, fun _ => ⟨fun q => absurd q (by decide), fun _ => ⟨fun q2 => ⟨fun q4 => ?_, fun q4 => ?_⟩, fun q2 => ?_⟩⟩⟩
    · rw [show (6 : Int32) = nI 6 from rfl, mz_le2 (by decide) (by omega)]; omega
    · rw [show (4 : Int32) = nI 4 from rfl, mz_le2 (by decide) (by omega)] at q4
      have := fin o7 o8 o9 o10
      rw [show k / 2 = 2 by omega] at this
      exact this
    · rw [show (4 : Int32) = nI 4 from rfl, mz_le2 (by decide) (by omega)] at q4
      rw [show (2 : Int32) = nI 2 from rfl, mz_le2 (by decide) (by omega)] at q2
      have := fin o7 o8 o9 o10
      rw [show k / 2 = 1 by omega] at this
      exact this
    · rw [show (2 : Int32) = nI 2 from rfl, mz_le2 (by decide) (by omega)] at q2
      have := fin o7 o8 o9 o10
      rw [show k / 2 = 0 by omega] at this
      exact this
end LWR
