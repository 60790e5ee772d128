-- one case of the law's switch
section LLC
variable {p : Program} {l : Launch} {e : Env} {s : State} {m : MethodId} {below : List Frame} {meth : Method} {c : Code} {b L : Nat} {xs : Nat → Int32} {D : va_G} {cA : Nat → ClassId} {cL : ClassId} {ad1 ad2 : Nat → Nat} {ao : Nat} {M1 M2 Z X : mj_M} {o : Int64} {pc cn sn i : Nat} {st : List Value} {tl : List (Nat × Value)}
def ll_val (bo : Bool) (v : Int32) : Int64 := match bo with
  | true => if v = 0 then 0 else 1
  | false => v.toInt64
def ll_dT (pc : Nat) : Bool → Bool
  | false => decide (decode code pc = .ok (.istore 6, 2)) && decide (decode code (pc + 2) = .ok (.aload_n 2, 1)) && decide (decode code (pc + 3) = .ok (.invokevirtual 79, 3)) && decide (decode code (pc + 6) = .ok (.iload 5, 2)) && decide (decode code (pc + 8) = .ok (.if_icmp .eq 5, 3)) && decide (decode code (pc + 13) = .ok (.iload 5, 2)) && decide (decode code (pc + 15) = .ok (.ifCond .ne 15, 3)) && decide (decode code (pc + 18) = .ok (.aload_n 3, 1)) && decide (decode code (pc + 19) = .ok (.iconst 0, 1)) && decide (decode code (pc + 20) = .ok (.laload, 1)) && decide (decode code (pc + 21) = .ok (.iload 6, 2)) && decide (decode code (pc + 23) = .ok (.i2l, 1)) && decide (decode code (pc + 24) = .ok (.lcmp, 1)) && decide (decode code (pc + 25) = .ok (.ifCond .eq 5, 3)) && decide (decode code (pc + 30) = .ok (.goto (1421 - ((pc + 30 : Nat) : Int)), 3))
  | true => decide (decode code pc = .ok (.istore 6, 2)) && decide (decode code (pc + 2) = .ok (.aload_n 2, 1)) && decide (decode code (pc + 3) = .ok (.invokevirtual 79, 3)) && decide (decode code (pc + 6) = .ok (.iload 5, 2)) && decide (decode code (pc + 8) = .ok (.if_icmp .eq 5, 3)) && decide (decode code (pc + 13) = .ok (.iload 5, 2)) && decide (decode code (pc + 15) = .ok (.ifCond .ne 22, 3)) && decide (decode code (pc + 18) = .ok (.aload_n 3, 1)) && decide (decode code (pc + 19) = .ok (.iconst 0, 1)) && decide (decode code (pc + 20) = .ok (.laload, 1)) && decide (decode code (pc + 21) = .ok (.iload 6, 2)) && decide (decode code (pc + 23) = .ok (.ifCond .eq 7, 3)) && decide (decode code (pc + 26) = .ok (.lconst 1, 1)) && decide (decode code (pc + 27) = .ok (.goto 4, 3)) && decide (decode code (pc + 30) = .ok (.lconst 0, 1)) && decide (decode code (pc + 31) = .ok (.lcmp, 1)) && decide (decode code (pc + 32) = .ok (.ifCond .eq 5, 3)) && decide (decode code (pc + 37) = .ok (.goto (1421 - ((pc + 37 : Nat) : Int)), 3))
theorem ll_l79 : Cond.methodLink RL 79 (mj_y 91) ∈ mj_G := mj_inG (List.mem_of_getElem? (i := 904) (by decide +kernel)) rfl
theorem ll_cmp {x y : Int64} (h : x = y) : lg_cmp x y = 0 := by
  subst h
  unfold lg_cmp
  rw [if_neg (show ¬ x > x from Int64.lt_irrefl), if_pos rfl]
theorem ll_cz : (0 : Int32).toNatClampNeg = 0 := by decide
theorem ll_vp : vp_in 0 1 := lh_vp
/-- the end of the loop's body, on this path: nothing differed -/
theorem ll_E (h : ll_W p l e s m below meth c b D cA cL ad1 ad2 ao 1421 i [] [] M1 M2 o cn sn) {r v : Int32} : ll_W p l e s m below meth c b D cA cL ad1 ad2 ao 1421 i [(5, .int r), (6, .int v)] [] M1 M2 o cn sn := fun H locs lsA f hf hl hP1 hP2 hS => h H locs lsA f hf (lv_sub hl [0, 1, 2, 3, 4] rfl) hP1 hP2 hS
set_option maxHeartbeats 4000000 in
theorem ll_T (b L : Nat) (C : ll_C p l s m meth c b L xs D cA cL ad1 ad2 ao) (bo : Bool) {r v : Int32} (hd : ll_dT pc bo = true) (hth : M2 0 5 = r) (hv : r = 0 → o = ll_val bo v) (hcn : cn ≤ 601024) (hsn : sn ≤ 7293034) (h : ll_W p l e s m below meth c b D cA cL ad1 ad2 ao 1421 i [] [] M1 M2 o cn sn) : ll_W p l e s m below meth c b D cA cL ad1 ad2 ao pc i [(5, .int r)] [.int v] M1 M2 o cn sn := by
  have hE := ll_E h (r := r) (v := v)
  obtain ⟨⟨hx, hlt, hb, hml, hr, hlk, hown, hts, hX, hbl, hL⟩, ⟨hK, -⟩, -⟩ := id C
  have key : decode code pc = .ok (.istore 6, 2) ∧ decode code (pc + 2) = .ok (.aload_n 2, 1) ∧ decode code (pc + 3) = .ok (.invokevirtual 79, 3) ∧ decode code (pc + 6) = .ok (.iload 5, 2) ∧ decode code (pc + 8) = .ok (.if_icmp .eq 5, 3) ∧ decode code (pc + 13) = .ok (.iload 5, 2) := by
    cases bo <;> simp only [ll_dT, Bool.and_eq_true, decide_eq_true_eq] at hd
    · obtain ⟨⟨⟨⟨⟨⟨⟨⟨⟨⟨⟨⟨⟨⟨d0, d1⟩, d2⟩, d3⟩, d4⟩, d5⟩, -⟩, -⟩, -⟩, -⟩, -⟩, -⟩, -⟩, -⟩, -⟩ := hd
      exact ⟨d0, d1, d2, d3, d4, d5⟩
    · obtain ⟨⟨⟨⟨⟨⟨⟨⟨⟨⟨⟨⟨⟨⟨⟨⟨⟨d0, d1⟩, d2⟩, d3⟩, d4⟩, d5⟩, -⟩, -⟩, -⟩, -⟩, -⟩, -⟩, -⟩, -⟩, -⟩, -⟩, -⟩, -⟩ := hd
      exact ⟨d0, d1, d2, d3, d4, d5⟩
  obtain ⟨d0, d1, d2, d3, d4, d5⟩ := key
  intro H locs lsA f hf hl hP1 hP2 hS
  refine lv_istore (lv' := (6, .int v) :: ll_lv b ad1 ad2 ao i [(5, .int r)]) hx hb d0 hl (by decide) rfl (fun ls2 hl2 => ?_)
  have hl3 : lv_has ls2 7 (ll_lv b ad1 ad2 ao i [(5, .int r), (6, .int v)]) := lv_sub hl2 [1, 2, 3, 4, 5, 6, 0] rfl
  refine lv_aload_n hx hb d1 rfl (lv_at hl3 2 rfl) ?_
  refine ll_M b L C (k := 91) (d := 1) (as := []) (rest := []) (Km := fun e' v' M' => e' = 0 ∧ v' = r ∧ M' = M2) ll_l79 (by decide) (by decide +kernel) rfl (fun h => by cases h) rfl rfl rfl rfl (Nat.le_of_ble_eq_true rfl) (by decide) rfl hcn hsn d2 (sp91 ⟨rfl, hth, rfl⟩) (fun e' M' h => by cases h.1) (fun v' M' hv' => ?_) H locs ls2 f hf hl3 hP1 hP2 hS
  obtain ⟨-, rfl, rfl⟩ := hv'
  intro H locs lsA f hf hl hP1 hP2 hS
  refine lv_iload hx hb d3 (lv_at hl 5 rfl) ?_
  refine lv_icmp_eq (tgt := pc + 13) hx hb d4 (by omega) (fun _ => ?_) (fun z => absurd rfl z)
  refine lv_iload hx hb d5 (lv_at hl 5 rfl) ?_
  cases bo with
  | false =>
    simp only [ll_dT, Bool.and_eq_true, decide_eq_true_eq] at hd
    obtain ⟨⟨⟨⟨⟨⟨⟨⟨⟨⟨⟨⟨⟨⟨-, -⟩, -⟩, -⟩, -⟩, -⟩, d6⟩, d7⟩, d8⟩, d9⟩, d10⟩, d11⟩, d12⟩, d13⟩, d14⟩ := hd
    refine lv_if_ne (tgt := pc + 30) hx hb d6 (by omega) (fun z => ?_) (fun z => ?_)
    · refine lv_goto (tgt := 1421) hx hb d14 (by omega) ?_
      exact hE H locs lsA f hf hl hP1 hP2 hS
    · refine lv_aload_n hx hb d7 rfl (lv_at hl 3 rfl) ?_
      refine lv_iconst (v := 0) hx hb d8 (by decide) ?_
      refine va_lald hx hb hK hP1 81 2 lh_o rfl (i := 0) ll_vp d9 ?_
      rw [ll_cz, hf, hv z]
      refine lv_iload hx hb d10 (lv_at hl 6 rfl) ?_
      refine lv_i2l (v := v.toInt64) hx hb d11 rfl ?_
      refine W.lcmp hx hb d12 ?_
      rw [ll_cmp (show ll_val false v = v.toInt64 from rfl)]
      refine lv_if_eq (tgt := pc + 30) hx hb d13 (by omega) (fun _ => ?_) (fun z => absurd rfl z)
      refine lv_goto (tgt := 1421) hx hb d14 (by omega) ?_
      exact hE H locs lsA f hf hl hP1 hP2 hS
  | true =>
    simp only [ll_dT, Bool.and_eq_true, decide_eq_true_eq] at hd
    obtain ⟨⟨⟨⟨⟨⟨⟨⟨⟨⟨⟨⟨⟨⟨⟨⟨⟨-, -⟩, -⟩, -⟩, -⟩, -⟩, d6⟩, d7⟩, d8⟩, d9⟩, d10⟩, d11⟩, d12⟩, d13⟩, d14⟩, d15⟩, d16⟩, d17⟩ := hd
    refine lv_if_ne (tgt := pc + 37) hx hb d6 (by omega) (fun z => ?_) (fun z => ?_)
    · refine lv_goto (tgt := 1421) hx hb d17 (by omega) ?_
      exact hE H locs lsA f hf hl hP1 hP2 hS
    · refine lv_aload_n hx hb d7 rfl (lv_at hl 3 rfl) ?_
      refine lv_iconst (v := 0) hx hb d8 (by decide) ?_
      refine va_lald hx hb hK hP1 81 2 lh_o rfl (i := 0) ll_vp d9 ?_
      rw [ll_cz, hf, hv z]
      refine lv_iload hx hb d10 (lv_at hl 6 rfl) ?_
      refine lv_if_eq (tgt := pc + 30) hx hb d11 (by omega) (fun q => ?_) (fun q => ?_)
      · refine lv_lconst (v := 0) hx hb d14 rfl ?_
        refine W.lcmp hx hb d15 ?_
        rw [ll_cmp (show ll_val true v = 0 from if_pos q)]
        refine lv_if_eq (tgt := pc + 37) hx hb d16 (by omega) (fun _ => ?_) (fun z => absurd rfl z)
        refine lv_goto (tgt := 1421) hx hb d17 (by omega) ?_
        exact hE H locs lsA f hf hl hP1 hP2 hS
      · refine lv_lconst (v := 1) hx hb d12 rfl ?_
        refine lv_goto (tgt := pc + 31) hx hb d13 (by omega) ?_
        refine W.lcmp hx hb d15 ?_
        rw [ll_cmp (show ll_val true v = 1 from if_neg q)]
        refine lv_if_eq (tgt := pc + 37) hx hb d16 (by omega) (fun _ => ?_) (fun z => absurd rfl z)
        refine lv_goto (tgt := 1421) hx hb d17 (by omega) ?_
        exact hE H locs lsA f hf hl hP1 hP2 hS
def ll_dC (bo : Bool) (ks : List Bool) (hidx midx t : Nat) : Bool := decide (decode code t = .ok (.aload_n 1, 1)) && ll_dL (t + 1) 1 ks && decide (decode code (ll_pc (t + 1) ks) = .ok (.aload_n 3, 1)) && decide (decode code (ll_pc (t + 1) ks + 1) = .ok (.invokestatic hidx, 3)) && decide (decode code (ll_pc (t + 1) ks + 4) = .ok (.istore 5, 2)) && decide (decode code (ll_pc (t + 1) ks + 6) = .ok (.aload_n 2, 1)) && ll_dL (ll_pc (t + 1) ks + 7) 1 ks && decide (decode code (ll_pc (ll_pc (t + 1) ks + 7) ks) = .ok (.invokevirtual midx, 3)) && ll_dT (ll_pc (ll_pc (t + 1) ks + 7) ks + 3) bo
/-- what comes back to the loop's head -/
def ll_G (p : Program) (l : Launch) (e : Env) (s : State) (m : MethodId) (below : List Frame) (meth : Method) (c : Code) (b : Nat) (D : va_G) (cA : Nat → ClassId) (cL : ClassId) (ad1 ad2 : Nat → Nat) (ao i cn sn : Nat) (Z : mj_M) : Prop := ∀ (Z' M1' X' : mj_M) (o' : Int64), mj_Ia Z' → mk_CL Z' M1' → (Z' 0 5).toInt ≤ (Z 0 5).toInt + 60 → ll_W p l e s m below meth c b D cA cL ad1 ad2 ao 1421 i [] [] M1' (mj_mm Z' X') o' (cn + 10) (sn + 60)
theorem ll_widen {k n : Nat} (h1 : cn ≤ k) (h2 : sn ≤ n) (h : ll_W p l e s m below meth c b D cA cL ad1 ad2 ao pc i tl st M1 M2 o k n) : ll_W p l e s m below meth c b D cA cL ad1 ad2 ao pc i tl st M1 M2 o cn sn := fun H locs lsA f hf hl hP1 hP2 hS => W.widen h1 h2 (h H locs lsA f hf hl hP1 hP2 hS)
set_option maxHeartbeats 4000000 in
theorem ll_case (b L : Nat) (C : ll_C p l s m meth c b L xs D cA cL ad1 ad2 ao) (bo : Bool) {ks : List Bool} {hidx midx t nL kc dc km dm : Nat} {y : MethodName} {bh : ByteArray} {hh : List (Nat × Nat × Nat × Nat)} {wsh : List Cond} {al : List (Nat × Int32)} (hd : ll_dC bo ks hidx midx t = true) (hk : ks.length ≤ 5) (hi : i + 6 ≤ L)
    (hw : wsh = .codeWith y bh nL (some .int) hh :: mj_G) (hcw : Cond.codeWith y bh nL (some .int) hh ∈ mj_G) (hlink : Cond.methodLink RL hidx y ∈ mj_G) (hstat : Cond.static y ∈ mj_G) (hini : Cond.initialized y.cls ∈ mj_G) (hyd : y.cls ≠ "java/lang/invoke/MethodHandle" ∧ y.cls ≠ "java/lang/invoke/VarHandle") (hn : (parseMethodDescriptor y.desc).map (fun d => d.parameters.length) = some (ks.length + 2)) (hnL : nL ≤ 8) (hdc : dc ≤ 16) (hmc : mj_mc kc ≤ 10)
    (hH : ∀ (Kc : mj_K) (KK : Int32 → mj_M → Int64 → Prop), mj_Cm kc dc (.ref 0 :: ll_vs xs i 1 ks) M1 Kc → (∀ v M', Kc 0 v M' → KK 0 M' (ll_val bo v)) → (∀ e M', Kc (e + 1) 0 M' → ∃ cd, (e + 1, cd) ∈ al ∧ ∀ o, KK cd M' o) → lh_Cm y wsh kc dc (ll_vs xs i 1 ks) M1 KK)
    (hml : Cond.methodLink RL midx (mj_y km) ∈ mj_G) (hkm : km < mj_N) (hV : km ∈ mj_kV) (hlv : mj_lv km = 1) (hr : mj_r km ≠ none) (hoc : mj_oc km = 7) (har : ks.length = mj_ar km) (hdm : dm ≤ 16) (hmm : mj_mc km = 0)
    (hal0 : ∀ cd, (0, cd) ∈ al → cd = 0) (hal1 : ∀ e, (e, (0 : Int32)) ∈ al → e = 0) (hop : la_op kc dc km dm (ll_vs xs i 1 ks) al Z M1) (hcn : cn + 10 ≤ 601024) (hsn : sn + 60 ≤ 7293034)
    (h : ll_G p l e s m below meth c b D cA cL ad1 ad2 ao i cn sn Z) : ll_W p l e s m below meth c b D cA cL ad1 ad2 ao t i [] [] M1 (mj_mm Z X) o cn sn := by
  obtain ⟨⟨hx, hlt, hb, hml0, hr0, hlk, hown, hts, hX, hbl, hL⟩, ⟨hK, -⟩, -⟩ := id C
  unfold ll_dC at hd
  rw [Bool.and_eq_true, Bool.and_eq_true, Bool.and_eq_true, Bool.and_eq_true, Bool.and_eq_true, Bool.and_eq_true, Bool.and_eq_true, Bool.and_eq_true, decide_eq_true_eq, decide_eq_true_eq, decide_eq_true_eq, decide_eq_true_eq, decide_eq_true_eq, decide_eq_true_eq] at hd
  obtain ⟨⟨⟨⟨⟨⟨⟨⟨d0, dL1⟩, d1⟩, d2⟩, d3⟩, d4⟩, dL2⟩, d5⟩, dT⟩ := hd
  have hcm := hop (fun e' v' M' => ∃ cd Z', (e', cd) ∈ al ∧ mj_Ia Z' ∧ mk_CL Z' M' ∧ (Z' 0 5).toInt ≤ (Z 0 5).toInt + 60 ∧ la_ag km dm (ll_vs xs i 1 ks) Z' Z cd e' v') (fun e' cd v' M' Z' h1 h2 h3 h4 h5 => ⟨cd, Z', h1, h2, h3, h4, h5⟩)
  have hhm := hH _ (fun r M' o' => ∃ e' v' Z', (e', r) ∈ al ∧ mj_Ia Z' ∧ mk_CL Z' M' ∧ (Z' 0 5).toInt ≤ (Z 0 5).toInt + 60 ∧ la_ag km dm (ll_vs xs i 1 ks) Z' Z r e' v' ∧ (e' = 0 → o' = ll_val bo v')) hcm (fun v' M' hv => by
      obtain ⟨cd, Z', h1, h2, h3, h4, h5⟩ := hv
      have h6 := hal0 cd h1
      subst h6
      exact ⟨0, v', Z', h1, h2, h3, h4, h5, fun _ => rfl⟩) (fun e' M' hv => by
      obtain ⟨cd, Z', h1, h2, h3, h4, h5⟩ := hv
      exact ⟨cd, h1, fun o' => ⟨e' + 1, 0, Z', h1, h2, h3, h4, h5, fun z => absurd z (Nat.succ_ne_zero _)⟩⟩)
  intro H locs lsA f hf hl hP1 hP2 hS
  refine lv_aload_n hx hb d0 rfl (lv_at hl 1 rfl) ?_
  refine ll_L b L C ks (t + 1) 1 [.ref (ad1 0)] dL1 (by omega) (by omega) ?_ H locs lsA f hf hl hP1 hP2 hS
  intro H locs lsA f hf hl hP1 hP2 hS
  refine lv_aload_n hx hb d1 rfl (lv_at hl 3 rfl) ?_
  refine ll_H b L C hw hcw hlink hstat hini hyd (by rw [ll_vs_len]; exact hn) hnL hdc hhm hmc hcn hsn d2 (fun r M' o' hq => ?_) H locs lsA f hf hl hP1 hP2 hS
  obtain ⟨e', v', Z', h1, h2, h3, h4, h5, h6⟩ := hq
  intro H locs lsA f hf hl hP1 hP2 hS
  refine lv_istore (lv' := (5, .int r) :: ll_lv b ad1 ad2 ao i []) hx hb d3 hl (by decide) rfl (fun ls2 hl2 => ?_)
  have hl3 : lv_has ls2 7 (ll_lv b ad1 ad2 ao i [(5, .int r)]) := lv_sub hl2 [1, 2, 3, 4, 5, 0] rfl
  refine lv_aload_n hx hb d4 rfl (lv_at hl3 2 rfl) ?_
  refine ll_L b L C ks (ll_pc (t + 1) ks + 7) 1 [.ref (ad2 0)] dL2 (by omega) (by omega) ?_ H locs ls2 f hf hl3 hP1 hP2 hS
  refine ll_M b L C (k := km) (d := dm) (as := ll_vs xs i 1 ks) (rest := []) (Km := fun e'' v'' M'' => e'' = 0 ∧ ∃ X', M'' = mj_mm Z' X' ∧ X' 0 5 = r ∧ (e' = 0 → v'' = v')) hml hkm hV hlv hr hoc (by rw [ll_vs_len]; exact har) rfl (ll_vs_tr _ _ _ _ _) (Nat.le_of_ble_eq_true rfl) hdm hmm (by omega) (by omega) d5 (h5 X _ (fun v'' X' e1 e2 => ⟨rfl, X', rfl, e1, e2⟩)) (fun _ _ z => absurd z.1 (Nat.succ_ne_zero _)) (fun v'' M'' hq => ?_)
  obtain ⟨-, X', rfl, e1, e2⟩ := hq
  refine ll_T b L C bo dT e1 (fun z => ?_) (by omega) (by omega) (ll_widen (by omega) (by omega) (h Z' M' X' o' h2 h3 h4))
  subst z
  have h7 := hal1 e' h1
  rw [h6 h7, e2 h7]
set_option maxHeartbeats 4000000 in
/-- a case that calls both directly -/
theorem ll_dir (b L : Nat) (C : ll_C p l s m meth c b L xs D cA cL ad1 ad2 ao) {cidx midx t kc dc km dm : Nat} {off : Int} (d0 : decode code t = .ok (.aload_n 1, 1)) (d1 : decode code (t + 1) = .ok (.invokevirtual cidx, 3)) (d2 : decode code (t + 4) = .ok (.aload_n 2, 1)) (d3 : decode code (t + 5) = .ok (.invokevirtual midx, 3)) (d4 : decode code (t + 8) = .ok (.if_icmp .eq off, 3)) (hoff : ((t + 8 : Nat) : Int) + off = ((1421 : Nat) : Int))
    (hcl : Cond.methodLink RL cidx (mj_y kc) ∈ mj_G) (hkc : kc < mj_N) (hVc : kc ∈ mj_kV) (hlvc : mj_lv kc = 2) (hrc : mj_r kc ≠ none) (hocc : mj_oc kc = 6) (harc : mj_ar kc = 0) (hdc : dc ≤ 16) (hmc : mj_mc kc = 0)
    (hml : Cond.methodLink RL midx (mj_y km) ∈ mj_G) (hkm : km < mj_N) (hV : km ∈ mj_kV) (hlv : mj_lv km = 1) (hr : mj_r km ≠ none) (hoc : mj_oc km = 7) (har : mj_ar km = 0) (hdm : dm ≤ 16) (hmm : mj_mc km = 0)
    (hop : la_op kc dc km dm [] [(0, 0)] Z M1) (hcn : cn + 10 ≤ 601024) (hsn : sn + 60 ≤ 7293034)
    (h : ll_G p l e s m below meth c b D cA cL ad1 ad2 ao i cn sn Z) : ll_W p l e s m below meth c b D cA cL ad1 ad2 ao t i [] [] M1 (mj_mm Z X) o cn sn := by
  obtain ⟨⟨hx, hlt, hb, hml0, hr0, hlk, hown, hts, hX, hbl, hL⟩, ⟨hK, -⟩, -⟩ := id C
  have hcm := hop (fun e' v' M' => e' = 0 ∧ ∃ Z', mj_Ia Z' ∧ mk_CL Z' M' ∧ (Z' 0 5).toInt ≤ (Z 0 5).toInt + 60 ∧ la_ag km dm [] Z' Z 0 0 v') (fun e' cd v' M' Z' h1 h2 h3 h4 h5 => by
    rw [List.mem_singleton] at h1
    cases h1
    exact ⟨rfl, Z', h2, h3, h4, h5⟩)
  intro H locs lsA f hf hl hP1 hP2 hS
  refine lv_aload_n hx hb d0 rfl (lv_at hl 1 rfl) ?_
  refine ll_D b L C (rest := []) hcl hkc hVc hlvc hrc hocc harc (Nat.le_of_ble_eq_true rfl) hdc hmc (by omega) (by omega) d1 hcm (fun _ _ z => absurd z.1 (Nat.succ_ne_zero _)) (fun v M' hq => ?_) H locs lsA f hf hl hP1 hP2 hS
  obtain ⟨-, Z', h2, h3, h4, h5⟩ := hq
  intro H locs lsA f hf hl hP1 hP2 hS
  refine lv_aload_n hx hb d2 rfl (lv_at hl 2 rfl) ?_
  refine ll_M b L C (k := km) (d := dm) (as := []) (rest := [.int v]) (Km := fun e'' v'' M'' => e'' = 0 ∧ ∃ X', M'' = mj_mm Z' X' ∧ v'' = v) hml hkm hV hlv hr hoc har.symm rfl rfl (Nat.le_of_ble_eq_true rfl) hdm hmm (by omega) (by omega) d3 (h5 X _ (fun v'' X' _ e2 => ⟨rfl, X', rfl, e2 rfl⟩)) (fun _ _ z => absurd z.1 (Nat.succ_ne_zero _)) (fun v'' M'' hq => ?_) H locs lsA f hf hl hP1 hP2 hS
  obtain ⟨-, X', rfl, rfl⟩ := hq
  intro H locs lsA f hf hl hP1 hP2 hS
  refine lv_icmp_eq (tgt := 1421) hx hb d4 hoff (fun _ => ?_) (fun z => absurd rfl z)
  exact ll_widen (by omega) (by omega) (h Z' M' X' o h2 h3 h4) H locs lsA f hf hl hP1 hP2 hS
end LLC
