-- THE LAW'S FIRST STEPS: a station, five rows, then the loop (holds)
section LZH
def ls_Z : mj_M := fun _ _ => 0
theorem ls_0 : (0 : Int32).toNatClampNeg = 0 := by decide
theorem ls_no {k : Nat} (h : k < (0 : Int32).toNatClampNeg) : False := by
  rw [ls_0] at h
  exact Nat.not_lt_zero _ h
theorem ls_Ia : mj_Ia ls_Z := by
  have z0 : 0 ≤ (0 : Int32).toInt := by decide
  have z10 : (0 : Int32).toInt ≤ 10 := by decide
  have z14 : (0 : Int32).toInt ≤ 14 := by decide
  have z12 : (0 : Int32).toInt ≤ 12 := by decide
  have z120 : (0 : Int32).toInt ≤ 120 := by decide
  have zM : (0 : Int32).toInt ≤ 1000000 := by decide
  refine ⟨⟨⟨⟨⟨⟨z0, z10⟩, ⟨z0, z14⟩, fun l h => (ls_no h).elim⟩, ⟨z0, z120⟩, ⟨z0, z12⟩, fun p h => (ls_no h).elim, fun r h => (ls_no h).elim, fun l h => (ls_no h).elim, fun t h => (ls_no h).elim, Or.inl rfl⟩, fun p h => (ls_no h).elim, fun r h => (ls_no h).elim, fun r h => (ls_no h).elim, fun t h => (ls_no h).elim, z0, zM⟩, fun c i _ _ => rfl, fun p h => (ls_no h).elim⟩, fun r _ => ⟨rfl, rfl, rfl, rfl⟩, fun l _ => ⟨rfl, rfl, rfl, rfl⟩, fun t _ => rfl⟩
theorem ls_CL : mk_CL ls_Z ls_Z := by
  refine ⟨⟨ls_Z, ?_, fun w _ a g ha => (ls_no ha).elim⟩, fun _ _ _ _ _ => rfl⟩
  funext q i
  show (0 : Int32) = mj_cc ls_Z ls_Z q i
  unfold mj_cc
  cases mj_same q with
  | true => rfl
  | false =>
    simp only [cond_false]
    split
    · show (0 : Int32) = 0 + 2 * 0
      decide
    all_goals first
      | rfl
      | (show (0 : Int32) = if _ then (0 : Int32) else if _ then (0 : Int32) else (0 : Int32)
         rw [ite_self, ite_self])
      | (show (0 : Int32) = if _ then (0 : Int32) else (0 : Int32)
         rw [ite_self])
theorem ls_G : mz_G 0 0 ls_Z := ⟨ls_Ia, nI_0.symm, nI_0.symm, rfl, rfl, rfl, fun _ => rfl, fun r hr => absurd hr (Nat.not_lt_zero r)⟩
theorem ls_mz : mz_j ls_Z (mz ls_Z ls_Z) = fun _ _ => 0 := by
  funext q i
  unfold mz_j
  split
  · rfl
  · generalize q - 81 = c
    match c with
    | 0 => rfl
    | 1 => rfl
    | 2 => rfl
    | 3 => rfl
    | 4 =>
      show mz_m ls_Z ls_Z i = 0
      unfold mz_m ls_Z
      simp only [ite_self]
    | n + 5 => rfl
theorem lz_len9 : (mj_Sh 9).length = 86 := rfl
theorem lz_sh2 : mj_Sh2 = mj_Sh 2 := rfl
def lz_K : mj_K := fun o v _ => o = 0 ∧ v = 1
theorem lz_mono {p : Program} {l : Launch} {e : Env} {R : Room} {s : State} {m : MethodId} {args : Array Value} {below : List Frame} {meth : Method} {c : Code} {H : Heap} {locs : List Loc} {cells slots : Nat} {Q Q' : State → Prop} {g : JFrame} (h : W p l e R s m args below meth c H locs cells slots Q g) (hq : ∀ t, Q t → Q' t) : W p l e R s m args below meth c H locs cells slots Q' g := by
  intro T hT X
  obtain ⟨t, a, b⟩ := h T hT X
  exact ⟨t, a, hq t b⟩
/-- a new row of ints -/
theorem lz_arr {p : Program} {l : Launch} {e : Env} {R : Room} {s : State} {m : MethodId} {args : Array Value} {below : List Frame} {meth : Method} {c : Code} {H H0 : Heap} {locs : List Loc} {cells slots : Nat} {Q : State → Prop} {D : va_G} {cA : Nat → ClassId} {A : Nat → Prop} {cc : ByteArray} {ls : Array Slot} {N pc : Nat} {v : Int32} {ar : va_W} {rest : List Value}
    (hx : p.tables.exec = Jvm.exec) (hb : c.code = cc) (hts : ∀ w ∈ mj_G, w.before args s = true) (hK : va_K D mj_cl (mj_tys cA) s) (hP : va_P D mj_cl ar H) (hD : va_D A ar) (hS : va_S A H0 H locs) (hA : ∀ q, H0.size ≤ q → A q) (hn : ¬ v < 0) (hN : v.toNatClampNeg = N) (hbytes : N ≤ 2000) (hcells : cells + 1 ≤ R.cells) (hslots : slots + N ≤ R.slots) (d : decode cc pc = .ok (.newarray .int, 2))
    (kk : ∀ (q : Nat) (H1 : Heap), va_P D mj_cl (ar ++ [(q, .inl (cA 0, N, .inl fun _ => 0))]) H1 → va_D A (ar ++ [(q, .inl (cA 0, N, .inl fun _ => 0))]) → va_S A H0 H1 locs → W p l e R s m args below meth c H1 locs (cells + 1) (slots + N) Q (F0 m (pc + 2) ls (.ref q :: rest))) : W p l e R s m args below meth c H locs cells slots Q (F0 m pc ls (.int v :: rest)) := by
  refine va_newa (atype := .int) (ty := .int) (a0 := (N, .inl fun _ => 0)) hx hb (hts _ cn_arrInt) rfl hK hP hD hS hA (fun _ => rfl) hn hN (by show N * 4 ≤ 536870912; omega) hcells hslots d (fun q cB H1 hK1 hP1 hD1 hS1 => ?_)
  have hcB : cB = cA 0 := by
    have e1 := (hK1.2 2 (cB, .int) rfl).2
    have e2 := (hK.2 0 (cA 0, .int) rfl).2
    exact Option.some.inj (Eq.trans (Eq.symm e1) e2)
  subst hcB
  exact kk q H1 hP1 hD1 hS1
theorem ls_app {A : Nat → Prop} {ws vs : va_W} (h : va_D A (ws ++ vs)) {i j : Nat} {x y : Nat × va_E} (hx : ws[i]? = some x) (hy : vs[j]? = some y) : x.1 ≠ y.1 := by
  intro e
  have hl := (List.getElem?_eq_some_iff.mp hx).1
  have h1 : (ws ++ vs)[i]? = some x := by rw [List.getElem?_append_left hl]; exact hx
  have h2 : (ws ++ vs)[ws.length + j]? = some y := by rw [List.getElem?_append_right (by omega), Nat.add_sub_cancel_left]; exact hy
  have := h.1 i (ws.length + j) x y h1 h2 e
  omega
theorem ls_l {A : Nat → Prop} {ws vs : va_W} (h : va_D A (ws ++ vs)) : va_D A ws := by
  have key : ∀ (i : Nat) (x : Nat × va_E), ws[i]? = some x → (ws ++ vs)[i]? = some x := fun i x hx => by
    rw [List.getElem?_append_left (List.getElem?_eq_some_iff.mp hx).1]; exact hx
  exact ⟨fun i j x y hx hy e => h.1 i j x y (key i x hx) (key j y hy) e, fun k x hx => h.2 k x (key k x hx)⟩
theorem ls_r {A : Nat → Prop} {ws vs : va_W} (h : va_D A (ws ++ vs)) : va_D A vs := by
  have key : ∀ (j : Nat) (y : Nat × va_E), vs[j]? = some y → (ws ++ vs)[ws.length + j]? = some y := fun j y hy => by
    rw [List.getElem?_append_right (by omega), Nat.add_sub_cancel_left]; exact hy
  refine ⟨fun i j x y hx hy e => ?_, fun k x hx => h.2 _ x (key k x hx)⟩
  have := h.1 _ _ x y (key i x hx) (key j y hy) e
  omega
theorem ls_Pl {D : va_G} {cl : List vw_C} {ws vs : va_W} {H : Heap} (h : va_P D cl (ws ++ vs) H) : va_P D cl ws H := fun i x hx => h i x (by rw [List.getElem?_append_left (List.getElem?_eq_some_iff.mp hx).1]; exact hx)
theorem ls_Pr {D : va_G} {cl : List vw_C} {ws vs : va_W} {H : Heap} (h : va_P D cl (ws ++ vs) H) : va_P D cl vs H := fun j x hx => h (ws.length + j) x (by rw [List.getElem?_append_right (by omega), Nat.add_sub_cancel_left]; exact hx)
set_option maxHeartbeats 4000000 in
/-- x = new C(), in the law -/
theorem lz_new {p : Program} {l : Launch} {e : Env} {R : Room} {s : State} {m : MethodId} {args : Array Value} {below : List Frame} {meth : Method} {c : Code} {H : Heap} {locs : List Loc} {cells slots : Nat} {Q : State → Prop} {D : va_G} {cA : Nat → ClassId} {b cc : ByteArray} {ls : Array Slot} {pc fr cs ss lo cj inew ispec nl : Nat} {y : MethodName} {fj : List Value} {ar : va_W} {Sh : List mj_D}
    (hx : p.tables.exec = Jvm.exec) (hb : c.code = cc) (hml : c.maxLocals = nl) (hts : ∀ w ∈ mj_G, w.before args s = true) (hown : s.vm.findClass RL = some m.cls) (hK : va_K D mj_cl (mj_tys cA) s) (hN : cn_N s) (hP : va_P D mj_cl ar H) (hD : va_D (fun q : Nat => s.heap.size ≤ q) ar) (hS : va_S (fun q : Nat => s.heap.size ≤ q) s.heap H locs) (hls : ls.size = nl)
    (hM : cn_Met l y b fr cs ss lo cj fj Sh) (hyc : Cond.code y b 1 none ∈ mj_G) (hyi : Cond.instanceMethod y ∈ mj_G) (hyn : y.name = "<init>") (hyz : Cond.initialized y.cls ∈ mj_G) (hyd : y.cls ≠ "java/lang/invoke/MethodHandle" ∧ y.cls ≠ "java/lang/invoke/VarHandle" ∧ (parseMethodDescriptor y.desc).map (fun d => d.parameters.length) = some 0) (hyl : Cond.methodLink RL ispec y ∈ mj_G)
    (hcl : Cond.classLink RL inew (mj_q cj).1 ∈ mj_G) (hinst : Cond.instantiable (mj_q cj).1 (mj_q cj).2.2 ∈ mj_G) (hini : Cond.initialized (mj_q cj).1 ∈ mj_G) (hcj : cj < 7) (hfj : ∀ j, j < (mj_q cj).2.2 → defaultValue (mj_ty0 cj j) = vp_V fj j)
    (hcells : cells + 1 + cs ≤ R.cells) (hslots : slots + (mj_q cj).2.2 + ss ≤ R.slots) (hfr : fr + 1 ≤ R.frames) (hlo : 8 + (1 + 11) + lo ≤ R.locals)
    (d1 : decode cc pc = .ok (.new inew, 3)) (d2 : decode cc (pc + 3) = .ok (.dup, 1)) (d3 : decode cc (pc + 4) = .ok (.invokespecial ispec, 3))
    (kk : ∀ (u : Nat → Nat) (H1 : Heap) (locs1 : List Loc), va_P D mj_cl (ar ++ mj_w cA u (fun _ _ => 0) Sh) H1 → va_D (fun q : Nat => s.heap.size ≤ q) (ar ++ mj_w cA u (fun _ _ => 0) Sh) → va_S (fun q : Nat => s.heap.size ≤ q) s.heap H1 locs1 → W p l e R s m args below meth c H1 locs1 (cells + 1 + cs) (slots + (mj_q cj).2.2 + ss) Q (F0 m (pc + 7) ls [.ref (u 0)])) : W p l e R s m args below meth c H locs cells slots Q (F0 m pc ls []) := by
  have hA : ∀ q : Nat, s.heap.size ≤ q → (fun q : Nat => s.heap.size ≤ q) q := fun _ h => h
  refine va_new (ci := cj) (fs := fj) (C := (mj_q cj).1) (T := (mj_q cj).2.1) (N := (mj_q cj).2.2) hx hb hts (mj_inL hcj) (mj_ty0 cj) (mj_tyok hcj) hown (hts _ hcl) (hts _ hinst) (hts _ hini) hK hP hD hS hA (mj_cl_q hcj) hfj (by omega) (by omega) d1 (fun q H hP hD hS => ?_)
  refine lv_dup hx hb d2 rfl ?_
  have hPl : ((ar ++ [(q, .inr (cj, fj))] : va_W))[ar.length]? = some (q, .inr (cj, fj)) := by
    rw [List.getElem?_append_right (Nat.le_refl _), Nat.sub_self]; rfl
  have hPc : va_P D mj_cl (cn_0 q cj fj) H := ls_Pr hP
  have hDc : va_D (fun _ => True) (cn_0 q cj fj) := (ls_r hD).weaken (fun _ _ _ _ => trivial)
  have hFc : ∀ z, va_A (cn_0 q cj fj) H.size z → (fun q : Nat => s.heap.size ≤ q) z := by
    intro z hz
    rcases hz with ⟨k, e1, hz⟩ | hz
    · have hk := (List.getElem?_eq_some_iff.mp hz).1
      have : k = 0 := by simp [cn_0] at hk; exact hk
      subst this
      cases hz
      exact hD.2 _ _ hPl
    · exact Nat.le_trans hS.1 hz
  refine va_callv (va_runI (As := []) (rest := [.ref q]) ⟨hx, hb, hml, hown, hts⟩ (hM D cA q H.size) (cwI 0 hts (cn_good hyc) rfl rfl rfl (hts _ hyz) (hts _ hyl) (hts _ hyi) hyn hyd ⟨hfr, hlo⟩) ⟨cn_blind, fun U hU hW => ⟨rfl, by rw [hU], by rw [hU]; exact hPc, va_K.moved hW.alike hK, hDc, hN.warm hW⟩⟩ rfl rfl hls rfl (lv_room (Nat.le_of_ble_eq_true rfl)) d3 ⟨hcells, hslots⟩) hS (fun q _ h => hFc q h) hFc (fun u t H1 locs1 ht hvm hw hB hz1 hk1 hS1 => ?_)
  obtain ⟨hP1, hD1⟩ := hB
  rw [ht] at hP1
  obtain ⟨hP2, hD2⟩ := cn_join (ws := ar) (wc := cn_0 q cj fj) hP hD hk1 hFc hP1 hD1
  have hq : u 0 = q := hw
  subst hq
  exact kk u H1 locs1 hP2 hD2 hS1
theorem lz_p_0 : decode (mj_c 112) 0 = .ok (.new 65, 3) := by decide +kernel
theorem lz_p_3 : decode (mj_c 112) 3 = .ok (.dup, 1) := by decide +kernel
theorem lz_p_4 : decode (mj_c 112) 4 = .ok (.invokespecial 136, 3) := by decide +kernel
theorem lz_p_7 : decode (mj_c 112) 7 = .ok (.astore_n 1, 1) := by decide +kernel
theorem lz_p_8 : decode (mj_c 112) 8 = .ok (.bipush 64, 2) := by decide +kernel
theorem lz_p_10 : decode (mj_c 112) 10 = .ok (.newarray .int, 2) := by decide +kernel
theorem lz_p_12 : decode (mj_c 112) 12 = .ok (.astore_n 2, 1) := by decide +kernel
theorem lz_p_13 : decode (mj_c 112) 13 = .ok (.bipush 55, 2) := by decide +kernel
theorem lz_p_15 : decode (mj_c 112) 15 = .ok (.newarray .int, 2) := by decide +kernel
theorem lz_p_17 : decode (mj_c 112) 17 = .ok (.astore_n 3, 1) := by decide +kernel
theorem lz_p_18 : decode (mj_c 112) 18 = .ok (.bipush 30, 2) := by decide +kernel
theorem lz_p_20 : decode (mj_c 112) 20 = .ok (.newarray .int, 2) := by decide +kernel
theorem lz_p_22 : decode (mj_c 112) 22 = .ok (.astore 4, 2) := by decide +kernel
theorem lz_p_24 : decode (mj_c 112) 24 = .ok (.bipush 18, 2) := by decide +kernel
theorem lz_p_26 : decode (mj_c 112) 26 = .ok (.newarray .int, 2) := by decide +kernel
theorem lz_p_28 : decode (mj_c 112) 28 = .ok (.astore 5, 2) := by decide +kernel
theorem lz_p_30 : decode (mj_c 112) 30 = .ok (.bipush 12, 2) := by decide +kernel
theorem lz_p_32 : decode (mj_c 112) 32 = .ok (.newarray .int, 2) := by decide +kernel
theorem lz_p_34 : decode (mj_c 112) 34 = .ok (.astore 6, 2) := by decide +kernel
theorem lz_n6 : Cond.instantiable (mj_q 6).1 (mj_q 6).2.2 ∈ mj_G := mj_inG (List.mem_of_getElem? (i := 51) (by decide +kernel)) rfl
theorem lz_i6 : Cond.instanceMethod yX6_init ∈ mj_G := mj_inG (List.mem_of_getElem? (i := 53) (by decide +kernel)) rfl
theorem lz_k65 : Cond.classLink RL 65 (mj_q 6).1 ∈ mj_G := mj_inG (List.mem_of_getElem? (i := 50) (by decide +kernel)) rfl
theorem lz_m136 : Cond.methodLink RL 136 yX6_init ∈ mj_G := mj_inG (List.mem_of_getElem? (i := 52) (by decide +kernel)) rfl
def lz_Pc (D : va_G) (cA : Nat → ClassId) (b sz : Nat) : Array Value → State → Prop := va_Pc [.ref b] (fun U => U.heap.size = sz ∧ va_K D mj_cl (mj_tys cA) U ∧ cn_N U ∧ mj_X 9 (fun _ => b) (fun q => sz ≤ q) U U.heap)
def lz_A (sz : Nat) : Nat → Prop := fun q => sz ≤ q
def lz_Q (sz : Nat) : Array Value → State → Outcome → State → Prop := va_Qi (fun (r : Int32) (_ : Unit) => r = 1) (fun _ _ => True) (lz_A sz)
def lz_X (sz : Nat) : String → State → State → Prop := vx_X (fun _ : Unit => False) (fun _ _ _ => True) (lz_A sz)
theorem lz_blind {D : va_G} {cA : Nat → ClassId} {b sz : Nat} : FrameBlind (lz_Pc D cA b sz) := by
  intro a U g mk q
  obtain ⟨q0, q1, qK, qN, qX⟩ := q
  exact ⟨q0, q1, va_K.moved (u := U) (U := U.calling g mk a) (Vm.Alike.refl U.vm) qK, fun x hx => va_Nw.same rfl rfl (qN x hx), mj_X.warm (s := U) (U := U.calling g mk a) (State.WarmedH.refl U) qX⟩
theorem lz_end {below : List Frame} {D : va_G} {cA : Nat → ClassId} {ad : Nat → Nat} {args : Array Value} {s t : State} {mc ms : Nat} (hsub : ∀ q, mj_A ad (mj_Sh 9).length s.heap.size q → s.heap.size ≤ q) (h : vx_MQ below (mj_Q (mj_r 112) D cA ad (mj_Sh 9) lz_K (mj_A ad (mj_Sh 9).length s.heap.size)) (mj_XC D cA ad (mj_Sh 9) lz_K (mj_A ad (mj_Sh 9).length s.heap.size)) args s mc ms (mj_A ad (mj_Sh 9).length s.heap.size) t) : vx_MQ below (lz_Q s.heap.size) (lz_X s.heap.size) args s mc ms (lz_A s.heap.size) t := by
  have hr : mj_r 112 = some .boolean := rfl
  rw [hr] at h
  obtain ⟨o, h1, h2, h3⟩ := h
  refine ⟨o, h1, h2, ?_⟩
  rcases h3 with ⟨⟨⟨r, u, e, hp, hB⟩, hF⟩, L, hE, hL⟩ | ⟨q, e, E, ce, L, ⟨u, hu, -⟩, -⟩
  · refine Or.inl ⟨⟨⟨r, (), e, hp.2, trivial⟩, hF.1, fun q h1 h2 => hF.2 q h1 (fun h => h2 (hsub q h))⟩, L, hE, fun q hq => hsub _ (hL q hq)⟩
  · exact absurd hu.1 (Nat.succ_ne_zero _)
set_option maxHeartbeats 8000000 in
set_option maxRecDepth 100000 in
theorem lz_holds {l : Launch} (hlt : l.stackTraces = false) (D : va_G) (cA : Nat → ClassId) (b sz : Nat) : vx_Met l (mj_y 112) (mj_ws 112) (mj_rm 112 18) (lz_Pc D cA b sz) (lz_Q sz) (lz_X sz) (mj_mc 112) (64 * mj_mc 112) (lz_A sz) := by
  obtain ⟨y1, y2, y3, y4, y5, y6, y7, y8⟩ := mj_yof (k := 112) (by decide)
  refine vx_ofW (cc := mj_c 112) (maxL := 14) (ret := mj_r 112) y1 rfl ?_
  intro p e s m args below meth c s₁ B hml htab hv
  obtain ⟨rfl, hsz, hK, hN, hX⟩ := hv
  have hx := B.exec
  have hb := B.bytes
  have hts0 := atoms_spec (ws := mj_ws 112) B.pre
  have hts : ∀ w ∈ mj_G, w.before _ s = true := fun w hw => hts0 w (List.mem_cons_of_mem _ hw)
  have hown : s.vm.findClass RL = some m.cls := findClass_of_methodNamed B.named
  subst hsz
  have hS : va_S (fun q : Nat => s.heap.size ≤ q) s.heap s.heap [] := va_S.rf
  have hP : va_P D mj_cl [] s.heap := fun k q h => by simp at h
  have hD : va_D (fun q : Nat => s.heap.size ≤ q) [] := ⟨fun i j p q h => by simp at h, fun k q h => by simp at h⟩
  have hA : ∀ q : Nat, s.heap.size ≤ q → (fun q : Nat => s.heap.size ≤ q) q := fun _ h => h
  have hl := lv_entry ([.ref b]) (n := 14) (Nat.le_of_ble_eq_true rfl)
  rw [lg_entry_eq]
  generalize (lg_sl ([.ref b]) ++ List.replicate (14 - (lg_sl ([.ref b])).length) Slot.unset).toArray = ls at hl ⊢
  have hl : lv_has ls 14 [(0, .ref b)] := hl
  refine lz_new (cj := 6) (R := mj_rm 112 18) hx hb hml hts hown hK hN hP hD hS hl.1 (cn_m6 l) cn_c6 lz_i6 rfl (mj_inN (x := 6) (by decide)) (by decide +kernel) lz_m136 lz_k65 lz_n6 (mj_inN (x := 6) (by decide)) (by decide) (by decide) (Nat.le_of_ble_eq_true rfl) (Nat.le_of_ble_eq_true rfl) (Nat.le_of_ble_eq_true rfl) (Nat.le_of_ble_eq_true rfl) lz_p_0 lz_p_3 lz_p_4 (fun u H locs hP hD hS => ?_)
  rw [List.nil_append, lz_sh2] at hP hD
  refine lv_astore_n (lv' := [(1, .ref (u 0)), (0, .ref b)]) hx hb lz_p_7 rfl hl (by decide) rfl (fun ls hl => ?_)
  refine lv_bipush (v := 64) hx hb lz_p_8 rfl ?_
  refine lz_arr (R := mj_rm 112 18) (N := 64) hx hb hts hK hP hD hS hA (by decide) rfl (by decide) (Nat.le_of_ble_eq_true rfl) (Nat.le_of_ble_eq_true rfl) lz_p_10 (fun q1 H hP hD hS => ?_)
  refine lv_astore_n (lv' := [(2, .ref q1), (1, .ref (u 0)), (0, .ref b)]) hx hb lz_p_12 rfl hl (by decide) rfl (fun ls hl => ?_)
  refine lv_bipush (v := 55) hx hb lz_p_13 rfl ?_
  refine lz_arr (R := mj_rm 112 18) (N := 55) hx hb hts hK hP hD hS hA (by decide) rfl (by decide) (Nat.le_of_ble_eq_true rfl) (Nat.le_of_ble_eq_true rfl) lz_p_15 (fun q2 H hP hD hS => ?_)
  refine lv_astore_n (lv' := [(3, .ref q2), (2, .ref q1), (1, .ref (u 0)), (0, .ref b)]) hx hb lz_p_17 rfl hl (by decide) rfl (fun ls hl => ?_)
  refine lv_bipush (v := 30) hx hb lz_p_18 rfl ?_
  refine lz_arr (R := mj_rm 112 18) (N := 30) hx hb hts hK hP hD hS hA (by decide) rfl (by decide) (Nat.le_of_ble_eq_true rfl) (Nat.le_of_ble_eq_true rfl) lz_p_20 (fun q3 H hP hD hS => ?_)
  refine lv_astore (lv' := [(4, .ref q3), (3, .ref q2), (2, .ref q1), (1, .ref (u 0)), (0, .ref b)]) hx hb lz_p_22 hl (by decide) rfl (fun ls hl => ?_)
  refine lv_bipush (v := 18) hx hb lz_p_24 rfl ?_
  refine lz_arr (R := mj_rm 112 18) (N := 18) hx hb hts hK hP hD hS hA (by decide) rfl (by decide) (Nat.le_of_ble_eq_true rfl) (Nat.le_of_ble_eq_true rfl) lz_p_26 (fun q4 H hP hD hS => ?_)
  refine lv_astore (lv' := [(5, .ref q4), (4, .ref q3), (3, .ref q2), (2, .ref q1), (1, .ref (u 0)), (0, .ref b)]) hx hb lz_p_28 hl (by decide) rfl (fun ls hl => ?_)
  refine lv_bipush (v := 12) hx hb lz_p_30 rfl ?_
  refine lz_arr (R := mj_rm 112 18) (N := 12) hx hb hts hK hP hD hS hA (by decide) rfl (by decide) (Nat.le_of_ble_eq_true rfl) (Nat.le_of_ble_eq_true rfl) lz_p_32 (fun q5 H hP hD hS => ?_)
  refine lv_astore (lv' := [(6, .ref q5), (5, .ref q4), (4, .ref q3), (3, .ref q2), (2, .ref q1), (1, .ref (u 0)), (0, .ref b)]) hx hb lz_p_34 hl (by decide) rfl (fun ls hl => ?_)
  simp only [cn_w_r] at hP hD
  obtain ⟨ad, had⟩ : ∃ ad : Nat → Nat, ad = fun i => ([u 0, u 1, u 2, u 3, u 4, u 5, u 6, u 7, u 8, u 9, u 10, u 11, u 12, u 13, u 14, u 15, u 16, u 17, u 18, u 19, u 20, u 21, u 22, u 23, u 24, u 25, u 26, u 27, u 28, u 29, u 30, u 31, u 32, u 33, u 34, u 35, u 36, u 37, u 38, u 39, u 40, u 41, u 42, u 43, u 44, u 45, u 46, u 47, u 48, u 49, u 50, u 51, u 52, u 53, u 54, u 55, u 56, u 57, u 58, u 59, u 60, u 61, u 62, u 63, u 64, u 65, u 66, u 67, u 68, u 69, u 70, u 71, u 72, u 73, u 74, u 75, u 76, u 77, u 78, u 79, u 80, q1, q2, q3, q4, q5] : List Nat).getD i b := ⟨_, rfl⟩
  have hP9 : va_P D mj_cl (mj_w cA ad (fun _ _ => 0) (mj_Sh 9)) H := by
    rw [cn_w_r, had]; exact hP
  have hD9 : va_D (fun q : Nat => s.heap.size ≤ q) (mj_w cA ad (fun _ _ => 0) (mj_Sh 9)) := by
    rw [cn_w_r, had]; exact hD
  have a0 : ad 0 = u 0 := by rw [had]; rfl
  have a81 : ad 81 = q1 := by rw [had]; rfl
  have a82 : ad 82 = q2 := by rw [had]; rfl
  have a83 : ad 83 = q3 := by rw [had]; rfl
  have a84 : ad 84 = q4 := by rw [had]; rfl
  have a85 : ad 85 = q5 := by rw [had]; rfl
  have a999 : ad 999 = b := by rw [had]; rfl
  clear had hP hD
  have hsub : ∀ q, mj_A ad (mj_Sh 9).length s.heap.size q → s.heap.size ≤ q := by
    intro q hq
    rcases hq with ⟨k, hk, e⟩ | hq
    · obtain ⟨d, hd⟩ : ∃ d, (mj_Sh 9)[k]? = some d := ⟨_, List.getElem?_eq_getElem hk⟩
      rw [e]
      exact hD9.2 k _ (mj_w_some hd)
    · exact hq
  have hS9 : va_S (mj_A ad (mj_Sh 9).length s.heap.size) s.heap H locs := ⟨hS.1, fun q h1 h2 => hS.2.1 q h1 (fun h => h2 (Or.inr h)), fun q hq => Or.inr (hS.2.2 q hq)⟩
  have hX9 : mj_X 9 ad (mj_A ad (mj_Sh 9).length s.heap.size) s s.heap := hX.kept (fun _ _ _ => rfl) (Nat.le_refl _) (fun q hq => hsub q hq) Or.inl id a999
  have C : mj_C 9 112 p l s m ([.ref b] : List Value).toArray meth c D cA ad := ⟨hx, hlt, hb, hml, hown, hts, B.returns, B.notSynchronized, htab, cn_inj hD9, hK, hX9⟩
  have hLL : mj_L ad ls (mj_n 112) [some (.ref 999), some (.ref 0), some (.ref 81), some (.ref 82), some (.ref 83), some (.ref 84), some (.ref 85), none, none, none, none, none, none, none] := by
    refine ⟨hl.1, rfl, hl.2.1, fun i v hv => ?_⟩
    match i, hv with
    | 0, hv => cases hv; exact ⟨rfl, by show ls[0]? = some (.val (.ref (ad 999))); rw [a999]; exact lv_at hl 6 rfl⟩
    | 1, hv => cases hv; exact ⟨rfl, by show ls[1]? = some (.val (.ref (ad 0))); rw [a0]; exact lv_at hl 5 rfl⟩
    | 2, hv => cases hv; exact ⟨rfl, by show ls[2]? = some (.val (.ref (ad 81))); rw [a81]; exact lv_at hl 4 rfl⟩
    | 3, hv => cases hv; exact ⟨rfl, by show ls[3]? = some (.val (.ref (ad 82))); rw [a82]; exact lv_at hl 3 rfl⟩
    | 4, hv => cases hv; exact ⟨rfl, by show ls[4]? = some (.val (.ref (ad 83))); rw [a83]; exact lv_at hl 2 rfl⟩
    | 5, hv => cases hv; exact ⟨rfl, by show ls[5]? = some (.val (.ref (ad 84))); rw [a84]; exact lv_at hl 1 rfl⟩
    | 6, hv => cases hv; exact ⟨rfl, by show ls[6]? = some (.val (.ref (ad 85))); rw [a85]; exact lv_at hl 0 rfl⟩
    | 7, hv => cases hv
    | 8, hv => cases hv
    | 9, hv => cases hv
    | 10, hv => cases hv
    | 11, hv => cases hv
    | 12, hv => cases hv
    | 13, hv => cases hv
    | n + 14, hv =>
      have h9 := (List.getElem?_eq_some_iff.mp hv).1
      have h8 : n + 14 < 14 := h9
      exact absurd h8 (by omega)
  have hW := mz_s36 (K := lz_K) (X := ls_Z) (cn := 86) (o7 := none) (o8 := none) (o9 := none) (o10 := none) (o11 := none) (o12 := none) (o13 := none) ls_G ls_CL (by decide) (fun _ => ⟨rfl, rfl⟩)
  rw [ls_mz] at hW
  refine lz_mono (W.widen (k := 86) (n := 64 * 86) (Nat.le_of_ble_eq_true rfl) (Nat.le_of_ble_eq_true rfl) (hW p l e s m _ below meth c D cA ad C H locs ls hLL hP9 hS9)) (fun t ht => lz_end hsub ht)
end LZH
