-- constructors (written by wip/p23/gen/mk59.py)
abbrev cn_y : List MethodName := [yX0_init, yX1_init, yX2_init, yX3_init, yX4_init, yX5_init, yX6_init]
def cn_nl : List (String × Nat × MethodName) := [(RX6, 9, yX3_init), (RX3, 11, yX2_init), (RX3, 20, yX0_init), (RX3, 27, yX1_init), (RX3, 34, yX4_init), (RX3, 41, yX5_init)]
/-- the links of the private constructors, which only the tables decide -/
def cn_N (U : State) : Prop := ∀ q ∈ cn_nl, va_Nw (.methodLinkNest q.1 q.2.1 q.2.2 "CrushLoad") U
theorem cn_N.warm {s U : State} (hW : s.WarmedH U.vm) (h : cn_N s) : cn_N U := fun q hq => va_Nw.warmM hW (h q hq)
theorem cn_arrInt : Cond.arrayClass .int ∈ mj_G := mj_inG (List.mem_of_getElem? (i := 103) (by decide +kernel)) rfl
theorem cn_arrBool : Cond.arrayClass .boolean ∈ mj_G := mj_inG (List.mem_of_getElem? (i := 104) (by decide +kernel)) rfl
theorem cn_arr {s : State} {args : Array Value} {ty : FieldType} (h : (Cond.arrayClass ty).before args s = true) (hty : ty = .int ∨ ty = .boolean) : ∃ cA, ArrOfT s cA ty ∧ va_RA s cA ty := by
  obtain ⟨cA, kA, comp, h1, h2, h3⟩ := Cond.arrayClass_spec h
  rcases hty with rfl | rfl
  · exact ⟨cA, fun n z => ⟨fun k h => (by cases h), kA, h2, comp, h3⟩, h1⟩
  · exact ⟨cA, fun n z => ⟨fun k h => (by cases h), kA, h2, comp, h3⟩, h1⟩
set_option maxHeartbeats 4000000 in
/-- this.f = new t[n], in a constructor -/
theorem cn_blk {p : Program} {l : Launch} {e : Env} {R : Room} {s : State} {m : MethodId} {args : Array Value} {below : List Frame} {meth : Method} {c : Code} {H H0 : Heap} {locs : List Loc} {cells slots : Nat} {Q : State → Prop} {D : va_G} {cA : Nat → ClassId} {A : Nat → Prop} {cc : ByteArray} {ls : Array Slot} {nl h0 ci t sl idx N pc pc1 : Nat} {v : Int32} {at_ : ArrayType} {ty : FieldType} {fs : List Value} {ar : va_W}
    (hx : p.tables.exec = Jvm.exec) (hb : c.code = cc) (hts : ∀ w ∈ mj_G, w.before args s = true) (hown : s.vm.findClass (mj_q ci).1 = some m.cls) (hin : meth.name = "<init>") (hK : va_K D mj_cl (mj_tys cA) s) (hP : va_P D mj_cl ((h0, .inr (ci, fs)) :: ar) H) (hD : va_D A ((h0, .inr (ci, fs)) :: ar)) (hS : va_S A H0 H locs) (hA : ∀ q, H0.size ≤ q → A q) (hl : lv_has ls nl [(0, .ref h0)])
    (hci : ci < 7) (hsl : sl < (mj_q ci).2.2) (hsl2 : sl < fs.length) (hF : (ci, idx, ci, sl) ∈ mj_FL) (hfin : ((mj_q ci).2.1 sl).2.2.2 = true) (hdecl : ((mj_q ci).2.1 sl).1 = (mj_q ci).1)
    (hty : (at_ = .int ∧ ty = .int ∧ t = 0) ∨ (at_ = .boolean ∧ ty = .boolean ∧ t = 1)) (hfld : mj_ty0 ci sl = .array ty) (hn : ¬ v < 0) (hN : v.toNatClampNeg = N) (hbytes : N ≤ 2000) (hcells : cells + 1 ≤ R.cells) (hslots : slots + N ≤ R.slots)
    (d0 : decode cc pc = .ok (.aload_n 0, 1)) (hpush : ∀ st, W p l e R s m args below meth c H locs cells slots Q (F0 m pc1 ls (.int v :: st)) → W p l e R s m args below meth c H locs cells slots Q (F0 m (pc + 1) ls st)) (d2 : decode cc pc1 = .ok (.newarray at_, 2)) (d3 : decode cc (pc1 + 2) = .ok (.putfield idx, 3))
    (kk : ∀ (q : Nat) (H1 : Heap) (locs1 : List Loc), va_P D mj_cl ((h0, .inr (ci, fs.set sl (.ref q))) :: (ar ++ [(q, .inl (cA t, N, .inl fun _ => 0))])) H1 → va_D A ((h0, .inr (ci, fs.set sl (.ref q))) :: (ar ++ [(q, .inl (cA t, N, .inl fun _ => 0))])) → va_S A H0 H1 locs1 → W p l e R s m args below meth c H1 locs1 (cells + 1) (slots + N) Q (F0 m (pc1 + 5) ls [])) : W p l e R s m args below meth c H locs cells slots Q (F0 m pc ls []) := by
  have hnw : newarray.typeOf at_ = ty := by rcases hty with ⟨rfl, rfl, rfl⟩ | ⟨rfl, rfl, rfl⟩ <;> rfl
  have harr : (Cond.arrayClass (newarray.typeOf at_)).before args s = true := by
    rcases hty with ⟨rfl, rfl, rfl⟩ | ⟨rfl, rfl, rfl⟩
    · exact hts _ cn_arrInt
    · exact hts _ cn_arrBool
  have hcell : ∀ cB : ClassId, vp_cell cB (N, .inl fun _ => 0) = arrV cB N (fun _ => defaultValue ty) := by
    rcases hty with ⟨rfl, rfl, rfl⟩ | ⟨rfl, rfl, rfl⟩ <;> exact fun _ => rfl
  have hby : N * componentBytes ty ≤ 536870912 := by
    rcases hty with ⟨rfl, rfl, rfl⟩ | ⟨rfl, rfl, rfl⟩
    · show N * 4 ≤ 536870912; omega
    · show N * 1 ≤ 536870912; omega
  have hva : ∀ (f : FieldType) (q : Nat), f = .array ty → narrow f (.ref q) = .ref q ∧ fits f (.ref q) = true := by
    rintro f q rfl
    exact ⟨rfl, rfl⟩
  refine lv_aload_n hx hb d0 rfl (lv_at hl 0 rfl) (hpush _ ?_)
  refine va_newa (atype := at_) (ty := ty) (a0 := (N, .inl fun _ => 0)) hx hb harr hnw hK hP hD hS hA hcell hn hN hby hcells hslots d2 (fun q cB H1 hK1 hP1 hD1 hS1 => ?_)
  have hcB : cB = cA t := by
    have e1 := (hK1.2 2 (cB, ty) rfl).2
    rcases hty with ⟨rfl, rfl, rfl⟩ | ⟨rfl, rfl, rfl⟩
    · have e2 := (hK.2 0 (cA 0, .int) rfl).2
      exact Option.some.inj (Eq.trans (Eq.symm e1) e2)
    · have e2 := (hK.2 1 (cA 1, .boolean) rfl).2
      exact Option.some.inj (Eq.trans (Eq.symm e1) e2)
  subst hcB
  refine va_putF (C := (mj_q ci).1) (T := (mj_q ci).2.1) (N := (mj_q ci).2.2) (ref := ((mj_q ci).2.1 sl).1) (own := (mj_q ci).1) hx hb hts (mj_inL hci) (mj_ty0 ci) (mj_tyok hci) (mj_nm hci) hown hK hP1 hD1 hS1 0 rfl (mj_cl_q hci) sl hsl (by have h1 := hts _ (mj_inF hF); rw [mj_R_q hci] at h1; exact h1) (fun _ h => h) hfin hin hdecl (ty := mj_ty0 ci sl) (mj_tyok hci sl hsl) (hva _ q hfld).1 (hva _ q hfld).2 hsl2 d3 (fun H2 locs2 hP2 hD2 hS2 => ?_)
  exact kk q H2 locs2 hP2 hD2 hS2
theorem cn_inj {A : Nat → Prop} {cA : Nat → ClassId} {ad : Nat → Nat} {M : mj_M} {Sh : List mj_D} (h : va_D A (mj_w cA ad M Sh)) : mj_inj ad Sh.length := by
  intro i j hi hj hij
  obtain ⟨d, hd⟩ : ∃ d, Sh[i]? = some d := ⟨_, List.getElem?_eq_getElem hi⟩
  obtain ⟨d', hd'⟩ : ∃ d, Sh[j]? = some d := ⟨_, List.getElem?_eq_getElem hj⟩
  exact h.1 i j _ _ (mj_w_some hd) (mj_w_some hd') hij
/-- an object's class, its default fields -/
abbrev cn_0 (h0 ci : Nat) (fs : List Value) : va_W := [(h0, .inr (ci, fs))]
def cn_Pc (D : va_G) (cA : Nat → ClassId) (h0 ci : Nat) (fs : List Value) (sz : Nat) : Array Value → State → Prop := va_Pc [.ref h0] (fun U => U.heap.size = sz ∧ va_P D mj_cl (cn_0 h0 ci fs) U.heap ∧ va_K D mj_cl (mj_tys cA) U ∧ va_D (fun _ => True) (cn_0 h0 ci fs) ∧ cn_N U)
def cn_at (D : va_G) (cA : Nat → ClassId) (A : Nat → Prop) (Sh : List mj_D) (ad : Nat → Nat) (t : State) : Prop := va_P D mj_cl (mj_w cA ad (fun _ _ => 0) Sh) t.heap ∧ va_D A (mj_w cA ad (fun _ _ => 0) Sh)
def cn_Qv (D : va_G) (cA : Nat → ClassId) (h0 ci : Nat) (fs : List Value) (sz : Nat) (Sh : List mj_D) : Array Value → State → Outcome → State → Prop := va_Qv (fun ad : Nat → Nat => ad 0 = h0) (cn_at D cA (va_A (cn_0 h0 ci fs) sz) Sh) (va_A (cn_0 h0 ci fs) sz)
def cn_ws (y : MethodName) (b : ByteArray) : List Cond := .code y b 1 none :: mj_G
def cn_Met (l : Launch) (y : MethodName) (b : ByteArray) (fr cs ss lo ci : Nat) (fs : List Value) (Sh : List mj_D) : Prop := ∀ (D : va_G) (cA : Nat → ClassId) (h0 sz : Nat), Met l y (cn_ws y b) { frames := fr, cells := cs, slots := ss, locals := lo } (cn_Pc D cA h0 ci fs sz) (cn_Qv D cA h0 ci fs sz Sh) cs ss (va_A (cn_0 h0 ci fs) sz)
theorem cn_objI : Cond.instanceMethod objectInit ∈ mj_G := mj_inG (List.mem_of_getElem? (i := 56) (by decide +kernel)) rfl
theorem cn_objC : Cond.code objectInit ⟨#[0xb1]⟩ 1 none ∈ mj_G := mj_inG (List.mem_of_getElem? (i := 57) (by decide +kernel)) rfl
theorem cn_good {y : MethodName} {b : ByteArray} (h : Cond.code y b 1 none ∈ mj_G) : GoodIn mj_G (cn_ws y b) := goodIn_sub (fun w hw => (List.mem_cons.mp hw).elim (fun e => e ▸ h) id) (List.all_eq_true.mpr fun w hw => (List.mem_cons.mp hw).elim (fun e => by rw [e]; rfl) (fun h => (List.mem_filter.mp h).2))

theorem cn_d2_0 : decode cX2_init 0 = .ok (.aload_n 0, 1) := by decide +kernel
theorem cn_d2_1 : decode cX2_init 1 = .ok (.invokespecial 3, 3) := by decide +kernel
theorem cn_d2_4 : decode cX2_init 4 = .ok (.aload_n 0, 1) := by decide +kernel
theorem cn_d2_5 : decode cX2_init 5 = .ok (.bipush 10, 2) := by decide +kernel
theorem cn_d2_7 : decode cX2_init 7 = .ok (.newarray .int, 2) := by decide +kernel
theorem cn_d2_9 : decode cX2_init 9 = .ok (.putfield 9, 3) := by decide +kernel
theorem cn_d2_12 : decode cX2_init 12 = .ok (.aload_n 0, 1) := by decide +kernel
theorem cn_d2_13 : decode cX2_init 13 = .ok (.bipush 10, 2) := by decide +kernel
theorem cn_d2_15 : decode cX2_init 15 = .ok (.newarray .int, 2) := by decide +kernel
theorem cn_d2_17 : decode cX2_init 17 = .ok (.putfield 15, 3) := by decide +kernel
theorem cn_d2_20 : decode cX2_init 20 = .ok (.aload_n 0, 1) := by decide +kernel
theorem cn_d2_21 : decode cX2_init 21 = .ok (.bipush 10, 2) := by decide +kernel
theorem cn_d2_23 : decode cX2_init 23 = .ok (.newarray .int, 2) := by decide +kernel
theorem cn_d2_25 : decode cX2_init 25 = .ok (.putfield 18, 3) := by decide +kernel
theorem cn_d2_28 : decode cX2_init 28 = .ok (.aload_n 0, 1) := by decide +kernel
theorem cn_d2_29 : decode cX2_init 29 = .ok (.bipush 10, 2) := by decide +kernel
theorem cn_d2_31 : decode cX2_init 31 = .ok (.newarray .int, 2) := by decide +kernel
theorem cn_d2_33 : decode cX2_init 33 = .ok (.putfield 21, 3) := by decide +kernel
theorem cn_d2_36 : decode cX2_init 36 = .ok (.aload_n 0, 1) := by decide +kernel
theorem cn_d2_37 : decode cX2_init 37 = .ok (.bipush 10, 2) := by decide +kernel
theorem cn_d2_39 : decode cX2_init 39 = .ok (.newarray .int, 2) := by decide +kernel
theorem cn_d2_41 : decode cX2_init 41 = .ok (.putfield 24, 3) := by decide +kernel
theorem cn_d2_44 : decode cX2_init 44 = .ok (.aload_n 0, 1) := by decide +kernel
theorem cn_d2_45 : decode cX2_init 45 = .ok (.bipush 10, 2) := by decide +kernel
theorem cn_d2_47 : decode cX2_init 47 = .ok (.newarray .boolean, 2) := by decide +kernel
theorem cn_d2_49 : decode cX2_init 49 = .ok (.putfield 27, 3) := by decide +kernel
theorem cn_d2_52 : decode cX2_init 52 = .ok (.return_, 1) := by decide +kernel
def cn_Sh2 : List mj_D := [.inl (2, [none, some 1, some 2, some 3, some 4, some 5, some 6]), .inr (0, 10), .inr (0, 10), .inr (0, 10), .inr (0, 10), .inr (0, 10), .inr (1, 10)]
def cn_f2 : List Value := [.int 0, .null, .null, .null, .null, .null, .null]
theorem cn_c2 : Cond.code yX2_init cX2_init 1 none ∈ mj_G := mj_inG (List.mem_of_getElem? (i := 68) (by decide +kernel)) rfl
theorem cn_o2 : Cond.methodLink RX2 3 objectInit ∈ mj_G := mj_inG (List.mem_of_getElem? (i := 69) (by decide +kernel)) rfl
set_option maxHeartbeats 4000000 in
set_option maxRecDepth 100000 in
theorem cn_m2 (l : Launch) : cn_Met l yX2_init cX2_init 1 6 60 12 2 cn_f2 cn_Sh2 := by
  intro D cA h0 sz
  refine Met.ofW (cc := cX2_init) (maxL := 1) (ret := none) (by decide) rfl ?_
  intro p e s m args below meth c s₁ B hml hv
  obtain ⟨rfl, hsz, hP, hK, hD0, hN⟩ := hv
  have hx := B.exec
  have hb := B.bytes
  have hr := B.returns
  have hts0 := atoms_spec (ws := cn_ws yX2_init cX2_init) B.pre
  have hts : ∀ w ∈ mj_G, w.before _ s = true := fun w hw => hts0 w (List.mem_cons_of_mem _ hw)
  have hown : s.vm.findClass (mj_q 2).1 = some m.cls := findClass_of_methodNamed B.named
  have hlocks := B.notSynchronized
  have hin : meth.name = "<init>" := (name_of_methodNamed B.named B.method).1
  subst hsz
  have hD := hD0.self (sz := s.heap.size)
  unfold cn_Qv
  generalize hAe : va_A (cn_0 h0 2 cn_f2) s.heap.size = A at hD ⊢
  have hA : ∀ q : Nat, s.heap.size ≤ q → A q := fun q h => by rw [← hAe]; exact Or.inr h
  have hS : va_S A s.heap s.heap [] := va_S.rf
  have hl := lv_entry ([.ref h0]) (n := 1) (Nat.le_of_ble_eq_true rfl)
  rw [lg_entry_eq]
  generalize (lg_sl ([.ref h0]) ++ List.replicate (1 - (lg_sl ([.ref h0])).length) Slot.unset).toArray = ls at hl ⊢
  have hl : lv_has ls 1 [(0, .ref h0)] := hl
  refine lv_aload_n hx hb cn_d2_0 rfl (lv_at hl 0 rfl) ?_
  refine W.objInit hx hb hown (hts _ cn_o2) (hts _ cn_objI) (hts _ cn_objC) rfl (by rw [hml]; exact hl.1) rfl cn_d2_1 (Nat.le_of_ble_eq_true rfl) (Nat.le_of_ble_eq_true rfl) ?_
  refine W.eq (g2 := F0 m 4 ls []) rfl ?_
  refine cn_blk (ci := 2) (sl := 1) (idx := 9) (N := 10) (v := 10) (at_ := .int) (ty := .int) (t := 0) (pc1 := 7) hx hb hts hown hin hK hP hD hS hA hl (by decide) (by decide) (Nat.le_of_ble_eq_true rfl) (by decide +kernel) rfl rfl (Or.inl ⟨rfl, rfl, rfl⟩) rfl (by decide) rfl (Nat.le_of_ble_eq_true rfl) (Nat.le_of_ble_eq_true rfl) (Nat.le_of_ble_eq_true rfl) cn_d2_4 (fun st h => lv_bipush hx hb cn_d2_5 rfl h) cn_d2_7 cn_d2_9 (fun q1 H locs hP hD hS => ?_)
  refine cn_blk (ci := 2) (sl := 2) (idx := 15) (N := 10) (v := 10) (at_ := .int) (ty := .int) (t := 0) (pc1 := 15) hx hb hts hown hin hK hP hD hS hA hl (by decide) (by decide) (Nat.le_of_ble_eq_true rfl) (by decide +kernel) rfl rfl (Or.inl ⟨rfl, rfl, rfl⟩) rfl (by decide) rfl (Nat.le_of_ble_eq_true rfl) (Nat.le_of_ble_eq_true rfl) (Nat.le_of_ble_eq_true rfl) cn_d2_12 (fun st h => lv_bipush hx hb cn_d2_13 rfl h) cn_d2_15 cn_d2_17 (fun q2 H locs hP hD hS => ?_)
  refine cn_blk (ci := 2) (sl := 3) (idx := 18) (N := 10) (v := 10) (at_ := .int) (ty := .int) (t := 0) (pc1 := 23) hx hb hts hown hin hK hP hD hS hA hl (by decide) (by decide) (Nat.le_of_ble_eq_true rfl) (by decide +kernel) rfl rfl (Or.inl ⟨rfl, rfl, rfl⟩) rfl (by decide) rfl (Nat.le_of_ble_eq_true rfl) (Nat.le_of_ble_eq_true rfl) (Nat.le_of_ble_eq_true rfl) cn_d2_20 (fun st h => lv_bipush hx hb cn_d2_21 rfl h) cn_d2_23 cn_d2_25 (fun q3 H locs hP hD hS => ?_)
  refine cn_blk (ci := 2) (sl := 4) (idx := 21) (N := 10) (v := 10) (at_ := .int) (ty := .int) (t := 0) (pc1 := 31) hx hb hts hown hin hK hP hD hS hA hl (by decide) (by decide) (Nat.le_of_ble_eq_true rfl) (by decide +kernel) rfl rfl (Or.inl ⟨rfl, rfl, rfl⟩) rfl (by decide) rfl (Nat.le_of_ble_eq_true rfl) (Nat.le_of_ble_eq_true rfl) (Nat.le_of_ble_eq_true rfl) cn_d2_28 (fun st h => lv_bipush hx hb cn_d2_29 rfl h) cn_d2_31 cn_d2_33 (fun q4 H locs hP hD hS => ?_)
  refine cn_blk (ci := 2) (sl := 5) (idx := 24) (N := 10) (v := 10) (at_ := .int) (ty := .int) (t := 0) (pc1 := 39) hx hb hts hown hin hK hP hD hS hA hl (by decide) (by decide) (Nat.le_of_ble_eq_true rfl) (by decide +kernel) rfl rfl (Or.inl ⟨rfl, rfl, rfl⟩) rfl (by decide) rfl (Nat.le_of_ble_eq_true rfl) (Nat.le_of_ble_eq_true rfl) (Nat.le_of_ble_eq_true rfl) cn_d2_36 (fun st h => lv_bipush hx hb cn_d2_37 rfl h) cn_d2_39 cn_d2_41 (fun q5 H locs hP hD hS => ?_)
  refine cn_blk (ci := 2) (sl := 6) (idx := 27) (N := 10) (v := 10) (at_ := .boolean) (ty := .boolean) (t := 1) (pc1 := 47) hx hb hts hown hin hK hP hD hS hA hl (by decide) (by decide) (Nat.le_of_ble_eq_true rfl) (by decide +kernel) rfl rfl (Or.inr ⟨rfl, rfl, rfl⟩) rfl (by decide) rfl (Nat.le_of_ble_eq_true rfl) (Nat.le_of_ble_eq_true rfl) (Nat.le_of_ble_eq_true rfl) cn_d2_44 (fun st h => lv_bipush hx hb cn_d2_45 rfl h) cn_d2_47 cn_d2_49 (fun q6 H locs hP hD hS => ?_)
  exact W.vret hx hb hr (fun t ht hW => ⟨⟨fun i => ([h0, q1, q2, q3, q4, q5, q6] : List Nat).getD i 0, rfl, rfl, by rw [ht]; exact hP, hD⟩, hS.F ht⟩) hS.2.2 cn_d2_52
theorem cn_d0_0 : decode cX0_init 0 = .ok (.aload_n 0, 1) := by decide +kernel
theorem cn_d0_1 : decode cX0_init 1 = .ok (.invokespecial 3, 3) := by decide +kernel
theorem cn_d0_4 : decode cX0_init 4 = .ok (.aload_n 0, 1) := by decide +kernel
theorem cn_d0_5 : decode cX0_init 5 = .ok (.bipush 14, 2) := by decide +kernel
theorem cn_d0_7 : decode cX0_init 7 = .ok (.newarray .int, 2) := by decide +kernel
theorem cn_d0_9 : decode cX0_init 9 = .ok (.putfield 9, 3) := by decide +kernel
theorem cn_d0_12 : decode cX0_init 12 = .ok (.aload_n 0, 1) := by decide +kernel
theorem cn_d0_13 : decode cX0_init 13 = .ok (.bipush 14, 2) := by decide +kernel
theorem cn_d0_15 : decode cX0_init 15 = .ok (.newarray .int, 2) := by decide +kernel
theorem cn_d0_17 : decode cX0_init 17 = .ok (.putfield 15, 3) := by decide +kernel
theorem cn_d0_20 : decode cX0_init 20 = .ok (.aload_n 0, 1) := by decide +kernel
theorem cn_d0_21 : decode cX0_init 21 = .ok (.bipush 14, 2) := by decide +kernel
theorem cn_d0_23 : decode cX0_init 23 = .ok (.newarray .int, 2) := by decide +kernel
theorem cn_d0_25 : decode cX0_init 25 = .ok (.putfield 18, 3) := by decide +kernel
theorem cn_d0_28 : decode cX0_init 28 = .ok (.aload_n 0, 1) := by decide +kernel
theorem cn_d0_29 : decode cX0_init 29 = .ok (.bipush 14, 2) := by decide +kernel
theorem cn_d0_31 : decode cX0_init 31 = .ok (.newarray .int, 2) := by decide +kernel
theorem cn_d0_33 : decode cX0_init 33 = .ok (.putfield 21, 3) := by decide +kernel
theorem cn_d0_36 : decode cX0_init 36 = .ok (.aload_n 0, 1) := by decide +kernel
theorem cn_d0_37 : decode cX0_init 37 = .ok (.bipush 14, 2) := by decide +kernel
theorem cn_d0_39 : decode cX0_init 39 = .ok (.newarray .int, 2) := by decide +kernel
theorem cn_d0_41 : decode cX0_init 41 = .ok (.putfield 24, 3) := by decide +kernel
theorem cn_d0_44 : decode cX0_init 44 = .ok (.aload_n 0, 1) := by decide +kernel
theorem cn_d0_45 : decode cX0_init 45 = .ok (.bipush 14, 2) := by decide +kernel
theorem cn_d0_47 : decode cX0_init 47 = .ok (.newarray .int, 2) := by decide +kernel
theorem cn_d0_49 : decode cX0_init 49 = .ok (.putfield 27, 3) := by decide +kernel
theorem cn_d0_52 : decode cX0_init 52 = .ok (.aload_n 0, 1) := by decide +kernel
theorem cn_d0_53 : decode cX0_init 53 = .ok (.bipush 14, 2) := by decide +kernel
theorem cn_d0_55 : decode cX0_init 55 = .ok (.newarray .int, 2) := by decide +kernel
theorem cn_d0_57 : decode cX0_init 57 = .ok (.putfield 30, 3) := by decide +kernel
theorem cn_d0_60 : decode cX0_init 60 = .ok (.aload_n 0, 1) := by decide +kernel
theorem cn_d0_61 : decode cX0_init 61 = .ok (.bipush 14, 2) := by decide +kernel
theorem cn_d0_63 : decode cX0_init 63 = .ok (.newarray .boolean, 2) := by decide +kernel
theorem cn_d0_65 : decode cX0_init 65 = .ok (.putfield 33, 3) := by decide +kernel
theorem cn_d0_68 : decode cX0_init 68 = .ok (.aload_n 0, 1) := by decide +kernel
theorem cn_d0_69 : decode cX0_init 69 = .ok (.bipush 14, 2) := by decide +kernel
theorem cn_d0_71 : decode cX0_init 71 = .ok (.newarray .boolean, 2) := by decide +kernel
theorem cn_d0_73 : decode cX0_init 73 = .ok (.putfield 37, 3) := by decide +kernel
theorem cn_d0_76 : decode cX0_init 76 = .ok (.aload_n 0, 1) := by decide +kernel
theorem cn_d0_77 : decode cX0_init 77 = .ok (.bipush 14, 2) := by decide +kernel
theorem cn_d0_79 : decode cX0_init 79 = .ok (.newarray .boolean, 2) := by decide +kernel
theorem cn_d0_81 : decode cX0_init 81 = .ok (.putfield 40, 3) := by decide +kernel
theorem cn_d0_84 : decode cX0_init 84 = .ok (.aload_n 0, 1) := by decide +kernel
theorem cn_d0_85 : decode cX0_init 85 = .ok (.bipush 14, 2) := by decide +kernel
theorem cn_d0_87 : decode cX0_init 87 = .ok (.newarray .boolean, 2) := by decide +kernel
theorem cn_d0_89 : decode cX0_init 89 = .ok (.putfield 43, 3) := by decide +kernel
theorem cn_d0_92 : decode cX0_init 92 = .ok (.return_, 1) := by decide +kernel
def cn_Sh0 : List mj_D := [.inl (0, [none, none, some 1, some 2, some 3, some 4, some 5, some 6, some 7, some 8, some 9, some 10, some 11]), .inr (0, 14), .inr (0, 14), .inr (0, 14), .inr (0, 14), .inr (0, 14), .inr (0, 14), .inr (0, 14), .inr (1, 14), .inr (1, 14), .inr (1, 14), .inr (1, 14)]
def cn_f0 : List Value := [.int 0, .int 0, .null, .null, .null, .null, .null, .null, .null, .null, .null, .null, .null]
theorem cn_c0 : Cond.code yX0_init cX0_init 1 none ∈ mj_G := mj_inG (List.mem_of_getElem? (i := 109) (by decide +kernel)) rfl
theorem cn_o0 : Cond.methodLink RX0 3 objectInit ∈ mj_G := mj_inG (List.mem_of_getElem? (i := 110) (by decide +kernel)) rfl
set_option maxHeartbeats 4000000 in
set_option maxRecDepth 100000 in
theorem cn_m0 (l : Launch) : cn_Met l yX0_init cX0_init 1 11 154 12 0 cn_f0 cn_Sh0 := by
  intro D cA h0 sz
  refine Met.ofW (cc := cX0_init) (maxL := 1) (ret := none) (by decide) rfl ?_
  intro p e s m args below meth c s₁ B hml hv
  obtain ⟨rfl, hsz, hP, hK, hD0, hN⟩ := hv
  have hx := B.exec
  have hb := B.bytes
  have hr := B.returns
  have hts0 := atoms_spec (ws := cn_ws yX0_init cX0_init) B.pre
  have hts : ∀ w ∈ mj_G, w.before _ s = true := fun w hw => hts0 w (List.mem_cons_of_mem _ hw)
  have hown : s.vm.findClass (mj_q 0).1 = some m.cls := findClass_of_methodNamed B.named
  have hlocks := B.notSynchronized
  have hin : meth.name = "<init>" := (name_of_methodNamed B.named B.method).1
  subst hsz
  have hD := hD0.self (sz := s.heap.size)
  unfold cn_Qv
  generalize hAe : va_A (cn_0 h0 0 cn_f0) s.heap.size = A at hD ⊢
  have hA : ∀ q : Nat, s.heap.size ≤ q → A q := fun q h => by rw [← hAe]; exact Or.inr h
  have hS : va_S A s.heap s.heap [] := va_S.rf
  have hl := lv_entry ([.ref h0]) (n := 1) (Nat.le_of_ble_eq_true rfl)
  rw [lg_entry_eq]
  generalize (lg_sl ([.ref h0]) ++ List.replicate (1 - (lg_sl ([.ref h0])).length) Slot.unset).toArray = ls at hl ⊢
  have hl : lv_has ls 1 [(0, .ref h0)] := hl
  refine lv_aload_n hx hb cn_d0_0 rfl (lv_at hl 0 rfl) ?_
  refine W.objInit hx hb hown (hts _ cn_o0) (hts _ cn_objI) (hts _ cn_objC) rfl (by rw [hml]; exact hl.1) rfl cn_d0_1 (Nat.le_of_ble_eq_true rfl) (Nat.le_of_ble_eq_true rfl) ?_
  refine W.eq (g2 := F0 m 4 ls []) rfl ?_
  refine cn_blk (ci := 0) (sl := 2) (idx := 9) (N := 14) (v := 14) (at_ := .int) (ty := .int) (t := 0) (pc1 := 7) hx hb hts hown hin hK hP hD hS hA hl (by decide) (by decide) (Nat.le_of_ble_eq_true rfl) (by decide +kernel) rfl rfl (Or.inl ⟨rfl, rfl, rfl⟩) rfl (by decide) rfl (Nat.le_of_ble_eq_true rfl) (Nat.le_of_ble_eq_true rfl) (Nat.le_of_ble_eq_true rfl) cn_d0_4 (fun st h => lv_bipush hx hb cn_d0_5 rfl h) cn_d0_7 cn_d0_9 (fun q1 H locs hP hD hS => ?_)
  refine cn_blk (ci := 0) (sl := 3) (idx := 15) (N := 14) (v := 14) (at_ := .int) (ty := .int) (t := 0) (pc1 := 15) hx hb hts hown hin hK hP hD hS hA hl (by decide) (by decide) (Nat.le_of_ble_eq_true rfl) (by decide +kernel) rfl rfl (Or.inl ⟨rfl, rfl, rfl⟩) rfl (by decide) rfl (Nat.le_of_ble_eq_true rfl) (Nat.le_of_ble_eq_true rfl) (Nat.le_of_ble_eq_true rfl) cn_d0_12 (fun st h => lv_bipush hx hb cn_d0_13 rfl h) cn_d0_15 cn_d0_17 (fun q2 H locs hP hD hS => ?_)
  refine cn_blk (ci := 0) (sl := 4) (idx := 18) (N := 14) (v := 14) (at_ := .int) (ty := .int) (t := 0) (pc1 := 23) hx hb hts hown hin hK hP hD hS hA hl (by decide) (by decide) (Nat.le_of_ble_eq_true rfl) (by decide +kernel) rfl rfl (Or.inl ⟨rfl, rfl, rfl⟩) rfl (by decide) rfl (Nat.le_of_ble_eq_true rfl) (Nat.le_of_ble_eq_true rfl) (Nat.le_of_ble_eq_true rfl) cn_d0_20 (fun st h => lv_bipush hx hb cn_d0_21 rfl h) cn_d0_23 cn_d0_25 (fun q3 H locs hP hD hS => ?_)
  refine cn_blk (ci := 0) (sl := 5) (idx := 21) (N := 14) (v := 14) (at_ := .int) (ty := .int) (t := 0) (pc1 := 31) hx hb hts hown hin hK hP hD hS hA hl (by decide) (by decide) (Nat.le_of_ble_eq_true rfl) (by decide +kernel) rfl rfl (Or.inl ⟨rfl, rfl, rfl⟩) rfl (by decide) rfl (Nat.le_of_ble_eq_true rfl) (Nat.le_of_ble_eq_true rfl) (Nat.le_of_ble_eq_true rfl) cn_d0_28 (fun st h => lv_bipush hx hb cn_d0_29 rfl h) cn_d0_31 cn_d0_33 (fun q4 H locs hP hD hS => ?_)
  refine cn_blk (ci := 0) (sl := 6) (idx := 24) (N := 14) (v := 14) (at_ := .int) (ty := .int) (t := 0) (pc1 := 39) hx hb hts hown hin hK hP hD hS hA hl (by decide) (by decide) (Nat.le_of_ble_eq_true rfl) (by decide +kernel) rfl rfl (Or.inl ⟨rfl, rfl, rfl⟩) rfl (by decide) rfl (Nat.le_of_ble_eq_true rfl) (Nat.le_of_ble_eq_true rfl) (Nat.le_of_ble_eq_true rfl) cn_d0_36 (fun st h => lv_bipush hx hb cn_d0_37 rfl h) cn_d0_39 cn_d0_41 (fun q5 H locs hP hD hS => ?_)
  refine cn_blk (ci := 0) (sl := 7) (idx := 27) (N := 14) (v := 14) (at_ := .int) (ty := .int) (t := 0) (pc1 := 47) hx hb hts hown hin hK hP hD hS hA hl (by decide) (by decide) (Nat.le_of_ble_eq_true rfl) (by decide +kernel) rfl rfl (Or.inl ⟨rfl, rfl, rfl⟩) rfl (by decide) rfl (Nat.le_of_ble_eq_true rfl) (Nat.le_of_ble_eq_true rfl) (Nat.le_of_ble_eq_true rfl) cn_d0_44 (fun st h => lv_bipush hx hb cn_d0_45 rfl h) cn_d0_47 cn_d0_49 (fun q6 H locs hP hD hS => ?_)
  refine cn_blk (ci := 0) (sl := 8) (idx := 30) (N := 14) (v := 14) (at_ := .int) (ty := .int) (t := 0) (pc1 := 55) hx hb hts hown hin hK hP hD hS hA hl (by decide) (by decide) (Nat.le_of_ble_eq_true rfl) (by decide +kernel) rfl rfl (Or.inl ⟨rfl, rfl, rfl⟩) rfl (by decide) rfl (Nat.le_of_ble_eq_true rfl) (Nat.le_of_ble_eq_true rfl) (Nat.le_of_ble_eq_true rfl) cn_d0_52 (fun st h => lv_bipush hx hb cn_d0_53 rfl h) cn_d0_55 cn_d0_57 (fun q7 H locs hP hD hS => ?_)
  refine cn_blk (ci := 0) (sl := 9) (idx := 33) (N := 14) (v := 14) (at_ := .boolean) (ty := .boolean) (t := 1) (pc1 := 63) hx hb hts hown hin hK hP hD hS hA hl (by decide) (by decide) (Nat.le_of_ble_eq_true rfl) (by decide +kernel) rfl rfl (Or.inr ⟨rfl, rfl, rfl⟩) rfl (by decide) rfl (Nat.le_of_ble_eq_true rfl) (Nat.le_of_ble_eq_true rfl) (Nat.le_of_ble_eq_true rfl) cn_d0_60 (fun st h => lv_bipush hx hb cn_d0_61 rfl h) cn_d0_63 cn_d0_65 (fun q8 H locs hP hD hS => ?_)
  refine cn_blk (ci := 0) (sl := 10) (idx := 37) (N := 14) (v := 14) (at_ := .boolean) (ty := .boolean) (t := 1) (pc1 := 71) hx hb hts hown hin hK hP hD hS hA hl (by decide) (by decide) (Nat.le_of_ble_eq_true rfl) (by decide +kernel) rfl rfl (Or.inr ⟨rfl, rfl, rfl⟩) rfl (by decide) rfl (Nat.le_of_ble_eq_true rfl) (Nat.le_of_ble_eq_true rfl) (Nat.le_of_ble_eq_true rfl) cn_d0_68 (fun st h => lv_bipush hx hb cn_d0_69 rfl h) cn_d0_71 cn_d0_73 (fun q9 H locs hP hD hS => ?_)
  refine cn_blk (ci := 0) (sl := 11) (idx := 40) (N := 14) (v := 14) (at_ := .boolean) (ty := .boolean) (t := 1) (pc1 := 79) hx hb hts hown hin hK hP hD hS hA hl (by decide) (by decide) (Nat.le_of_ble_eq_true rfl) (by decide +kernel) rfl rfl (Or.inr ⟨rfl, rfl, rfl⟩) rfl (by decide) rfl (Nat.le_of_ble_eq_true rfl) (Nat.le_of_ble_eq_true rfl) (Nat.le_of_ble_eq_true rfl) cn_d0_76 (fun st h => lv_bipush hx hb cn_d0_77 rfl h) cn_d0_79 cn_d0_81 (fun q10 H locs hP hD hS => ?_)
  refine cn_blk (ci := 0) (sl := 12) (idx := 43) (N := 14) (v := 14) (at_ := .boolean) (ty := .boolean) (t := 1) (pc1 := 87) hx hb hts hown hin hK hP hD hS hA hl (by decide) (by decide) (Nat.le_of_ble_eq_true rfl) (by decide +kernel) rfl rfl (Or.inr ⟨rfl, rfl, rfl⟩) rfl (by decide) rfl (Nat.le_of_ble_eq_true rfl) (Nat.le_of_ble_eq_true rfl) (Nat.le_of_ble_eq_true rfl) cn_d0_84 (fun st h => lv_bipush hx hb cn_d0_85 rfl h) cn_d0_87 cn_d0_89 (fun q11 H locs hP hD hS => ?_)
  exact W.vret hx hb hr (fun t ht hW => ⟨⟨fun i => ([h0, q1, q2, q3, q4, q5, q6, q7, q8, q9, q10, q11] : List Nat).getD i 0, rfl, rfl, by rw [ht]; exact hP, hD⟩, hS.F ht⟩) hS.2.2 cn_d0_92
theorem cn_d1_0 : decode cX1_init 0 = .ok (.aload_n 0, 1) := by decide +kernel
theorem cn_d1_1 : decode cX1_init 1 = .ok (.invokespecial 3, 3) := by decide +kernel
theorem cn_d1_4 : decode cX1_init 4 = .ok (.aload_n 0, 1) := by decide +kernel
theorem cn_d1_5 : decode cX1_init 5 = .ok (.bipush 120, 2) := by decide +kernel
theorem cn_d1_7 : decode cX1_init 7 = .ok (.newarray .int, 2) := by decide +kernel
theorem cn_d1_9 : decode cX1_init 9 = .ok (.putfield 9, 3) := by decide +kernel
theorem cn_d1_12 : decode cX1_init 12 = .ok (.aload_n 0, 1) := by decide +kernel
theorem cn_d1_13 : decode cX1_init 13 = .ok (.bipush 120, 2) := by decide +kernel
theorem cn_d1_15 : decode cX1_init 15 = .ok (.newarray .int, 2) := by decide +kernel
theorem cn_d1_17 : decode cX1_init 17 = .ok (.putfield 15, 3) := by decide +kernel
theorem cn_d1_20 : decode cX1_init 20 = .ok (.aload_n 0, 1) := by decide +kernel
theorem cn_d1_21 : decode cX1_init 21 = .ok (.bipush 120, 2) := by decide +kernel
theorem cn_d1_23 : decode cX1_init 23 = .ok (.newarray .int, 2) := by decide +kernel
theorem cn_d1_25 : decode cX1_init 25 = .ok (.putfield 18, 3) := by decide +kernel
theorem cn_d1_28 : decode cX1_init 28 = .ok (.aload_n 0, 1) := by decide +kernel
theorem cn_d1_29 : decode cX1_init 29 = .ok (.bipush 120, 2) := by decide +kernel
theorem cn_d1_31 : decode cX1_init 31 = .ok (.newarray .int, 2) := by decide +kernel
theorem cn_d1_33 : decode cX1_init 33 = .ok (.putfield 21, 3) := by decide +kernel
theorem cn_d1_36 : decode cX1_init 36 = .ok (.aload_n 0, 1) := by decide +kernel
theorem cn_d1_37 : decode cX1_init 37 = .ok (.bipush 120, 2) := by decide +kernel
theorem cn_d1_39 : decode cX1_init 39 = .ok (.newarray .int, 2) := by decide +kernel
theorem cn_d1_41 : decode cX1_init 41 = .ok (.putfield 24, 3) := by decide +kernel
theorem cn_d1_44 : decode cX1_init 44 = .ok (.aload_n 0, 1) := by decide +kernel
theorem cn_d1_45 : decode cX1_init 45 = .ok (.bipush 120, 2) := by decide +kernel
theorem cn_d1_47 : decode cX1_init 47 = .ok (.newarray .int, 2) := by decide +kernel
theorem cn_d1_49 : decode cX1_init 49 = .ok (.putfield 27, 3) := by decide +kernel
theorem cn_d1_52 : decode cX1_init 52 = .ok (.aload_n 0, 1) := by decide +kernel
theorem cn_d1_53 : decode cX1_init 53 = .ok (.bipush 120, 2) := by decide +kernel
theorem cn_d1_55 : decode cX1_init 55 = .ok (.newarray .boolean, 2) := by decide +kernel
theorem cn_d1_57 : decode cX1_init 57 = .ok (.putfield 30, 3) := by decide +kernel
theorem cn_d1_60 : decode cX1_init 60 = .ok (.return_, 1) := by decide +kernel
def cn_Sh1 : List mj_D := [.inl (1, [none, some 1, some 2, some 3, some 4, some 5, some 6, some 7]), .inr (0, 120), .inr (0, 120), .inr (0, 120), .inr (0, 120), .inr (0, 120), .inr (0, 120), .inr (1, 120)]
def cn_f1 : List Value := [.int 0, .null, .null, .null, .null, .null, .null, .null]
theorem cn_c1 : Cond.code yX1_init cX1_init 1 none ∈ mj_G := mj_inG (List.mem_of_getElem? (i := 176) (by decide +kernel)) rfl
theorem cn_o1 : Cond.methodLink RX1 3 objectInit ∈ mj_G := mj_inG (List.mem_of_getElem? (i := 177) (by decide +kernel)) rfl
set_option maxHeartbeats 4000000 in
set_option maxRecDepth 100000 in
theorem cn_m1 (l : Launch) : cn_Met l yX1_init cX1_init 1 7 840 12 1 cn_f1 cn_Sh1 := by
  intro D cA h0 sz
  refine Met.ofW (cc := cX1_init) (maxL := 1) (ret := none) (by decide) rfl ?_
  intro p e s m args below meth c s₁ B hml hv
  obtain ⟨rfl, hsz, hP, hK, hD0, hN⟩ := hv
  have hx := B.exec
  have hb := B.bytes
  have hr := B.returns
  have hts0 := atoms_spec (ws := cn_ws yX1_init cX1_init) B.pre
  have hts : ∀ w ∈ mj_G, w.before _ s = true := fun w hw => hts0 w (List.mem_cons_of_mem _ hw)
  have hown : s.vm.findClass (mj_q 1).1 = some m.cls := findClass_of_methodNamed B.named
  have hlocks := B.notSynchronized
  have hin : meth.name = "<init>" := (name_of_methodNamed B.named B.method).1
  subst hsz
  have hD := hD0.self (sz := s.heap.size)
  unfold cn_Qv
  generalize hAe : va_A (cn_0 h0 1 cn_f1) s.heap.size = A at hD ⊢
  have hA : ∀ q : Nat, s.heap.size ≤ q → A q := fun q h => by rw [← hAe]; exact Or.inr h
  have hS : va_S A s.heap s.heap [] := va_S.rf
  have hl := lv_entry ([.ref h0]) (n := 1) (Nat.le_of_ble_eq_true rfl)
  rw [lg_entry_eq]
  generalize (lg_sl ([.ref h0]) ++ List.replicate (1 - (lg_sl ([.ref h0])).length) Slot.unset).toArray = ls at hl ⊢
  have hl : lv_has ls 1 [(0, .ref h0)] := hl
  refine lv_aload_n hx hb cn_d1_0 rfl (lv_at hl 0 rfl) ?_
  refine W.objInit hx hb hown (hts _ cn_o1) (hts _ cn_objI) (hts _ cn_objC) rfl (by rw [hml]; exact hl.1) rfl cn_d1_1 (Nat.le_of_ble_eq_true rfl) (Nat.le_of_ble_eq_true rfl) ?_
  refine W.eq (g2 := F0 m 4 ls []) rfl ?_
  refine cn_blk (ci := 1) (sl := 1) (idx := 9) (N := 120) (v := 120) (at_ := .int) (ty := .int) (t := 0) (pc1 := 7) hx hb hts hown hin hK hP hD hS hA hl (by decide) (by decide) (Nat.le_of_ble_eq_true rfl) (by decide +kernel) rfl rfl (Or.inl ⟨rfl, rfl, rfl⟩) rfl (by decide) rfl (Nat.le_of_ble_eq_true rfl) (Nat.le_of_ble_eq_true rfl) (Nat.le_of_ble_eq_true rfl) cn_d1_4 (fun st h => lv_bipush hx hb cn_d1_5 rfl h) cn_d1_7 cn_d1_9 (fun q1 H locs hP hD hS => ?_)
  refine cn_blk (ci := 1) (sl := 2) (idx := 15) (N := 120) (v := 120) (at_ := .int) (ty := .int) (t := 0) (pc1 := 15) hx hb hts hown hin hK hP hD hS hA hl (by decide) (by decide) (Nat.le_of_ble_eq_true rfl) (by decide +kernel) rfl rfl (Or.inl ⟨rfl, rfl, rfl⟩) rfl (by decide) rfl (Nat.le_of_ble_eq_true rfl) (Nat.le_of_ble_eq_true rfl) (Nat.le_of_ble_eq_true rfl) cn_d1_12 (fun st h => lv_bipush hx hb cn_d1_13 rfl h) cn_d1_15 cn_d1_17 (fun q2 H locs hP hD hS => ?_)
  refine cn_blk (ci := 1) (sl := 3) (idx := 18) (N := 120) (v := 120) (at_ := .int) (ty := .int) (t := 0) (pc1 := 23) hx hb hts hown hin hK hP hD hS hA hl (by decide) (by decide) (Nat.le_of_ble_eq_true rfl) (by decide +kernel) rfl rfl (Or.inl ⟨rfl, rfl, rfl⟩) rfl (by decide) rfl (Nat.le_of_ble_eq_true rfl) (Nat.le_of_ble_eq_true rfl) (Nat.le_of_ble_eq_true rfl) cn_d1_20 (fun st h => lv_bipush hx hb cn_d1_21 rfl h) cn_d1_23 cn_d1_25 (fun q3 H locs hP hD hS => ?_)
  refine cn_blk (ci := 1) (sl := 4) (idx := 21) (N := 120) (v := 120) (at_ := .int) (ty := .int) (t := 0) (pc1 := 31) hx hb hts hown hin hK hP hD hS hA hl (by decide) (by decide) (Nat.le_of_ble_eq_true rfl) (by decide +kernel) rfl rfl (Or.inl ⟨rfl, rfl, rfl⟩) rfl (by decide) rfl (Nat.le_of_ble_eq_true rfl) (Nat.le_of_ble_eq_true rfl) (Nat.le_of_ble_eq_true rfl) cn_d1_28 (fun st h => lv_bipush hx hb cn_d1_29 rfl h) cn_d1_31 cn_d1_33 (fun q4 H locs hP hD hS => ?_)
  refine cn_blk (ci := 1) (sl := 5) (idx := 24) (N := 120) (v := 120) (at_ := .int) (ty := .int) (t := 0) (pc1 := 39) hx hb hts hown hin hK hP hD hS hA hl (by decide) (by decide) (Nat.le_of_ble_eq_true rfl) (by decide +kernel) rfl rfl (Or.inl ⟨rfl, rfl, rfl⟩) rfl (by decide) rfl (Nat.le_of_ble_eq_true rfl) (Nat.le_of_ble_eq_true rfl) (Nat.le_of_ble_eq_true rfl) cn_d1_36 (fun st h => lv_bipush hx hb cn_d1_37 rfl h) cn_d1_39 cn_d1_41 (fun q5 H locs hP hD hS => ?_)
  refine cn_blk (ci := 1) (sl := 6) (idx := 27) (N := 120) (v := 120) (at_ := .int) (ty := .int) (t := 0) (pc1 := 47) hx hb hts hown hin hK hP hD hS hA hl (by decide) (by decide) (Nat.le_of_ble_eq_true rfl) (by decide +kernel) rfl rfl (Or.inl ⟨rfl, rfl, rfl⟩) rfl (by decide) rfl (Nat.le_of_ble_eq_true rfl) (Nat.le_of_ble_eq_true rfl) (Nat.le_of_ble_eq_true rfl) cn_d1_44 (fun st h => lv_bipush hx hb cn_d1_45 rfl h) cn_d1_47 cn_d1_49 (fun q6 H locs hP hD hS => ?_)
  refine cn_blk (ci := 1) (sl := 7) (idx := 30) (N := 120) (v := 120) (at_ := .boolean) (ty := .boolean) (t := 1) (pc1 := 55) hx hb hts hown hin hK hP hD hS hA hl (by decide) (by decide) (Nat.le_of_ble_eq_true rfl) (by decide +kernel) rfl rfl (Or.inr ⟨rfl, rfl, rfl⟩) rfl (by decide) rfl (Nat.le_of_ble_eq_true rfl) (Nat.le_of_ble_eq_true rfl) (Nat.le_of_ble_eq_true rfl) cn_d1_52 (fun st h => lv_bipush hx hb cn_d1_53 rfl h) cn_d1_55 cn_d1_57 (fun q7 H locs hP hD hS => ?_)
  exact W.vret hx hb hr (fun t ht hW => ⟨⟨fun i => ([h0, q1, q2, q3, q4, q5, q6, q7] : List Nat).getD i 0, rfl, rfl, by rw [ht]; exact hP, hD⟩, hS.F ht⟩) hS.2.2 cn_d1_60
theorem cn_d4_0 : decode cX4_init 0 = .ok (.aload_n 0, 1) := by decide +kernel
theorem cn_d4_1 : decode cX4_init 1 = .ok (.invokespecial 3, 3) := by decide +kernel
theorem cn_d4_4 : decode cX4_init 4 = .ok (.aload_n 0, 1) := by decide +kernel
theorem cn_d4_5 : decode cX4_init 5 = .ok (.bipush 12, 2) := by decide +kernel
theorem cn_d4_7 : decode cX4_init 7 = .ok (.newarray .int, 2) := by decide +kernel
theorem cn_d4_9 : decode cX4_init 9 = .ok (.putfield 9, 3) := by decide +kernel
theorem cn_d4_12 : decode cX4_init 12 = .ok (.aload_n 0, 1) := by decide +kernel
theorem cn_d4_13 : decode cX4_init 13 = .ok (.bipush 12, 2) := by decide +kernel
theorem cn_d4_15 : decode cX4_init 15 = .ok (.newarray .int, 2) := by decide +kernel
theorem cn_d4_17 : decode cX4_init 17 = .ok (.putfield 15, 3) := by decide +kernel
theorem cn_d4_20 : decode cX4_init 20 = .ok (.aload_n 0, 1) := by decide +kernel
theorem cn_d4_21 : decode cX4_init 21 = .ok (.bipush 12, 2) := by decide +kernel
theorem cn_d4_23 : decode cX4_init 23 = .ok (.newarray .int, 2) := by decide +kernel
theorem cn_d4_25 : decode cX4_init 25 = .ok (.putfield 18, 3) := by decide +kernel
theorem cn_d4_28 : decode cX4_init 28 = .ok (.aload_n 0, 1) := by decide +kernel
theorem cn_d4_29 : decode cX4_init 29 = .ok (.bipush 12, 2) := by decide +kernel
theorem cn_d4_31 : decode cX4_init 31 = .ok (.newarray .int, 2) := by decide +kernel
theorem cn_d4_33 : decode cX4_init 33 = .ok (.putfield 21, 3) := by decide +kernel
theorem cn_d4_36 : decode cX4_init 36 = .ok (.aload_n 0, 1) := by decide +kernel
theorem cn_d4_37 : decode cX4_init 37 = .ok (.bipush 12, 2) := by decide +kernel
theorem cn_d4_39 : decode cX4_init 39 = .ok (.newarray .int, 2) := by decide +kernel
theorem cn_d4_41 : decode cX4_init 41 = .ok (.putfield 24, 3) := by decide +kernel
theorem cn_d4_44 : decode cX4_init 44 = .ok (.aload_n 0, 1) := by decide +kernel
theorem cn_d4_45 : decode cX4_init 45 = .ok (.bipush 12, 2) := by decide +kernel
theorem cn_d4_47 : decode cX4_init 47 = .ok (.newarray .int, 2) := by decide +kernel
theorem cn_d4_49 : decode cX4_init 49 = .ok (.putfield 27, 3) := by decide +kernel
theorem cn_d4_52 : decode cX4_init 52 = .ok (.return_, 1) := by decide +kernel
def cn_Sh4 : List mj_D := [.inl (4, [none, some 1, some 2, some 3, some 4, some 5, some 6]), .inr (0, 12), .inr (0, 12), .inr (0, 12), .inr (0, 12), .inr (0, 12), .inr (0, 12)]
def cn_f4 : List Value := [.int 0, .null, .null, .null, .null, .null, .null]
theorem cn_c4 : Cond.code yX4_init cX4_init 1 none ∈ mj_G := mj_inG (List.mem_of_getElem? (i := 222) (by decide +kernel)) rfl
theorem cn_o4 : Cond.methodLink RX4 3 objectInit ∈ mj_G := mj_inG (List.mem_of_getElem? (i := 223) (by decide +kernel)) rfl
set_option maxHeartbeats 4000000 in
set_option maxRecDepth 100000 in
theorem cn_m4 (l : Launch) : cn_Met l yX4_init cX4_init 1 6 72 12 4 cn_f4 cn_Sh4 := by
  intro D cA h0 sz
  refine Met.ofW (cc := cX4_init) (maxL := 1) (ret := none) (by decide) rfl ?_
  intro p e s m args below meth c s₁ B hml hv
  obtain ⟨rfl, hsz, hP, hK, hD0, hN⟩ := hv
  have hx := B.exec
  have hb := B.bytes
  have hr := B.returns
  have hts0 := atoms_spec (ws := cn_ws yX4_init cX4_init) B.pre
  have hts : ∀ w ∈ mj_G, w.before _ s = true := fun w hw => hts0 w (List.mem_cons_of_mem _ hw)
  have hown : s.vm.findClass (mj_q 4).1 = some m.cls := findClass_of_methodNamed B.named
  have hlocks := B.notSynchronized
  have hin : meth.name = "<init>" := (name_of_methodNamed B.named B.method).1
  subst hsz
  have hD := hD0.self (sz := s.heap.size)
  unfold cn_Qv
  generalize hAe : va_A (cn_0 h0 4 cn_f4) s.heap.size = A at hD ⊢
  have hA : ∀ q : Nat, s.heap.size ≤ q → A q := fun q h => by rw [← hAe]; exact Or.inr h
  have hS : va_S A s.heap s.heap [] := va_S.rf
  have hl := lv_entry ([.ref h0]) (n := 1) (Nat.le_of_ble_eq_true rfl)
  rw [lg_entry_eq]
  generalize (lg_sl ([.ref h0]) ++ List.replicate (1 - (lg_sl ([.ref h0])).length) Slot.unset).toArray = ls at hl ⊢
  have hl : lv_has ls 1 [(0, .ref h0)] := hl
  refine lv_aload_n hx hb cn_d4_0 rfl (lv_at hl 0 rfl) ?_
  refine W.objInit hx hb hown (hts _ cn_o4) (hts _ cn_objI) (hts _ cn_objC) rfl (by rw [hml]; exact hl.1) rfl cn_d4_1 (Nat.le_of_ble_eq_true rfl) (Nat.le_of_ble_eq_true rfl) ?_
  refine W.eq (g2 := F0 m 4 ls []) rfl ?_
  refine cn_blk (ci := 4) (sl := 1) (idx := 9) (N := 12) (v := 12) (at_ := .int) (ty := .int) (t := 0) (pc1 := 7) hx hb hts hown hin hK hP hD hS hA hl (by decide) (by decide) (Nat.le_of_ble_eq_true rfl) (by decide +kernel) rfl rfl (Or.inl ⟨rfl, rfl, rfl⟩) rfl (by decide) rfl (Nat.le_of_ble_eq_true rfl) (Nat.le_of_ble_eq_true rfl) (Nat.le_of_ble_eq_true rfl) cn_d4_4 (fun st h => lv_bipush hx hb cn_d4_5 rfl h) cn_d4_7 cn_d4_9 (fun q1 H locs hP hD hS => ?_)
  refine cn_blk (ci := 4) (sl := 2) (idx := 15) (N := 12) (v := 12) (at_ := .int) (ty := .int) (t := 0) (pc1 := 15) hx hb hts hown hin hK hP hD hS hA hl (by decide) (by decide) (Nat.le_of_ble_eq_true rfl) (by decide +kernel) rfl rfl (Or.inl ⟨rfl, rfl, rfl⟩) rfl (by decide) rfl (Nat.le_of_ble_eq_true rfl) (Nat.le_of_ble_eq_true rfl) (Nat.le_of_ble_eq_true rfl) cn_d4_12 (fun st h => lv_bipush hx hb cn_d4_13 rfl h) cn_d4_15 cn_d4_17 (fun q2 H locs hP hD hS => ?_)
  refine cn_blk (ci := 4) (sl := 3) (idx := 18) (N := 12) (v := 12) (at_ := .int) (ty := .int) (t := 0) (pc1 := 23) hx hb hts hown hin hK hP hD hS hA hl (by decide) (by decide) (Nat.le_of_ble_eq_true rfl) (by decide +kernel) rfl rfl (Or.inl ⟨rfl, rfl, rfl⟩) rfl (by decide) rfl (Nat.le_of_ble_eq_true rfl) (Nat.le_of_ble_eq_true rfl) (Nat.le_of_ble_eq_true rfl) cn_d4_20 (fun st h => lv_bipush hx hb cn_d4_21 rfl h) cn_d4_23 cn_d4_25 (fun q3 H locs hP hD hS => ?_)
  refine cn_blk (ci := 4) (sl := 4) (idx := 21) (N := 12) (v := 12) (at_ := .int) (ty := .int) (t := 0) (pc1 := 31) hx hb hts hown hin hK hP hD hS hA hl (by decide) (by decide) (Nat.le_of_ble_eq_true rfl) (by decide +kernel) rfl rfl (Or.inl ⟨rfl, rfl, rfl⟩) rfl (by decide) rfl (Nat.le_of_ble_eq_true rfl) (Nat.le_of_ble_eq_true rfl) (Nat.le_of_ble_eq_true rfl) cn_d4_28 (fun st h => lv_bipush hx hb cn_d4_29 rfl h) cn_d4_31 cn_d4_33 (fun q4 H locs hP hD hS => ?_)
  refine cn_blk (ci := 4) (sl := 5) (idx := 24) (N := 12) (v := 12) (at_ := .int) (ty := .int) (t := 0) (pc1 := 39) hx hb hts hown hin hK hP hD hS hA hl (by decide) (by decide) (Nat.le_of_ble_eq_true rfl) (by decide +kernel) rfl rfl (Or.inl ⟨rfl, rfl, rfl⟩) rfl (by decide) rfl (Nat.le_of_ble_eq_true rfl) (Nat.le_of_ble_eq_true rfl) (Nat.le_of_ble_eq_true rfl) cn_d4_36 (fun st h => lv_bipush hx hb cn_d4_37 rfl h) cn_d4_39 cn_d4_41 (fun q5 H locs hP hD hS => ?_)
  refine cn_blk (ci := 4) (sl := 6) (idx := 27) (N := 12) (v := 12) (at_ := .int) (ty := .int) (t := 0) (pc1 := 47) hx hb hts hown hin hK hP hD hS hA hl (by decide) (by decide) (Nat.le_of_ble_eq_true rfl) (by decide +kernel) rfl rfl (Or.inl ⟨rfl, rfl, rfl⟩) rfl (by decide) rfl (Nat.le_of_ble_eq_true rfl) (Nat.le_of_ble_eq_true rfl) (Nat.le_of_ble_eq_true rfl) cn_d4_44 (fun st h => lv_bipush hx hb cn_d4_45 rfl h) cn_d4_47 cn_d4_49 (fun q6 H locs hP hD hS => ?_)
  exact W.vret hx hb hr (fun t ht hW => ⟨⟨fun i => ([h0, q1, q2, q3, q4, q5, q6] : List Nat).getD i 0, rfl, rfl, by rw [ht]; exact hP, hD⟩, hS.F ht⟩) hS.2.2 cn_d4_52
theorem cn_d5_0 : decode cX5_init 0 = .ok (.aload_n 0, 1) := by decide +kernel
theorem cn_d5_1 : decode cX5_init 1 = .ok (.invokespecial 3, 3) := by decide +kernel
theorem cn_d5_4 : decode cX5_init 4 = .ok (.aload_n 0, 1) := by decide +kernel
theorem cn_d5_5 : decode cX5_init 5 = .ok (.sipush 400, 3) := by decide +kernel
theorem cn_d5_8 : decode cX5_init 8 = .ok (.newarray .int, 2) := by decide +kernel
theorem cn_d5_10 : decode cX5_init 10 = .ok (.putfield 9, 3) := by decide +kernel
theorem cn_d5_13 : decode cX5_init 13 = .ok (.aload_n 0, 1) := by decide +kernel
theorem cn_d5_14 : decode cX5_init 14 = .ok (.sipush 400, 3) := by decide +kernel
theorem cn_d5_17 : decode cX5_init 17 = .ok (.newarray .int, 2) := by decide +kernel
theorem cn_d5_19 : decode cX5_init 19 = .ok (.putfield 15, 3) := by decide +kernel
theorem cn_d5_22 : decode cX5_init 22 = .ok (.return_, 1) := by decide +kernel
def cn_Sh5 : List mj_D := [.inl (5, [some 1, some 2]), .inr (0, 400), .inr (0, 400)]
def cn_f5 : List Value := [.null, .null]
theorem cn_c5 : Cond.code yX5_init cX5_init 1 none ∈ mj_G := mj_inG (List.mem_of_getElem? (i := 260) (by decide +kernel)) rfl
theorem cn_o5 : Cond.methodLink RX5 3 objectInit ∈ mj_G := mj_inG (List.mem_of_getElem? (i := 261) (by decide +kernel)) rfl
set_option maxHeartbeats 4000000 in
set_option maxRecDepth 100000 in
theorem cn_m5 (l : Launch) : cn_Met l yX5_init cX5_init 1 2 800 12 5 cn_f5 cn_Sh5 := by
  intro D cA h0 sz
  refine Met.ofW (cc := cX5_init) (maxL := 1) (ret := none) (by decide) rfl ?_
  intro p e s m args below meth c s₁ B hml hv
  obtain ⟨rfl, hsz, hP, hK, hD0, hN⟩ := hv
  have hx := B.exec
  have hb := B.bytes
  have hr := B.returns
  have hts0 := atoms_spec (ws := cn_ws yX5_init cX5_init) B.pre
  have hts : ∀ w ∈ mj_G, w.before _ s = true := fun w hw => hts0 w (List.mem_cons_of_mem _ hw)
  have hown : s.vm.findClass (mj_q 5).1 = some m.cls := findClass_of_methodNamed B.named
  have hlocks := B.notSynchronized
  have hin : meth.name = "<init>" := (name_of_methodNamed B.named B.method).1
  subst hsz
  have hD := hD0.self (sz := s.heap.size)
  unfold cn_Qv
  generalize hAe : va_A (cn_0 h0 5 cn_f5) s.heap.size = A at hD ⊢
  have hA : ∀ q : Nat, s.heap.size ≤ q → A q := fun q h => by rw [← hAe]; exact Or.inr h
  have hS : va_S A s.heap s.heap [] := va_S.rf
  have hl := lv_entry ([.ref h0]) (n := 1) (Nat.le_of_ble_eq_true rfl)
  rw [lg_entry_eq]
  generalize (lg_sl ([.ref h0]) ++ List.replicate (1 - (lg_sl ([.ref h0])).length) Slot.unset).toArray = ls at hl ⊢
  have hl : lv_has ls 1 [(0, .ref h0)] := hl
  refine lv_aload_n hx hb cn_d5_0 rfl (lv_at hl 0 rfl) ?_
  refine W.objInit hx hb hown (hts _ cn_o5) (hts _ cn_objI) (hts _ cn_objC) rfl (by rw [hml]; exact hl.1) rfl cn_d5_1 (Nat.le_of_ble_eq_true rfl) (Nat.le_of_ble_eq_true rfl) ?_
  refine W.eq (g2 := F0 m 4 ls []) rfl ?_
  refine cn_blk (ci := 5) (sl := 0) (idx := 9) (N := 400) (v := 400) (at_ := .int) (ty := .int) (t := 0) (pc1 := 8) hx hb hts hown hin hK hP hD hS hA hl (by decide) (by decide) (Nat.le_of_ble_eq_true rfl) (by decide +kernel) rfl rfl (Or.inl ⟨rfl, rfl, rfl⟩) rfl (by decide) rfl (Nat.le_of_ble_eq_true rfl) (Nat.le_of_ble_eq_true rfl) (Nat.le_of_ble_eq_true rfl) cn_d5_4 (fun st h => lv_sipush hx hb cn_d5_5 rfl h) cn_d5_8 cn_d5_10 (fun q1 H locs hP hD hS => ?_)
  refine cn_blk (ci := 5) (sl := 1) (idx := 15) (N := 400) (v := 400) (at_ := .int) (ty := .int) (t := 0) (pc1 := 17) hx hb hts hown hin hK hP hD hS hA hl (by decide) (by decide) (Nat.le_of_ble_eq_true rfl) (by decide +kernel) rfl rfl (Or.inl ⟨rfl, rfl, rfl⟩) rfl (by decide) rfl (Nat.le_of_ble_eq_true rfl) (Nat.le_of_ble_eq_true rfl) (Nat.le_of_ble_eq_true rfl) cn_d5_13 (fun st h => lv_sipush hx hb cn_d5_14 rfl h) cn_d5_17 cn_d5_19 (fun q2 H locs hP hD hS => ?_)
  exact W.vret hx hb hr (fun t ht hW => ⟨⟨fun i => ([h0, q1, q2] : List Nat).getD i 0, rfl, rfl, by rw [ht]; exact hP, hD⟩, hS.F ht⟩) hS.2.2 cn_d5_22
