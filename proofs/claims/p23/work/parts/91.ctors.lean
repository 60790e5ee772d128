-- constructors that make others (written by wip/p23/gen/mk60.py)
def cn_wr (cA : Nat → ClassId) (ad : Nat → Nat) (M : mj_M) : Nat → List mj_D → va_W
  | _, [] => []
  | k, d :: r => (ad k, mj_e cA ad M k d) :: cn_wr cA ad M (k + 1) r
theorem cn_wr_get (cA : Nat → ClassId) (ad : Nat → Nat) (M : mj_M) : ∀ (Sh : List mj_D) (k j : Nat), (cn_wr cA ad M k Sh)[j]? = (Sh[j]?).map (fun d => (ad (k + j), mj_e cA ad M (k + j) d))
  | [], k, j => by simp [cn_wr]
  | d :: r, k, 0 => by simp [cn_wr]
  | d :: r, k, j + 1 => by
    simp only [cn_wr, List.getElem?_cons_succ]
    rw [cn_wr_get cA ad M r (k + 1) j, show k + 1 + j = k + (j + 1) by omega]
theorem cn_w_r (cA : Nat → ClassId) (ad : Nat → Nat) (M : mj_M) (Sh : List mj_D) : mj_w cA ad M Sh = cn_wr cA ad M 0 Sh := by
  apply List.ext_getElem?
  intro j
  rw [mj_w_get, cn_wr_get, Nat.zero_add]
theorem cn_join {A : Nat → Prop} {D : va_G} {cl : List vw_C} {wc ws w1 : va_W} {H H1 : Heap} (hP : va_P D cl (ws ++ wc) H) (hD : va_D A (ws ++ wc)) (hk : ∀ q : Nat, q < H.size → ¬ va_A wc H.size q → H1[q]? = H[q]?) (hF : ∀ q, va_A wc H.size q → A q) (hP1 : va_P D cl w1 H1) (hD1 : va_D (va_A wc H.size) w1) : va_P D cl (ws ++ w1) H1 ∧ va_D A (ws ++ w1) := by
  have key : ∀ (k : Nat) (x : Nat × va_E), ws[k]? = some x → k < ws.length ∧ (ws ++ wc)[k]? = some x ∧ x.1 < H.size ∧ ¬ va_A wc H.size x.1 := by
    intro k x hx
    have hl := (List.getElem?_eq_some_iff.mp hx).1
    have hx' : (ws ++ wc)[k]? = some x := by rw [List.getElem?_append_left hl]; exact hx
    have hlt := (hP k x hx').lt
    refine ⟨hl, hx', hlt, fun h => ?_⟩
    rcases h with ⟨k2, e2, h2⟩ | h
    · have h3 : (ws ++ wc)[ws.length + k2]? = some (x.1, e2) := by
        rw [List.getElem?_append_right (by omega), Nat.add_sub_cancel_left]; exact h2
      have := hD.1 k (ws.length + k2) _ _ hx' h3 rfl
      omega
    · omega
  have cut : ∀ (k : Nat) (x : Nat × va_E), (ws ++ w1)[k]? = some x → (k < ws.length ∧ ws[k]? = some x) ∨ (ws.length ≤ k ∧ w1[k - ws.length]? = some x) := by
    intro k x hx
    rcases Nat.lt_or_ge k ws.length with h | h
    · rw [List.getElem?_append_left h] at hx; exact Or.inl ⟨h, hx⟩
    · rw [List.getElem?_append_right h] at hx; exact Or.inr ⟨h, hx⟩
  refine ⟨fun k x hx => ?_, fun i j x y hx hy hxy => ?_, fun k x hx => ?_⟩
  · rcases cut k x hx with ⟨-, h⟩ | ⟨-, h⟩
    · obtain ⟨-, h2, h3, h4⟩ := key k x h
      exact (hP k x h2).kept (hk _ h3 h4)
    · exact hP1 _ x h
  · rcases cut i x hx with ⟨hi, h1⟩ | ⟨hi, h1⟩
    · rcases cut j y hy with ⟨hj, h2⟩ | ⟨hj, h2⟩
      · exact hD.1 i j x y (key i x h1).2.1 (key j y h2).2.1 hxy
      · exact absurd (hxy ▸ hD1.2 _ y h2) (key i x h1).2.2.2
    · rcases cut j y hy with ⟨hj, h2⟩ | ⟨hj, h2⟩
      · exact absurd (hxy ▸ hD1.2 _ x h1) (key j y h2).2.2.2
      · have := hD1.1 _ _ x y h1 h2 hxy
        omega
  · rcases cut k x hx with ⟨-, h⟩ | ⟨-, h⟩
    · exact hD.2 k x (key k x h).2.1
    · exact hF _ (hD1.2 _ x h)
theorem cn_blind {D : va_G} {cA : Nat → ClassId} {h0 ci sz : Nat} {fs : List Value} : FrameBlind (cn_Pc D cA h0 ci fs sz) := by
  intro a U g mk q
  obtain ⟨q0, q1, qP, qK, qD, qN⟩ := q
  exact ⟨q0, q1, qP, va_K.moved (u := U) (U := U.calling g mk a) (Vm.Alike.refl U.vm) qK, qD, fun x hx => va_Nw.same rfl rfl (qN x hx)⟩
set_option maxHeartbeats 4000000 in
/-- this.f = new C(), in a constructor, C of the same nest -/
theorem cn_sub {p : Program} {l : Launch} {e : Env} {R : Room} {s : State} {m : MethodId} {args : Array Value} {below : List Frame} {meth : Method} {c : Code} {H H0 : Heap} {locs : List Loc} {cells slots : Nat} {Q : State → Prop} {D : va_G} {cA : Nat → ClassId} {A : Nat → Prop} {cc b : ByteArray} {ls : Array Slot} {nl h0 ci sl idx pc fr cs ss lo cj inew ispec : Nat} {y : MethodName} {fs fj : List Value} {ar : va_W} {Sh : List mj_D}
    (hx : p.tables.exec = Jvm.exec) (hb : c.code = cc) (hml : c.maxLocals = nl) (hts : ∀ w ∈ mj_G, w.before args s = true) (hown : s.vm.findClass (mj_q ci).1 = some m.cls) (hin : meth.name = "<init>") (hK : va_K D mj_cl (mj_tys cA) s) (hN : cn_N s) (hP : va_P D mj_cl ((h0, .inr (ci, fs)) :: ar) H) (hD : va_D A ((h0, .inr (ci, fs)) :: ar)) (hS : va_S A H0 H locs) (hA : ∀ q, H0.size ≤ q → A q) (hl : lv_has ls nl [(0, .ref h0)])
    (hM : cn_Met l y b fr cs ss lo cj fj Sh) (hyc : Cond.code y b 1 none ∈ mj_G) (hyi : Cond.instanceMethod y ∈ mj_G) (hnest : ((mj_q ci).1, ispec, y) ∈ cn_nl) (hyn : y.name = "<init>") (hyz : Cond.initialized y.cls ∈ mj_G) (hyd : y.cls ≠ "java/lang/invoke/MethodHandle" ∧ y.cls ≠ "java/lang/invoke/VarHandle" ∧ (parseMethodDescriptor y.desc).map (fun d => d.parameters.length) = some 0)
    (hcl : Cond.classLink (mj_q ci).1 inew (mj_q cj).1 ∈ mj_G) (hinst : Cond.instantiable (mj_q cj).1 (mj_q cj).2.2 ∈ mj_G) (hini : Cond.initialized (mj_q cj).1 ∈ mj_G) (hcj : cj < 7) (hfj : ∀ j, j < (mj_q cj).2.2 → defaultValue (mj_ty0 cj j) = vp_V fj j)
    (hci : ci < 7) (hsl : sl < (mj_q ci).2.2) (hsl2 : sl < fs.length) (hF : (ci, idx, ci, sl) ∈ mj_FL) (hfin : ((mj_q ci).2.1 sl).2.2.2 = true) (hdecl : ((mj_q ci).2.1 sl).1 = (mj_q ci).1) (hfld : ∃ C, mj_ty0 ci sl = .object C)
    (hcells : cells + 1 + cs ≤ R.cells) (hslots : slots + (mj_q cj).2.2 + ss ≤ R.slots) (hfr : fr + 1 ≤ R.frames) (hlo : 8 + (1 + 11) + lo ≤ R.locals)
    (d0 : decode cc pc = .ok (.aload_n 0, 1)) (d1 : decode cc (pc + 1) = .ok (.new inew, 3)) (d2 : decode cc (pc + 4) = .ok (.dup, 1)) (d3 : decode cc (pc + 5) = .ok (.invokespecial ispec, 3)) (d4 : decode cc (pc + 8) = .ok (.putfield idx, 3))
    (kk : ∀ (u : Nat → Nat) (H1 : Heap) (locs1 : List Loc), va_P D mj_cl ((h0, .inr (ci, fs.set sl (.ref (u 0)))) :: (ar ++ mj_w cA u (fun _ _ => 0) Sh)) H1 → va_D A ((h0, .inr (ci, fs.set sl (.ref (u 0)))) :: (ar ++ mj_w cA u (fun _ _ => 0) Sh)) → va_S A H0 H1 locs1 → W p l e R s m args below meth c H1 locs1 (cells + 1 + cs) (slots + (mj_q cj).2.2 + ss) Q (F0 m (pc + 11) ls [])) : W p l e R s m args below meth c H locs cells slots Q (F0 m pc ls []) := by
  have hva : ∀ (f : FieldType) (q : Nat), (∃ C, f = .object C) → narrow f (.ref q) = .ref q ∧ fits f (.ref q) = true := by
    rintro f q ⟨C, rfl⟩
    exact ⟨rfl, rfl⟩
  refine lv_aload_n hx hb d0 rfl (lv_at hl 0 rfl) ?_
  refine va_new (ci := cj) (fs := fj) (C := (mj_q cj).1) (T := (mj_q cj).2.1) (N := (mj_q cj).2.2) hx hb hts (mj_inL hcj) (mj_ty0 cj) (mj_tyok hcj) hown (hts _ hcl) (hts _ hinst) (hts _ hini) hK hP hD hS hA (mj_cl_q hcj) hfj (Nat.le_trans (Nat.le_add_right _ _) hcells) (Nat.le_trans (Nat.le_add_right _ _) hslots) d1 (fun q H hP hD hS => ?_)
  refine lv_dup hx hb d2 rfl ?_
  have hPl : ((((h0, .inr (ci, fs)) :: ar) ++ [(q, .inr (cj, fj))] : va_W))[ar.length + 1]? = some (q, .inr (cj, fj)) := by
    rw [List.getElem?_append_right (by simp)]; simp
  have hPc : va_P D mj_cl (cn_0 q cj fj) H := fun k x hx => by
    have hk := (List.getElem?_eq_some_iff.mp hx).1
    have : k = 0 := by simp [cn_0] at hk; exact hk
    subst this
    cases hx
    exact hP _ _ hPl
  have hDc : va_D (fun _ => True) (cn_0 q cj fj) := by
    refine ⟨fun i j a b ha hb' hab => ?_, fun _ _ _ => trivial⟩
    have h1 := (List.getElem?_eq_some_iff.mp ha).1
    have h2 := (List.getElem?_eq_some_iff.mp hb').1
    simp [cn_0] at h1 h2
    omega
  have hFc : ∀ z, va_A (cn_0 q cj fj) H.size z → A z := by
    intro z hz
    rcases hz with ⟨k, e1, hz⟩ | hz
    · have hk := (List.getElem?_eq_some_iff.mp hz).1
      have : k = 0 := by simp [cn_0] at hk; exact hk
      subst this
      cases hz
      exact hD.2 _ _ hPl
    · exact hA _ (Nat.le_trans hS.1 hz)
  refine va_callv (va_runIN (As := []) (rest := [.ref q, .ref h0]) ⟨hx, hb, hml, hown, hts⟩ (hM D cA q H.size) ⟨va_cnB 0 hts (cn_good hyc) rfl rfl rfl (hN _ hnest) (hts _ hyz) hyd ⟨hfr, hlo⟩, hyn, hts _ hyi⟩ ⟨cn_blind, fun U hU hW => ⟨rfl, by rw [hU], by rw [hU]; exact hPc, va_K.moved hW.alike hK, hDc, hN.warm hW⟩⟩ rfl rfl hl.1 rfl (lv_room (Nat.le_of_ble_eq_true rfl)) d3 ⟨hcells, hslots⟩) hS (fun q _ h => hFc q h) hFc (fun u t H1 locs1 ht hvm hw hB hz1 hk1 hS1 => ?_)
  obtain ⟨hP1, hD1⟩ := hB
  rw [ht] at hP1
  obtain ⟨hP2, hD2⟩ := cn_join (ws := (h0, .inr (ci, fs)) :: ar) (wc := cn_0 q cj fj) hP hD hk1 hFc hP1 hD1
  have hq : u 0 = q := hw
  subst hq
  refine va_putF (C := (mj_q ci).1) (T := (mj_q ci).2.1) (N := (mj_q ci).2.2) (ref := ((mj_q ci).2.1 sl).1) (own := (mj_q ci).1) hx hb hts (mj_inL hci) (mj_ty0 ci) (mj_tyok hci) (mj_nm hci) hown hK hP2 hD2 hS1 0 rfl (mj_cl_q hci) sl hsl (by have h1 := hts _ (mj_inF hF); rw [mj_R_q hci] at h1; exact h1) (fun _ h => h) hfin hin hdecl (ty := mj_ty0 ci sl) (mj_tyok hci sl hsl) (hva _ _ hfld).1 (hva _ _ hfld).2 hsl2 d4 (fun H2 locs2 hP3 hD3 hS3 => ?_)
  exact kk u H2 locs2 hP3 hD3 hS3

theorem cn_i2 : Cond.instanceMethod yX2_init ∈ mj_G := mj_inG (List.mem_of_getElem? (i := 67) (by decide +kernel)) rfl
theorem cn_n2 : Cond.instantiable (mj_q 2).1 (mj_q 2).2.2 ∈ mj_G := mj_inG (List.mem_of_getElem? (i := 65) (by decide +kernel)) rfl
theorem cn_i0 : Cond.instanceMethod yX0_init ∈ mj_G := mj_inG (List.mem_of_getElem? (i := 108) (by decide +kernel)) rfl
theorem cn_n0 : Cond.instantiable (mj_q 0).1 (mj_q 0).2.2 ∈ mj_G := mj_inG (List.mem_of_getElem? (i := 106) (by decide +kernel)) rfl
theorem cn_i1 : Cond.instanceMethod yX1_init ∈ mj_G := mj_inG (List.mem_of_getElem? (i := 175) (by decide +kernel)) rfl
theorem cn_n1 : Cond.instantiable (mj_q 1).1 (mj_q 1).2.2 ∈ mj_G := mj_inG (List.mem_of_getElem? (i := 173) (by decide +kernel)) rfl
theorem cn_i4 : Cond.instanceMethod yX4_init ∈ mj_G := mj_inG (List.mem_of_getElem? (i := 221) (by decide +kernel)) rfl
theorem cn_n4 : Cond.instantiable (mj_q 4).1 (mj_q 4).2.2 ∈ mj_G := mj_inG (List.mem_of_getElem? (i := 219) (by decide +kernel)) rfl
theorem cn_i5 : Cond.instanceMethod yX5_init ∈ mj_G := mj_inG (List.mem_of_getElem? (i := 259) (by decide +kernel)) rfl
theorem cn_n5 : Cond.instantiable (mj_q 5).1 (mj_q 5).2.2 ∈ mj_G := mj_inG (List.mem_of_getElem? (i := 257) (by decide +kernel)) rfl
theorem cn_i3 : Cond.instanceMethod yX3_init ∈ mj_G := mj_inG (List.mem_of_getElem? (i := 61) (by decide +kernel)) rfl
theorem cn_n3 : Cond.instantiable (mj_q 3).1 (mj_q 3).2.2 ∈ mj_G := mj_inG (List.mem_of_getElem? (i := 59) (by decide +kernel)) rfl
theorem cn_d3_0 : decode cX3_init 0 = .ok (.aload_n 0, 1) := by decide +kernel
theorem cn_d3_1 : decode cX3_init 1 = .ok (.invokespecial 3, 3) := by decide +kernel
theorem cn_d3_4 : decode cX3_init 4 = .ok (.aload_n 0, 1) := by decide +kernel
theorem cn_d3_5 : decode cX3_init 5 = .ok (.new 9, 3) := by decide +kernel
theorem cn_d3_8 : decode cX3_init 8 = .ok (.dup, 1) := by decide +kernel
theorem cn_d3_9 : decode cX3_init 9 = .ok (.invokespecial 11, 3) := by decide +kernel
theorem cn_d3_12 : decode cX3_init 12 = .ok (.putfield 12, 3) := by decide +kernel
theorem cn_d3_15 : decode cX3_init 15 = .ok (.aload_n 0, 1) := by decide +kernel
theorem cn_d3_16 : decode cX3_init 16 = .ok (.new 18, 3) := by decide +kernel
theorem cn_d3_19 : decode cX3_init 19 = .ok (.dup, 1) := by decide +kernel
theorem cn_d3_20 : decode cX3_init 20 = .ok (.invokespecial 20, 3) := by decide +kernel
theorem cn_d3_23 : decode cX3_init 23 = .ok (.putfield 21, 3) := by decide +kernel
theorem cn_d3_26 : decode cX3_init 26 = .ok (.aload_n 0, 1) := by decide +kernel
theorem cn_d3_27 : decode cX3_init 27 = .ok (.new 25, 3) := by decide +kernel
theorem cn_d3_30 : decode cX3_init 30 = .ok (.dup, 1) := by decide +kernel
theorem cn_d3_31 : decode cX3_init 31 = .ok (.invokespecial 27, 3) := by decide +kernel
theorem cn_d3_34 : decode cX3_init 34 = .ok (.putfield 28, 3) := by decide +kernel
theorem cn_d3_37 : decode cX3_init 37 = .ok (.aload_n 0, 1) := by decide +kernel
theorem cn_d3_38 : decode cX3_init 38 = .ok (.new 32, 3) := by decide +kernel
theorem cn_d3_41 : decode cX3_init 41 = .ok (.dup, 1) := by decide +kernel
theorem cn_d3_42 : decode cX3_init 42 = .ok (.invokespecial 34, 3) := by decide +kernel
theorem cn_d3_45 : decode cX3_init 45 = .ok (.putfield 35, 3) := by decide +kernel
theorem cn_d3_48 : decode cX3_init 48 = .ok (.aload_n 0, 1) := by decide +kernel
theorem cn_d3_49 : decode cX3_init 49 = .ok (.new 39, 3) := by decide +kernel
theorem cn_d3_52 : decode cX3_init 52 = .ok (.dup, 1) := by decide +kernel
theorem cn_d3_53 : decode cX3_init 53 = .ok (.invokespecial 41, 3) := by decide +kernel
theorem cn_d3_56 : decode cX3_init 56 = .ok (.putfield 42, 3) := by decide +kernel
theorem cn_d3_59 : decode cX3_init 59 = .ok (.aload_n 0, 1) := by decide +kernel
theorem cn_d3_60 : decode cX3_init 60 = .ok (.bipush 120, 2) := by decide +kernel
theorem cn_d3_62 : decode cX3_init 62 = .ok (.newarray .int, 2) := by decide +kernel
theorem cn_d3_64 : decode cX3_init 64 = .ok (.putfield 46, 3) := by decide +kernel
theorem cn_d3_67 : decode cX3_init 67 = .ok (.aload_n 0, 1) := by decide +kernel
theorem cn_d3_68 : decode cX3_init 68 = .ok (.bipush 120, 2) := by decide +kernel
theorem cn_d3_70 : decode cX3_init 70 = .ok (.newarray .int, 2) := by decide +kernel
theorem cn_d3_72 : decode cX3_init 72 = .ok (.putfield 50, 3) := by decide +kernel
theorem cn_d3_75 : decode cX3_init 75 = .ok (.return_, 1) := by decide +kernel
def cn_f3 : List Value := [.null, .null, .null, .null, .null, .int 0, .null, .null, .int 0, .int 0]
theorem cn_c3 : Cond.code yX3_init cX3_init 1 none ∈ mj_G := mj_inG (List.mem_of_getElem? (i := 62) (by decide +kernel)) rfl
theorem cn_o3 : Cond.methodLink RX3 3 objectInit ∈ mj_G := mj_inG (List.mem_of_getElem? (i := 63) (by decide +kernel)) rfl
theorem cn_l3_4 : Cond.classLink (mj_q 3).1 9 (mj_q 2).1 ∈ mj_G := mj_inG (List.mem_of_getElem? (i := 64) (by decide +kernel)) rfl
theorem cn_l3_15 : Cond.classLink (mj_q 3).1 18 (mj_q 0).1 ∈ mj_G := mj_inG (List.mem_of_getElem? (i := 105) (by decide +kernel)) rfl
theorem cn_l3_26 : Cond.classLink (mj_q 3).1 25 (mj_q 1).1 ∈ mj_G := mj_inG (List.mem_of_getElem? (i := 172) (by decide +kernel)) rfl
theorem cn_l3_37 : Cond.classLink (mj_q 3).1 32 (mj_q 4).1 ∈ mj_G := mj_inG (List.mem_of_getElem? (i := 218) (by decide +kernel)) rfl
theorem cn_l3_48 : Cond.classLink (mj_q 3).1 39 (mj_q 5).1 ∈ mj_G := mj_inG (List.mem_of_getElem? (i := 256) (by decide +kernel)) rfl
set_option maxHeartbeats 4000000 in
set_option maxRecDepth 100000 in
theorem cn_m3 (l : Launch) : cn_Met l yX3_init cX3_init 2 39 2203 32 3 cn_f3 mj_Sh0 := by
  intro D cA h0 sz
  refine Met.ofW (cc := cX3_init) (maxL := 1) (ret := none) (by decide) rfl ?_
  intro p e s m args below meth c s₁ B hml hv
  obtain ⟨rfl, hsz, hP, hK, hD0, hN⟩ := hv
  have hx := B.exec
  have hb := B.bytes
  have hr := B.returns
  have hts0 := atoms_spec (ws := cn_ws yX3_init cX3_init) B.pre
  have hts : ∀ w ∈ mj_G, w.before _ s = true := fun w hw => hts0 w (List.mem_cons_of_mem _ hw)
  have hown : s.vm.findClass (mj_q 3).1 = some m.cls := findClass_of_methodNamed B.named
  have hlocks := B.notSynchronized
  have hin : meth.name = "<init>" := (name_of_methodNamed B.named B.method).1
  subst hsz
  have hD := hD0.self (sz := s.heap.size)
  unfold cn_Qv
  generalize hAe : va_A (cn_0 h0 3 cn_f3) s.heap.size = A at hD ⊢
  have hA : ∀ q : Nat, s.heap.size ≤ q → A q := fun q h => by rw [← hAe]; exact Or.inr h
  have hS : va_S A s.heap s.heap [] := va_S.rf
  have hl := lv_entry ([.ref h0]) (n := 1) (Nat.le_of_ble_eq_true rfl)
  rw [lg_entry_eq]
  generalize (lg_sl ([.ref h0]) ++ List.replicate (1 - (lg_sl ([.ref h0])).length) Slot.unset).toArray = ls at hl ⊢
  have hl : lv_has ls 1 [(0, .ref h0)] := hl
  refine lv_aload_n hx hb cn_d3_0 rfl (lv_at hl 0 rfl) ?_
  refine W.objInit hx hb hown (hts _ cn_o3) (hts _ cn_objI) (hts _ cn_objC) rfl (by rw [hml]; exact hl.1) rfl cn_d3_1 (Nat.le_of_ble_eq_true rfl) (Nat.le_of_ble_eq_true rfl) ?_
  refine W.eq (g2 := F0 m 4 ls []) rfl ?_
  refine cn_sub (ci := 3) (cj := 2) (sl := 0) (idx := 12) (inew := 9) (ispec := 11) hx hb hml hts hown hin hK hN hP hD hS hA hl (cn_m2 l) cn_c2 cn_i2 (by decide +kernel) rfl (mj_inN (x := 2) (by decide)) (by decide +kernel) cn_l3_4 cn_n2 (mj_inN (x := 2) (by decide)) (by decide) (by decide +kernel) (by decide) (by decide) (Nat.le_of_ble_eq_true rfl) (by decide +kernel) rfl rfl ⟨_, rfl⟩ (Nat.le_of_ble_eq_true rfl) (Nat.le_of_ble_eq_true rfl) (Nat.le_of_ble_eq_true rfl) (Nat.le_of_ble_eq_true rfl) cn_d3_4 cn_d3_5 cn_d3_8 cn_d3_9 cn_d3_12 (fun u1 H locs hP hD hS => ?_)
  refine cn_sub (ci := 3) (cj := 0) (sl := 1) (idx := 21) (inew := 18) (ispec := 20) hx hb hml hts hown hin hK hN hP hD hS hA hl (cn_m0 l) cn_c0 cn_i0 (by decide +kernel) rfl (mj_inN (x := 0) (by decide)) (by decide +kernel) cn_l3_15 cn_n0 (mj_inN (x := 0) (by decide)) (by decide) (by decide +kernel) (by decide) (by decide) (Nat.le_of_ble_eq_true rfl) (by decide +kernel) rfl rfl ⟨_, rfl⟩ (Nat.le_of_ble_eq_true rfl) (Nat.le_of_ble_eq_true rfl) (Nat.le_of_ble_eq_true rfl) (Nat.le_of_ble_eq_true rfl) cn_d3_15 cn_d3_16 cn_d3_19 cn_d3_20 cn_d3_23 (fun u2 H locs hP hD hS => ?_)
  refine cn_sub (ci := 3) (cj := 1) (sl := 2) (idx := 28) (inew := 25) (ispec := 27) hx hb hml hts hown hin hK hN hP hD hS hA hl (cn_m1 l) cn_c1 cn_i1 (by decide +kernel) rfl (mj_inN (x := 1) (by decide)) (by decide +kernel) cn_l3_26 cn_n1 (mj_inN (x := 1) (by decide)) (by decide) (by decide +kernel) (by decide) (by decide) (Nat.le_of_ble_eq_true rfl) (by decide +kernel) rfl rfl ⟨_, rfl⟩ (Nat.le_of_ble_eq_true rfl) (Nat.le_of_ble_eq_true rfl) (Nat.le_of_ble_eq_true rfl) (Nat.le_of_ble_eq_true rfl) cn_d3_26 cn_d3_27 cn_d3_30 cn_d3_31 cn_d3_34 (fun u3 H locs hP hD hS => ?_)
  refine cn_sub (ci := 3) (cj := 4) (sl := 3) (idx := 35) (inew := 32) (ispec := 34) hx hb hml hts hown hin hK hN hP hD hS hA hl (cn_m4 l) cn_c4 cn_i4 (by decide +kernel) rfl (mj_inN (x := 4) (by decide)) (by decide +kernel) cn_l3_37 cn_n4 (mj_inN (x := 4) (by decide)) (by decide) (by decide +kernel) (by decide) (by decide) (Nat.le_of_ble_eq_true rfl) (by decide +kernel) rfl rfl ⟨_, rfl⟩ (Nat.le_of_ble_eq_true rfl) (Nat.le_of_ble_eq_true rfl) (Nat.le_of_ble_eq_true rfl) (Nat.le_of_ble_eq_true rfl) cn_d3_37 cn_d3_38 cn_d3_41 cn_d3_42 cn_d3_45 (fun u4 H locs hP hD hS => ?_)
  refine cn_sub (ci := 3) (cj := 5) (sl := 4) (idx := 42) (inew := 39) (ispec := 41) hx hb hml hts hown hin hK hN hP hD hS hA hl (cn_m5 l) cn_c5 cn_i5 (by decide +kernel) rfl (mj_inN (x := 5) (by decide)) (by decide +kernel) cn_l3_48 cn_n5 (mj_inN (x := 5) (by decide)) (by decide) (by decide +kernel) (by decide) (by decide) (Nat.le_of_ble_eq_true rfl) (by decide +kernel) rfl rfl ⟨_, rfl⟩ (Nat.le_of_ble_eq_true rfl) (Nat.le_of_ble_eq_true rfl) (Nat.le_of_ble_eq_true rfl) (Nat.le_of_ble_eq_true rfl) cn_d3_48 cn_d3_49 cn_d3_52 cn_d3_53 cn_d3_56 (fun u5 H locs hP hD hS => ?_)
  refine cn_blk (ci := 3) (sl := 6) (idx := 46) (N := 120) (v := 120) (at_ := .int) (ty := .int) (t := 0) (pc1 := 62) hx hb hts hown hin hK hP hD hS hA hl (by decide) (by decide) (Nat.le_of_ble_eq_true rfl) (by decide +kernel) rfl rfl (Or.inl ⟨rfl, rfl, rfl⟩) rfl (by decide) rfl (Nat.le_of_ble_eq_true rfl) (Nat.le_of_ble_eq_true rfl) (Nat.le_of_ble_eq_true rfl) cn_d3_59 (fun st h => lv_bipush hx hb cn_d3_60 rfl h) cn_d3_62 cn_d3_64 (fun q6 H locs hP hD hS => ?_)
  refine cn_blk (ci := 3) (sl := 7) (idx := 50) (N := 120) (v := 120) (at_ := .int) (ty := .int) (t := 0) (pc1 := 70) hx hb hts hown hin hK hP hD hS hA hl (by decide) (by decide) (Nat.le_of_ble_eq_true rfl) (by decide +kernel) rfl rfl (Or.inl ⟨rfl, rfl, rfl⟩) rfl (by decide) rfl (Nat.le_of_ble_eq_true rfl) (Nat.le_of_ble_eq_true rfl) (Nat.le_of_ble_eq_true rfl) cn_d3_67 (fun st h => lv_bipush hx hb cn_d3_68 rfl h) cn_d3_70 cn_d3_72 (fun q7 H locs hP hD hS => ?_)
  simp only [cn_w_r] at hP hD
  obtain ⟨ad, had⟩ : ∃ ad : Nat → Nat, ad = fun i => ([h0, u1 0, u1 1, u1 2, u1 3, u1 4, u1 5, u1 6, u2 0, u2 1, u2 2, u2 3, u2 4, u2 5, u2 6, u2 7, u2 8, u2 9, u2 10, u2 11, u3 0, u3 1, u3 2, u3 3, u3 4, u3 5, u3 6, u3 7, u4 0, u4 1, u4 2, u4 3, u4 4, u4 5, u4 6, u5 0, u5 1, u5 2, q6, q7] : List Nat).getD i 0 := ⟨_, rfl⟩
  have hP9 : va_P D mj_cl (mj_w cA ad (fun _ _ => 0) mj_Sh0) H := by
    rw [cn_w_r, had]; exact hP
  have hD9 : va_D A (mj_w cA ad (fun _ _ => 0) mj_Sh0) := by
    rw [cn_w_r, had]; exact hD
  have h09 : ad 0 = h0 := by rw [had]; rfl
  exact W.vret hx hb hr (fun t ht hW => ⟨⟨ad, rfl, h09, by rw [ht]; exact hP9, hD9⟩, hS.F ht⟩) hS.2.2 cn_d3_75
