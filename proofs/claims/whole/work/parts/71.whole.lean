section LLZ
theorem ls_app {A : Nat → Prop} {ws vs : va_W} (h : va_D A (ws ++ vs)) {i j : Nat} {x y : Nat × va_E} (hx : ws[i]? = some x) (hy : vs[j]? = some y) : x.1 ≠ y.1 := by
  intro e
  have hl := (List.getElem?_eq_some_iff.mp hx).1
  have h1 : (ws ++ vs)[i]? = some x := by rw [List.getElem?_append_left hl]; exact hx
  have h2 : (ws ++ vs)[ws.length + j]? = some y := by rw [List.getElem?_append_right (by omega), Nat.add_sub_cancel_left]; exact hy
  have := h.1 i (ws.length + j) x y h1 h2 e
  omega
theorem ls_l {A : Nat → Prop} {ws vs : va_W} (h : va_D A (ws ++ vs)) : va_D A ws := by
  have key : ∀ (i : Nat) (x : Nat × va_E), ws[i]? = some x → (ws ++ vs)[i]? = some x := fun i x hx => by
    rw [List.getElem?_append_left (List.getElem?_eq_some_iff.mp hx).1]; exact hx
  exact ⟨fun i j x y hx hy e => h.1 i j x y (key i x hx) (key j y hy) e, fun k x hx => h.2 k x (key k x hx)⟩
theorem ls_r {A : Nat → Prop} {ws vs : va_W} (h : va_D A (ws ++ vs)) : va_D A vs := by
  have key : ∀ (j : Nat) (y : Nat × va_E), vs[j]? = some y → (ws ++ vs)[ws.length + j]? = some y := fun j y hy => by
    rw [List.getElem?_append_right (by omega), Nat.add_sub_cancel_left]; exact hy
  refine ⟨fun i j x y hx hy e => ?_, fun k x hx => h.2 _ x (key k x hx)⟩
  have := h.1 _ _ x y (key i x hx) (key j y hy) e
  omega
theorem ls_Pl {D : va_G} {cl : List vw_C} {ws vs : va_W} {H : Heap} (h : va_P D cl (ws ++ vs) H) : va_P D cl ws H := fun i x hx => h i x (by rw [List.getElem?_append_left (List.getElem?_eq_some_iff.mp hx).1]; exact hx)
theorem ls_Pr {D : va_G} {cl : List vw_C} {ws vs : va_W} {H : Heap} (h : va_P D cl (ws ++ vs) H) : va_P D cl vs H := fun j x hx => h (ws.length + j) x (by rw [List.getElem?_append_right (by omega), Nat.add_sub_cancel_left]; exact hx)
theorem ls_at {cA : Nat → ClassId} {ad : Nat → Nat} {M : mj_M} {Sh : List mj_D} {k : Nat} (h : k < Sh.length) : ∃ e, (mj_w cA ad M Sh)[k]? = some (ad k, e) := by
  obtain ⟨d, hd⟩ : ∃ d, Sh[k]? = some d := ⟨_, List.getElem?_eq_getElem h⟩
  exact ⟨_, mj_w_some hd⟩
theorem ls_p_0 : decode code 0 = .ok (.new 8, 3) := by decide +kernel
theorem ls_p_3 : decode code 3 = .ok (.dup, 1) := by decide +kernel
theorem ls_p_4 : decode code 4 = .ok (.invokespecial 69, 3) := by decide +kernel
theorem ls_p_7 : decode code 7 = .ok (.astore_n 1, 1) := by decide +kernel
theorem ls_p_8 : decode code 8 = .ok (.new 70, 3) := by decide +kernel
theorem ls_p_11 : decode code 11 = .ok (.dup, 1) := by decide +kernel
theorem ls_p_12 : decode code 12 = .ok (.invokespecial 72, 3) := by decide +kernel
theorem ls_p_15 : decode code 15 = .ok (.astore_n 2, 1) := by decide +kernel
theorem ls_p_16 : decode code 16 = .ok (.iconst 1, 1) := by decide +kernel
theorem ls_p_17 : decode code 17 = .ok (.newarray .long, 2) := by decide +kernel
theorem ls_p_19 : decode code 19 = .ok (.astore_n 3, 1) := by decide +kernel
theorem ls_p_20 : decode code 20 = .ok (.iconst 0, 1) := by decide +kernel
theorem ls_p_21 : decode code 21 = .ok (.istore 4, 2) := by decide +kernel
theorem ls_sh7 : cn_Sh7 = mj_Sh 1 := rfl
theorem ls_sh2 : mj_Sh2 = mj_Sh 2 := rfl
set_option maxHeartbeats 4000000 in
/-- x = new C(), in the law -/
theorem ls_new {p : Program} {l : Launch} {e : Env} {s : State} {m : MethodId} {args : Array Value} {below : List Frame} {meth : Method} {c : Code} {H : Heap} {locs : List Loc} {cells slots : Nat} {Q : State → Prop} {D : va_G} {cA : Nat → ClassId} {b : ByteArray} {ls : Array Slot} {pc fr cs ss lo cj inew ispec : Nat} {y : MethodName} {fj : List Value} {ar : va_W} {Sh : List mj_D}
    (hx : p.tables.exec = Jvm.exec) (hb : c.code = code) (hml : c.maxLocals = 7) (hts : ∀ w ∈ mj_G, w.before args s = true) (hown : s.vm.findClass RL = some m.cls) (hK : va_K D mj_cl (mj_tys cA) s) (hN : cn_N s) (hP : va_P D mj_cl ar H) (hD : va_D (fun q : Nat => s.heap.size ≤ q) ar) (hS : va_S (fun q : Nat => s.heap.size ≤ q) s.heap H locs) (hls : ls.size = 7)
    (hM : cn_Met l y b fr cs ss lo cj fj Sh) (hyc : Cond.code y b 1 none ∈ mj_G) (hyi : Cond.instanceMethod y ∈ mj_G) (hyn : y.name = "<init>") (hyz : Cond.initialized y.cls ∈ mj_G) (hyd : y.cls ≠ "java/lang/invoke/MethodHandle" ∧ y.cls ≠ "java/lang/invoke/VarHandle" ∧ (parseMethodDescriptor y.desc).map (fun d => d.parameters.length) = some 0) (hyl : Cond.methodLink RL ispec y ∈ mj_G)
    (hcl : Cond.classLink RL inew (mj_q cj).1 ∈ mj_G) (hinst : Cond.instantiable (mj_q cj).1 (mj_q cj).2.2 ∈ mj_G) (hini : Cond.initialized (mj_q cj).1 ∈ mj_G) (hcj : cj < 8) (hfj : ∀ j, j < (mj_q cj).2.2 → defaultValue (mj_ty0 cj j) = vp_V fj j)
    (hcells : cells + 1 + cs ≤ 601024) (hslots : slots + (mj_q cj).2.2 + ss ≤ 7293034) (hfr : fr + 1 ≤ 2048) (hlo : 8 + (1 + 11) + lo ≤ 84000)
    (d1 : decode code pc = .ok (.new inew, 3)) (d2 : decode code (pc + 3) = .ok (.dup, 1)) (d3 : decode code (pc + 4) = .ok (.invokespecial ispec, 3))
    (kk : ∀ (u : Nat → Nat) (H1 : Heap) (locs1 : List Loc), va_P D mj_cl (ar ++ mj_w cA u (fun _ _ => 0) Sh) H1 → va_D (fun q : Nat => s.heap.size ≤ q) (ar ++ mj_w cA u (fun _ _ => 0) Sh) → va_S (fun q : Nat => s.heap.size ≤ q) s.heap H1 locs1 → W p l e room_1 s m args below meth c H1 locs1 (cells + 1 + cs) (slots + (mj_q cj).2.2 + ss) Q (F0 m (pc + 7) ls [.ref (u 0)])) : W p l e room_1 s m args below meth c H locs cells slots Q (F0 m pc ls []) := by
  have hA : ∀ q : Nat, s.heap.size ≤ q → (fun q : Nat => s.heap.size ≤ q) q := fun _ h => h
  refine va_new (ci := cj) (fs := fj) (C := (mj_q cj).1) (T := (mj_q cj).2.1) (N := (mj_q cj).2.2) hx hb hts (mj_inL hcj) (mj_ty0 cj) (mj_tyok hcj) hown (hts _ hcl) (hts _ hinst) (hts _ hini) hK hP hD hS hA (mj_cl_q hcj) hfj (by show cells + 1 ≤ 601024; omega) (by show slots + (mj_q cj).2.2 ≤ 7293034; omega) d1 (fun q H hP hD hS => ?_)
  refine lv_dup hx hb d2 rfl ?_
  have hPl : ((ar ++ [(q, .inr (cj, fj))] : va_W))[ar.length]? = some (q, .inr (cj, fj)) := by
    rw [List.getElem?_append_right (Nat.le_refl _), Nat.sub_self]; rfl
  have hPc : va_P D mj_cl (cn_0 q cj fj) H := ls_Pr hP
  have hDc : va_D (fun _ => True) (cn_0 q cj fj) := (ls_r hD).weaken (fun _ _ _ _ => trivial)
  have hFc : ∀ z, va_A (cn_0 q cj fj) H.size z → (fun q : Nat => s.heap.size ≤ q) z := by
    intro z hz
    rcases hz with ⟨k, e1, hz⟩ | hz
    · have hk := (List.getElem?_eq_some_iff.mp hz).1
      have : k = 0 := by simp [cn_0] at hk; exact hk
      subst this
      cases hz
      exact hD.2 _ _ hPl
    · exact Nat.le_trans hS.1 hz
  refine va_callv (va_runI (As := []) (rest := [.ref q]) ⟨hx, hb, hml, hown, hts⟩ (hM D cA q H.size) (cwI 0 hts (cn_good hyc) rfl rfl rfl (hts _ hyz) (hts _ hyl) (hts _ hyi) hyn hyd ⟨hfr, hlo⟩) ⟨cn_blind, fun U hU hW => ⟨rfl, by rw [hU], by rw [hU]; exact hPc, va_K.moved hW.alike hK, hDc, hN.warm hW⟩⟩ rfl rfl hls rfl (lv_room (Nat.le_of_ble_eq_true rfl)) d3 ⟨hcells, hslots⟩) hS (fun q _ h => hFc q h) hFc (fun u t H1 locs1 ht hvm hw hB hz1 hk1 hS1 => ?_)
  obtain ⟨hP1, hD1⟩ := hB
  rw [ht] at hP1
  obtain ⟨hP2, hD2⟩ := cn_join (ws := ar) (wc := cn_0 q cj fj) hP hD hk1 hFc hP1 hD1
  have hq : u 0 = q := hw
  subst hq
  exact kk u H1 locs1 hP2 hD2 hS1
set_option maxHeartbeats 4000000 in
set_option maxRecDepth 100000 in
/-- THE LAW, from its entry -/
theorem whole_start {p : Program} {e : Env} {s : State} {m : MethodId} {below : List Frame} {meth : Method} {c : Code} (l : Launch) (hflags : l.flags = flags0) {b L : Nat} {xs : Nat → Int32} (hL : L ≤ 3072) (C0 : lw_At p s m meth c b L xs) : W p l e room_1 s m #[Value.ref b] below meth c s.heap [] 0 0 (lw_Z below #[Value.ref b] s) (entryFrame m ([Value.ref b] : List Value).toArray 7) := by
  obtain ⟨hx, hb, hr, hml, hown, hts0, hX, hbl, hlocks, hgv⟩ := id C0
  have hf := flat_of_before _ hgv
  have hts : ∀ w ∈ mj_G, w.before #[Value.ref b] s = true := fun w hw => hts0 w (List.mem_filter.mp hw).1
  have hown : s.vm.findClass RL = some m.cls := hown
  obtain ⟨D, hKc⟩ := ls_cls hts
  obtain ⟨cI, hI1, hI2⟩ := cn_arr (hts _ cn_arrInt) (Or.inl rfl)
  obtain ⟨cB, hB1, hB2⟩ := cn_arr (hts _ cn_arrBool) (Or.inr rfl)
  obtain ⟨cL, hL1, hL2⟩ := ls_arrL (hts _ ls_iL)
  obtain ⟨cA, hcA⟩ : ∃ cA : Nat → ClassId, cA = fun k => match k with | 0 => cI | _ => cB := ⟨_, rfl⟩
  have hA0 : cA 0 = cI := congrFun hcA 0
  have hA1 : cA 1 = cB := congrFun hcA 1
  have hK : va_K D mj_cl (lh_tys cA cL) s := by
    refine ⟨hKc, fun k q hq => ?_⟩
    match k, hq with
    | 0, hq => cases hq; rw [hA0]; exact ⟨hI1, hI2⟩
    | 1, hq => cases hq; rw [hA1]; exact ⟨hB1, hB2⟩
    | 2, hq => cases hq; exact ⟨hL1, hL2⟩
    | n + 3, hq =>
      have h9 : n + 3 < 3 := (List.getElem?_eq_some_iff.mp hq).1
      exact absurd h9 (by omega)
  have hK2 : va_K D mj_cl (mj_tys cA) s := hK.sub [0, 1] rfl
  have hN := ls_N hts0
  have hS : va_S (fun q : Nat => s.heap.size ≤ q) s.heap s.heap [] := va_S.rf
  have hP : va_P D mj_cl [] s.heap := fun k q h => by simp at h
  have hD : va_D (fun q : Nat => s.heap.size ≤ q) [] := ⟨fun i j p q h => by simp at h, fun k q h => by simp at h⟩
  have hl := lv_entry ([.ref b]) (n := 7) (Nat.le_of_ble_eq_true rfl)
  rw [lg_entry_eq]
  generalize (lg_sl ([.ref b]) ++ List.replicate (7 - (lg_sl ([.ref b])).length) Slot.unset).toArray = ls at hl ⊢
  have hl : lv_has ls 7 [(0, .ref b)] := hl
  refine ls_new (cj := 6) hx hb hml hts hown hK2 hN hP hD hS hl.1 (cn_m6 l) cn_c6 ls_i6 rfl (mj_inN (x := 6) (by decide)) (by decide +kernel) ls_m69 ls_k8 ls_n6 (mj_inN (x := 6) (by decide)) (by decide) (by decide) (Nat.le_of_ble_eq_true rfl) (Nat.le_of_ble_eq_true rfl) (Nat.le_of_ble_eq_true rfl) (Nat.le_of_ble_eq_true rfl) ls_p_0 ls_p_3 ls_p_4 (fun u1 H locs hP hD hS => ?_)
  rw [List.nil_append, ls_sh2] at hP hD
  refine lv_astore_n (lv' := [(1, .ref (u1 0)), (0, .ref b)]) hx hb ls_p_7 rfl hl (by decide) rfl (fun ls hl => ?_)
  refine ls_new (cj := 7) hx hb hml hts hown hK2 hN hP hD hS hl.1 (cn_m7 l) cn_c7 ls_i7 rfl (mj_inN (x := 7) (by decide)) (by decide +kernel) ls_m72 ls_k70 ls_n7 (mj_inN (x := 7) (by decide)) (by decide) (by decide) (Nat.le_of_ble_eq_true rfl) (Nat.le_of_ble_eq_true rfl) (Nat.le_of_ble_eq_true rfl) (Nat.le_of_ble_eq_true rfl) ls_p_8 ls_p_11 ls_p_12 (fun u2 H locs hP hD hS => ?_)
  rw [ls_sh7] at hP hD
  refine lv_astore_n (lv' := [(2, .ref (u2 0)), (1, .ref (u1 0)), (0, .ref b)]) hx hb ls_p_15 rfl hl (by decide) rfl (fun ls hl => ?_)
  refine lv_iconst (v := 1) hx hb ls_p_16 (by decide) ?_
  refine va_newa (atype := .long) (ty := .long) (N' := 1) (a0 := (1, .inr (.inl fun _ => 0))) hx hb (hts _ ls_iL) rfl hK hP hD hS (fun _ h => h) (fun _ => rfl) (by decide) rfl (Nat.le_of_ble_eq_true rfl) (Nat.le_of_ble_eq_true rfl) (Nat.le_of_ble_eq_true rfl) ls_p_17 (fun ao cL' H hK9 hP hD hS => ?_)
  have hcL : cL' = cL := by
    have e1 := (hK9.2 3 (cL', .long) rfl).2
    exact Option.some.inj (Eq.trans (Eq.symm e1) hL2)
  subst hcL
  refine lv_astore_n (lv' := [(3, .ref ao), (2, .ref (u2 0)), (1, .ref (u1 0)), (0, .ref b)]) hx hb ls_p_19 rfl hl (by decide) rfl (fun ls hl => ?_)
  refine lv_iconst (v := 0) hx hb ls_p_20 (by decide) ?_
  refine lv_istore (lv' := [(4, .int 0), (3, .ref ao), (2, .ref (u2 0)), (1, .ref (u1 0)), (0, .ref b)]) hx hb ls_p_21 hl (by decide) rfl (fun ls hl => ?_)
  have hDl := ls_l hD
  have hD1 := ls_l hDl
  have hD2 := ls_r hDl
  have i1 : mj_inj u1 81 := by have h := cn_inj hD1; rw [mj_len2] at h; exact h
  have i2 : mj_inj u2 6 := by have h := cn_inj hD2; rw [mj_len1] at h; exact h
  have hao : ([(ao, .inl (cL', 1, .inr (.inl fun _ => (0 : Int64))))] : va_W)[0]? = some (ao, .inl (cL', 1, .inr (.inl fun _ => (0 : Int64)))) := rfl
  have C : ll_C p l s m meth c b L xs D cA cL' u1 u2 ao := by
    refine ⟨⟨hx, ls_t hflags, hb, hml, hr, hlocks, hown, hts, hX, hbl, hL⟩, ⟨hK, ls_X hts0 hf, ls_lN hf⟩, ⟨i1, fun k hk e1 => ?_⟩, i2, fun i j hi hj e1 => ?_, fun j hj e1 => ?_, fun i hi => ?_, fun j hj => ?_, (ls_r hD).2 0 _ hao⟩
    · obtain ⟨e9, h9⟩ := ls_at (cA := cA) (ad := u1) (M := fun _ _ => 0) (Sh := mj_Sh 2) (k := k) (by rw [mj_len2]; exact hk)
      exact ls_app hD (x := (u1 k, e9)) (i := k) (by rw [List.getElem?_append_left (List.getElem?_eq_some_iff.mp h9).1]; exact h9) hao e1
    · obtain ⟨e9, h9⟩ := ls_at (cA := cA) (ad := u1) (M := fun _ _ => 0) (Sh := mj_Sh 2) (k := i) (by rw [mj_len2]; exact hi)
      obtain ⟨e8, h8⟩ := ls_at (cA := cA) (ad := u2) (M := fun _ _ => 0) (Sh := mj_Sh 1) (k := j) (by rw [mj_len1]; exact hj)
      exact ls_app hDl h9 h8 e1
    · obtain ⟨e8, h8⟩ := ls_at (cA := cA) (ad := u2) (M := fun _ _ => 0) (Sh := mj_Sh 1) (k := j) (by rw [mj_len1]; exact hj)
      refine ls_app hD (x := (u2 j, e8)) (i := (mj_w cA u1 (fun _ _ => 0) (mj_Sh 2)).length + j) ?_ hao e1
      rw [List.getElem?_append_right (Nat.le_add_right _ _), Nat.add_sub_cancel_left]; exact h8
    · obtain ⟨e9, h9⟩ := ls_at (cA := cA) (ad := u1) (M := fun _ _ => 0) (Sh := mj_Sh 2) (k := i) (by rw [mj_len2]; exact hi)
      exact hD1.2 i _ h9
    · obtain ⟨e8, h8⟩ := ls_at (cA := cA) (ad := u2) (M := fun _ _ => 0) (Sh := mj_Sh 1) (k := j) (by rw [mj_len1]; exact hj)
      exact hD2.2 j _ h8
  have hP1 : va_P D mj_cl (lh_ws cA u1 ls_Z ao cL' (fun _ => 0)) H := by
    intro k x hx
    rcases lh_cut hx with ⟨h1, h2, -⟩ | ⟨h1, h2⟩
    · exact ls_Pl (ls_Pl hP) k x h2
    · rw [h2]; exact ls_Pr hP 0 _ hao
  have hP2 : va_P D mj_cl (mj_w cA u2 (mj_mm ls_Z ls_Z) (mj_Sh 1)) H := by
    rw [ls_mm]
    exact ls_Pr (ls_Pl hP)
  refine W.widen (k := 100 + 2 * 0) (n := 8000 + 10 * 0) (Nat.le_of_ble_eq_true rfl) (Nat.le_of_ble_eq_true rfl) ?_
  exact ll_loop L C (L + 1) 0 (by omega) (by omega) ls_Z ls_Z ls_Z 0 _ _ ls_Ia ls_CL (by decide) (by omega) (by omega) H _ ls (fun _ => 0) rfl (lv_sub hl [4, 3, 2, 1, 0] rfl) hP1 hP2 hS
end LLZ
