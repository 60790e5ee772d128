-- the law's helpers (written by wip/whole/gen/mk63.py)
theorem lh_cl13 : Cond.classLink RL 13 (mj_E 1) ∈ mj_G := mj_inG (List.mem_of_getElem? (i := 586) (by decide +kernel)) rfl
theorem lh_cl15 : Cond.classLink RL 15 (mj_E 2) ∈ mj_G := mj_inG (List.mem_of_getElem? (i := 587) (by decide +kernel)) rfl
theorem lh_cl21 : Cond.classLink RL 21 (mj_E 0) ∈ mj_G := mj_inG (List.mem_of_getElem? (i := 689) (by decide +kernel)) rfl
theorem lh_vp : vp_in 0 1 := by
  show ¬ ((0 : Int32) < 0 ∨ 1 ≤ (0 : Int32).toNatClampNeg)
  decide
theorem lh_upd (f : Nat → Int64) (x : Int64) : vp_updL f (0 : Int32).toNatClampNeg x 0 = x := by
  simp [vp_updL]
theorem lh_d_room_0 : decode cL_room 0 = .ok (.aload_n 3, 1) := by decide +kernel
theorem lh_d_room_1 : decode cL_room 1 = .ok (.iconst 0, 1) := by decide +kernel
theorem lh_d_room_2 : decode cL_room 2 = .ok (.aload_n 0, 1) := by decide +kernel
theorem lh_d_room_3 : decode cL_room 3 = .ok (.iload_n 1, 1) := by decide +kernel
theorem lh_d_room_4 : decode cL_room 4 = .ok (.iload_n 2, 1) := by decide +kernel
theorem lh_d_room_5 : decode cL_room 5 = .ok (.invokevirtual 7, 3) := by decide +kernel
theorem lh_d_room_8 : decode cL_room 8 = .ok (.i2l, 1) := by decide +kernel
theorem lh_d_room_9 : decode cL_room 9 = .ok (.lastore, 1) := by decide +kernel
theorem lh_d_room_10 : decode cL_room 10 = .ok (.goto (11), 3) := by decide +kernel
theorem lh_d_room_13 : decode cL_room 13 = .ok (.astore 4, 2) := by decide +kernel
theorem lh_d_room_15 : decode cL_room 15 = .ok (.iconst 1, 1) := by decide +kernel
theorem lh_d_room_16 : decode cL_room 16 = .ok (.ireturn, 1) := by decide +kernel
theorem lh_d_room_17 : decode cL_room 17 = .ok (.astore 4, 2) := by decide +kernel
theorem lh_d_room_19 : decode cL_room 19 = .ok (.iconst 2, 1) := by decide +kernel
theorem lh_d_room_20 : decode cL_room 20 = .ok (.ireturn, 1) := by decide +kernel
theorem lh_d_room_21 : decode cL_room 21 = .ok (.iconst 0, 1) := by decide +kernel
theorem lh_d_room_22 : decode cL_room 22 = .ok (.ireturn, 1) := by decide +kernel
abbrev lh_h_room : List (Nat × Nat × Nat × Nat) := [(0, 10, 13, 13), (0, 10, 17, 15)]
def lh_w_room : List Cond := .codeWith yL_room cL_room 5 (some .int) lh_h_room :: mj_G
theorem lh_c_room : Cond.codeWith yL_room cL_room 5 (some .int) lh_h_room ∈ mj_G := mj_inG (List.mem_of_getElem? (i := 585) (by decide +kernel)) rfl
theorem lh_l_room : Cond.methodLink RL 7 (mj_y 63) ∈ mj_G := mj_inG (List.mem_of_getElem? (i := 588) (by decide +kernel)) rfl
set_option maxHeartbeats 4000000 in
set_option maxRecDepth 100000 in
theorem lh_room {a1 a2 : Int32} {M : mj_M} {KK : Int32 → mj_M → Int64 → Prop} {Kc : mj_K} (h : mj_Cm 63 6 [.ref 0, .int a1, .int a2] M Kc) (h0 : ∀ v M', Kc 0 v M' → KK 0 M' v.toInt64) (hh : ∀ e M', Kc (e + 1) 0 M' → (e = 1 ∧ ∀ o, KK 1 M' o) ∨ (e = 2 ∧ ∀ o, KK 2 M' o)) : lh_Cm yL_room lh_w_room 63 6 [.int a1, .int a2] M KK := by
  intro l D cA cL ad ao f sz hlt hi
  refine vx_ofWH (cc := cL_room) (maxL := 5) (ret := some .int) (hh := lh_h_room) (by decide) rfl ?_
  intro p e s m args below meth c s₁ B hml hv
  obtain ⟨hargs, hsz, hP, hK, hX, hN⟩ := hv
  have hx := B.exec
  have hb := B.bytes
  have hr := B.returns
  have hts0 := atoms_spec (ws := lh_w_room) B.pre
  have hts : ∀ w ∈ mj_G, w.before args s = true := fun w hw => hts0 w (List.mem_cons_of_mem _ hw)
  have hown : s.vm.findClass RL = some m.cls := findClass_of_methodNamed B.named
  have hlocks := B.notSynchronized
  have htab := vx_table (x := yL_link) B (hts0 _ List.mem_cons_self)
  subst hsz
  have hargs2 : args = ([.ref (ad 0), .int a1, .int a2, .ref ao] : List Value).toArray := hargs
  clear hargs
  subst hargs2
  have hS : va_S (lh_A ad ao s.heap.size) s.heap s.heap [] := va_S.rf
  have hl := lv_entry ([.ref (ad 0), .int a1, .int a2, .ref ao]) (n := 5) (Nat.le_of_ble_eq_true rfl)
  rw [lg_entry_eq]
  generalize (lg_sl ([.ref (ad 0), .int a1, .int a2, .ref ao]) ++ List.replicate (5 - (lg_sl ([.ref (ad 0), .int a1, .int a2, .ref ao])).length) Slot.unset).toArray = ls at hl ⊢
  have hl : lv_has ls 5 [(0, .ref (ad 0)), (1, .int a1), (2, .int a2), (3, .ref ao)] := hl
  have hK2 : va_K D mj_cl (mj_tys cA) s := hK.sub [0, 1] rfl
  have hcst : ∀ e, e < 3 → (Cond.castable (mj_E e) (mj_E e)).before ([.ref (ad 0), .int a1, .int a2, .ref ao] : List Value).toArray s = true := fun e he => va_Nw.use rfl ((hX rfl).2.2.2.1 e he)
  refine lv_aload_n hx hb lh_d_room_0 rfl (lv_at hl 3 rfl) ?_
  refine lv_iconst (v := 0) hx hb lh_d_room_1 (by decide) ?_
  refine lv_aload_n hx hb lh_d_room_2 rfl (lv_at hl 0 rfl) ?_
  refine lv_iload_n hx hb lh_d_room_3 rfl (lv_at hl 1 rfl) ?_
  refine lv_iload_n hx hb lh_d_room_4 rfl (lv_at hl 2 rfl) ?_
  refine lh_run (as := [.int a1, .int a2]) (rest := [.int 0, .ref ao]) (ad := ad) (lv := 2) (k := 63) (d := 6) (c1 := mj_mc 63) (s1 := 6 * mj_mc 63) (A0 := lh_A ad ao s.heap.size) hx hb hml hl.1 hts hown hlt hi.1 hK2 hX (lh_P1 hP) hS (lh_Asub (Nat.le_refl _)) lh_l_room (by decide) (by decide +kernel) rfl (fun h => by cases h) rfl rfl rfl (Nat.le_of_ble_eq_true rfl) (by show 2 * 6 + 20 + 1 ≤ 2 * 6 + 21; omega) (by show 8 + (mj_n 63 + 11) + (40 * 6 + 300) ≤ 40 * 6 + 340; decide) (by rw [Nat.zero_add]; exact Nat.le_refl _) (by rw [Nat.zero_add]; exact Nat.le_refl _) (Nat.zero_add _) (Nat.zero_add _) lh_d_room_5 h (fun v M' H1 locs1 hv hP1 hz hk hS1 => ?_) (fun e' M' ce q9 H1 locs1 hv hP1 hz hk hS1 hce hcv hcl => ?_)
  · have hP2 := lh_P2 hi hP hP1 hk
    refine lv_i2l (v := v.toInt64) hx hb lh_d_room_8 rfl ?_
    refine va_last hx hb hK hP2 (lh_D hi) hS1 81 2 lh_o rfl (i := 0) (x := v.toInt64) lh_vp lh_d_room_9 (fun H2 locs2 hP3 hD3 hS3 => ?_)
    rw [lh_set] at hP3
    refine lv_goto (tgt := 21) hx hb lh_d_room_10 (by decide) ?_
    refine lv_iconst (v := 0) hx hb lh_d_room_21 (by decide) ?_
    exact vx_ret (W.iret (v := 0) hx hb hr (fun t ht hW => ⟨⟨0, (M', vp_updL f (0 : Int32).toNatClampNeg (v.toInt64)), rfl, by show KK 0 M' (vp_updL f (0 : Int32).toNatClampNeg (v.toInt64) 0); rw [lh_upd]; exact h0 v M' hv, by show va_P D mj_cl (lh_ws cA ad _ ao cL _) t.heap; rw [ht]; exact hP3⟩, hS3.F ht⟩) hS3.2.2 lh_d_room_22)
  · have hP2 := lh_P2 hi hP hP1 hk
    rcases hh e' M' hv with ⟨rfl, hq⟩ | ⟨rfl, hq⟩
    · have hpass : ∀ z ∈ ([] : List ExceptionTableEntry), covers z 5 = false ∨ (z.catchType ≠ 0 ∧ ∃ nm : String, (Cond.classLink RL z.catchType nm).before ([.ref (ad 0), .int a1, .int a2, .ref ao] : List Value).toArray s = true ∧ va_Nc (mj_E 1) nm s) := fun z hz => absurd hz List.not_mem_nil
      refine vx_catch (name := mj_E 1) hown [] ⟨0, 10, 13, 13⟩ [⟨0, 10, 17, 15⟩] (by rw [htab]; rfl) hpass (by decide) (by decide) (hts _ lh_cl13) (hcst 1 (by decide)) hce hcv hcl ?_
      refine lv_astore hx hb lh_d_room_13 hl (by decide) rfl (fun ls2 hl2 => ?_)
      refine lv_iconst (v := 1) hx hb lh_d_room_15 (by decide) ?_
      exact vx_ret (W.iret (v := 1) hx hb hr (fun t ht hW => ⟨⟨1, (M', f), rfl, hq _, by show va_P D mj_cl (lh_ws cA ad _ ao cL _) t.heap; rw [ht]; exact hP2⟩, hS1.F ht⟩) hS1.2.2 lh_d_room_16)
    · have hpass : ∀ z ∈ ([⟨0, 10, 13, 13⟩] : List ExceptionTableEntry), covers z 5 = false ∨ (z.catchType ≠ 0 ∧ ∃ nm : String, (Cond.classLink RL z.catchType nm).before ([.ref (ad 0), .int a1, .int a2, .ref ao] : List Value).toArray s = true ∧ va_Nc (mj_E 2) nm s) := fun z hz => by
        simp only [List.mem_cons, List.not_mem_nil, or_false] at hz
        rcases hz with rfl
        · exact Or.inr ⟨by decide, mj_E 1, hts _ lh_cl13, hN 2 1 (by decide) (by decide) (by decide)⟩
      refine vx_catch (name := mj_E 2) hown [⟨0, 10, 13, 13⟩] ⟨0, 10, 17, 15⟩ [] (by rw [htab]; rfl) hpass (by decide) (by decide) (hts _ lh_cl15) (hcst 2 (by decide)) hce hcv hcl ?_
      refine lv_astore hx hb lh_d_room_17 hl (by decide) rfl (fun ls2 hl2 => ?_)
      refine lv_iconst (v := 2) hx hb lh_d_room_19 (by decide) ?_
      exact vx_ret (W.iret (v := 2) hx hb hr (fun t ht hW => ⟨⟨2, (M', f), rfl, hq _, by show va_P D mj_cl (lh_ws cA ad _ ao cL _) t.heap; rw [ht]; exact hP2⟩, hS1.F ht⟩) hS1.2.2 lh_d_room_20)
theorem lh_d_link_0 : decode cL_link 0 = .ok (.aload 6, 2) := by decide +kernel
theorem lh_d_link_2 : decode cL_link 2 = .ok (.iconst 0, 1) := by decide +kernel
theorem lh_d_link_3 : decode cL_link 3 = .ok (.aload_n 0, 1) := by decide +kernel
theorem lh_d_link_4 : decode cL_link 4 = .ok (.iload_n 1, 1) := by decide +kernel
theorem lh_d_link_5 : decode cL_link 5 = .ok (.iload_n 2, 1) := by decide +kernel
theorem lh_d_link_6 : decode cL_link 6 = .ok (.iload_n 3, 1) := by decide +kernel
theorem lh_d_link_7 : decode cL_link 7 = .ok (.iload 4, 2) := by decide +kernel
theorem lh_d_link_9 : decode cL_link 9 = .ok (.iload 5, 2) := by decide +kernel
theorem lh_d_link_11 : decode cL_link 11 = .ok (.invokevirtual 17, 3) := by decide +kernel
theorem lh_d_link_14 : decode cL_link 14 = .ok (.i2l, 1) := by decide +kernel
theorem lh_d_link_15 : decode cL_link 15 = .ok (.lastore, 1) := by decide +kernel
theorem lh_d_link_16 : decode cL_link 16 = .ok (.goto (15), 3) := by decide +kernel
theorem lh_d_link_19 : decode cL_link 19 = .ok (.astore 7, 2) := by decide +kernel
theorem lh_d_link_21 : decode cL_link 21 = .ok (.iconst 1, 1) := by decide +kernel
theorem lh_d_link_22 : decode cL_link 22 = .ok (.ireturn, 1) := by decide +kernel
theorem lh_d_link_23 : decode cL_link 23 = .ok (.astore 7, 2) := by decide +kernel
theorem lh_d_link_25 : decode cL_link 25 = .ok (.iconst 2, 1) := by decide +kernel
theorem lh_d_link_26 : decode cL_link 26 = .ok (.ireturn, 1) := by decide +kernel
theorem lh_d_link_27 : decode cL_link 27 = .ok (.astore 7, 2) := by decide +kernel
theorem lh_d_link_29 : decode cL_link 29 = .ok (.iconst 3, 1) := by decide +kernel
theorem lh_d_link_30 : decode cL_link 30 = .ok (.ireturn, 1) := by decide +kernel
theorem lh_d_link_31 : decode cL_link 31 = .ok (.iconst 0, 1) := by decide +kernel
theorem lh_d_link_32 : decode cL_link 32 = .ok (.ireturn, 1) := by decide +kernel
abbrev lh_h_link : List (Nat × Nat × Nat × Nat) := [(0, 16, 19, 21), (0, 16, 23, 13), (0, 16, 27, 15)]
def lh_w_link : List Cond := .codeWith yL_link cL_link 8 (some .int) lh_h_link :: mj_G
theorem lh_c_link : Cond.codeWith yL_link cL_link 8 (some .int) lh_h_link ∈ mj_G := mj_inG (List.mem_of_getElem? (i := 688) (by decide +kernel)) rfl
theorem lh_l_link : Cond.methodLink RL 17 (mj_y 64) ∈ mj_G := mj_inG (List.mem_of_getElem? (i := 690) (by decide +kernel)) rfl
set_option maxHeartbeats 4000000 in
set_option maxRecDepth 100000 in
theorem lh_link {a1 a2 a3 a4 a5 : Int32} {M : mj_M} {KK : Int32 → mj_M → Int64 → Prop} {Kc : mj_K} (h : mj_Cm 64 6 [.ref 0, .int a1, .int a2, .int a3, .int a4, .int a5] M Kc) (h0 : ∀ v M', Kc 0 v M' → KK 0 M' v.toInt64) (hh : ∀ e M', Kc (e + 1) 0 M' → (e = 0 ∧ ∀ o, KK 1 M' o) ∨ (e = 1 ∧ ∀ o, KK 2 M' o) ∨ (e = 2 ∧ ∀ o, KK 3 M' o)) : lh_Cm yL_link lh_w_link 64 6 [.int a1, .int a2, .int a3, .int a4, .int a5] M KK := by
  intro l D cA cL ad ao f sz hlt hi
  refine vx_ofWH (cc := cL_link) (maxL := 8) (ret := some .int) (hh := lh_h_link) (by decide) rfl ?_
  intro p e s m args below meth c s₁ B hml hv
  obtain ⟨hargs, hsz, hP, hK, hX, hN⟩ := hv
  have hx := B.exec
  have hb := B.bytes
  have hr := B.returns
  have hts0 := atoms_spec (ws := lh_w_link) B.pre
  have hts : ∀ w ∈ mj_G, w.before args s = true := fun w hw => hts0 w (List.mem_cons_of_mem _ hw)
  have hown : s.vm.findClass RL = some m.cls := findClass_of_methodNamed B.named
  have hlocks := B.notSynchronized
  have htab := vx_table (x := yL_link) B (hts0 _ List.mem_cons_self)
  subst hsz
  have hargs2 : args = ([.ref (ad 0), .int a1, .int a2, .int a3, .int a4, .int a5, .ref ao] : List Value).toArray := hargs
  clear hargs
  subst hargs2
  have hS : va_S (lh_A ad ao s.heap.size) s.heap s.heap [] := va_S.rf
  have hl := lv_entry ([.ref (ad 0), .int a1, .int a2, .int a3, .int a4, .int a5, .ref ao]) (n := 8) (Nat.le_of_ble_eq_true rfl)
  rw [lg_entry_eq]
  generalize (lg_sl ([.ref (ad 0), .int a1, .int a2, .int a3, .int a4, .int a5, .ref ao]) ++ List.replicate (8 - (lg_sl ([.ref (ad 0), .int a1, .int a2, .int a3, .int a4, .int a5, .ref ao])).length) Slot.unset).toArray = ls at hl ⊢
  have hl : lv_has ls 8 [(0, .ref (ad 0)), (1, .int a1), (2, .int a2), (3, .int a3), (4, .int a4), (5, .int a5), (6, .ref ao)] := hl
  have hK2 : va_K D mj_cl (mj_tys cA) s := hK.sub [0, 1] rfl
  have hcst : ∀ e, e < 3 → (Cond.castable (mj_E e) (mj_E e)).before ([.ref (ad 0), .int a1, .int a2, .int a3, .int a4, .int a5, .ref ao] : List Value).toArray s = true := fun e he => va_Nw.use rfl ((hX rfl).2.2.2.1 e he)
  refine lv_aload hx hb lh_d_link_0 (lv_at hl 6 rfl) ?_
  refine lv_iconst (v := 0) hx hb lh_d_link_2 (by decide) ?_
  refine lv_aload_n hx hb lh_d_link_3 rfl (lv_at hl 0 rfl) ?_
  refine lv_iload_n hx hb lh_d_link_4 rfl (lv_at hl 1 rfl) ?_
  refine lv_iload_n hx hb lh_d_link_5 rfl (lv_at hl 2 rfl) ?_
  refine lv_iload_n hx hb lh_d_link_6 rfl (lv_at hl 3 rfl) ?_
  refine lv_iload hx hb lh_d_link_7 (lv_at hl 4 rfl) ?_
  refine lv_iload hx hb lh_d_link_9 (lv_at hl 5 rfl) ?_
  refine lh_run (as := [.int a1, .int a2, .int a3, .int a4, .int a5]) (rest := [.int 0, .ref ao]) (ad := ad) (lv := 2) (k := 64) (d := 6) (c1 := mj_mc 64) (s1 := 6 * mj_mc 64) (A0 := lh_A ad ao s.heap.size) hx hb hml hl.1 hts hown hlt hi.1 hK2 hX (lh_P1 hP) hS (lh_Asub (Nat.le_refl _)) lh_l_link (by decide) (by decide +kernel) rfl (fun h => by cases h) rfl rfl rfl (Nat.le_of_ble_eq_true rfl) (by show 2 * 6 + 20 + 1 ≤ 2 * 6 + 21; omega) (by show 8 + (mj_n 64 + 11) + (40 * 6 + 300) ≤ 40 * 6 + 340; decide) (by rw [Nat.zero_add]; exact Nat.le_refl _) (by rw [Nat.zero_add]; exact Nat.le_refl _) (Nat.zero_add _) (Nat.zero_add _) lh_d_link_11 h (fun v M' H1 locs1 hv hP1 hz hk hS1 => ?_) (fun e' M' ce q9 H1 locs1 hv hP1 hz hk hS1 hce hcv hcl => ?_)
  · have hP2 := lh_P2 hi hP hP1 hk
    refine lv_i2l (v := v.toInt64) hx hb lh_d_link_14 rfl ?_
    refine va_last hx hb hK hP2 (lh_D hi) hS1 81 2 lh_o rfl (i := 0) (x := v.toInt64) lh_vp lh_d_link_15 (fun H2 locs2 hP3 hD3 hS3 => ?_)
    rw [lh_set] at hP3
    refine lv_goto (tgt := 31) hx hb lh_d_link_16 (by decide) ?_
    refine lv_iconst (v := 0) hx hb lh_d_link_31 (by decide) ?_
    exact vx_ret (W.iret (v := 0) hx hb hr (fun t ht hW => ⟨⟨0, (M', vp_updL f (0 : Int32).toNatClampNeg (v.toInt64)), rfl, by show KK 0 M' (vp_updL f (0 : Int32).toNatClampNeg (v.toInt64) 0); rw [lh_upd]; exact h0 v M' hv, by show va_P D mj_cl (lh_ws cA ad _ ao cL _) t.heap; rw [ht]; exact hP3⟩, hS3.F ht⟩) hS3.2.2 lh_d_link_32)
  · have hP2 := lh_P2 hi hP hP1 hk
    rcases hh e' M' hv with ⟨rfl, hq⟩ | ⟨rfl, hq⟩ | ⟨rfl, hq⟩
    · have hpass : ∀ z ∈ ([] : List ExceptionTableEntry), covers z 11 = false ∨ (z.catchType ≠ 0 ∧ ∃ nm : String, (Cond.classLink RL z.catchType nm).before ([.ref (ad 0), .int a1, .int a2, .int a3, .int a4, .int a5, .ref ao] : List Value).toArray s = true ∧ va_Nc (mj_E 0) nm s) := fun z hz => absurd hz List.not_mem_nil
      refine vx_catch (name := mj_E 0) hown [] ⟨0, 16, 19, 21⟩ [⟨0, 16, 23, 13⟩, ⟨0, 16, 27, 15⟩] (by rw [htab]; rfl) hpass (by decide) (by decide) (hts _ lh_cl21) (hcst 0 (by decide)) hce hcv hcl ?_
      refine lv_astore hx hb lh_d_link_19 hl (by decide) rfl (fun ls2 hl2 => ?_)
      refine lv_iconst (v := 1) hx hb lh_d_link_21 (by decide) ?_
      exact vx_ret (W.iret (v := 1) hx hb hr (fun t ht hW => ⟨⟨1, (M', f), rfl, hq _, by show va_P D mj_cl (lh_ws cA ad _ ao cL _) t.heap; rw [ht]; exact hP2⟩, hS1.F ht⟩) hS1.2.2 lh_d_link_22)
    · have hpass : ∀ z ∈ ([⟨0, 16, 19, 21⟩] : List ExceptionTableEntry), covers z 11 = false ∨ (z.catchType ≠ 0 ∧ ∃ nm : String, (Cond.classLink RL z.catchType nm).before ([.ref (ad 0), .int a1, .int a2, .int a3, .int a4, .int a5, .ref ao] : List Value).toArray s = true ∧ va_Nc (mj_E 1) nm s) := fun z hz => by
        simp only [List.mem_cons, List.not_mem_nil, or_false] at hz
        rcases hz with rfl
        · exact Or.inr ⟨by decide, mj_E 0, hts _ lh_cl21, hN 1 0 (by decide) (by decide) (by decide)⟩
      refine vx_catch (name := mj_E 1) hown [⟨0, 16, 19, 21⟩] ⟨0, 16, 23, 13⟩ [⟨0, 16, 27, 15⟩] (by rw [htab]; rfl) hpass (by decide) (by decide) (hts _ lh_cl13) (hcst 1 (by decide)) hce hcv hcl ?_
      refine lv_astore hx hb lh_d_link_23 hl (by decide) rfl (fun ls2 hl2 => ?_)
      refine lv_iconst (v := 2) hx hb lh_d_link_25 (by decide) ?_
      exact vx_ret (W.iret (v := 2) hx hb hr (fun t ht hW => ⟨⟨2, (M', f), rfl, hq _, by show va_P D mj_cl (lh_ws cA ad _ ao cL _) t.heap; rw [ht]; exact hP2⟩, hS1.F ht⟩) hS1.2.2 lh_d_link_26)
    · have hpass : ∀ z ∈ ([⟨0, 16, 19, 21⟩, ⟨0, 16, 23, 13⟩] : List ExceptionTableEntry), covers z 11 = false ∨ (z.catchType ≠ 0 ∧ ∃ nm : String, (Cond.classLink RL z.catchType nm).before ([.ref (ad 0), .int a1, .int a2, .int a3, .int a4, .int a5, .ref ao] : List Value).toArray s = true ∧ va_Nc (mj_E 2) nm s) := fun z hz => by
        simp only [List.mem_cons, List.not_mem_nil, or_false] at hz
        rcases hz with rfl | rfl
        · exact Or.inr ⟨by decide, mj_E 0, hts _ lh_cl21, hN 2 0 (by decide) (by decide) (by decide)⟩
        · exact Or.inr ⟨by decide, mj_E 1, hts _ lh_cl13, hN 2 1 (by decide) (by decide) (by decide)⟩
      refine vx_catch (name := mj_E 2) hown [⟨0, 16, 19, 21⟩, ⟨0, 16, 23, 13⟩] ⟨0, 16, 27, 15⟩ [] (by rw [htab]; rfl) hpass (by decide) (by decide) (hts _ lh_cl15) (hcst 2 (by decide)) hce hcv hcl ?_
      refine lv_astore hx hb lh_d_link_27 hl (by decide) rfl (fun ls2 hl2 => ?_)
      refine lv_iconst (v := 3) hx hb lh_d_link_29 (by decide) ?_
      exact vx_ret (W.iret (v := 3) hx hb hr (fun t ht hW => ⟨⟨3, (M', f), rfl, hq _, by show va_P D mj_cl (lh_ws cA ad _ ao cL _) t.heap; rw [ht]; exact hP2⟩, hS1.F ht⟩) hS1.2.2 lh_d_link_30)
theorem lh_d_close_0 : decode cL_close 0 = .ok (.aload_n 3, 1) := by decide +kernel
theorem lh_d_close_1 : decode cL_close 1 = .ok (.iconst 0, 1) := by decide +kernel
theorem lh_d_close_2 : decode cL_close 2 = .ok (.aload_n 0, 1) := by decide +kernel
theorem lh_d_close_3 : decode cL_close 3 = .ok (.iload_n 1, 1) := by decide +kernel
theorem lh_d_close_4 : decode cL_close 4 = .ok (.iload_n 2, 1) := by decide +kernel
theorem lh_d_close_5 : decode cL_close 5 = .ok (.invokevirtual 23, 3) := by decide +kernel
theorem lh_d_close_8 : decode cL_close 8 = .ok (.ifCond .eq (7), 3) := by decide +kernel
theorem lh_d_close_11 : decode cL_close 11 = .ok (.lconst 1, 1) := by decide +kernel
theorem lh_d_close_12 : decode cL_close 12 = .ok (.goto (4), 3) := by decide +kernel
theorem lh_d_close_15 : decode cL_close 15 = .ok (.lconst 0, 1) := by decide +kernel
theorem lh_d_close_16 : decode cL_close 16 = .ok (.lastore, 1) := by decide +kernel
theorem lh_d_close_17 : decode cL_close 17 = .ok (.goto (7), 3) := by decide +kernel
theorem lh_d_close_20 : decode cL_close 20 = .ok (.astore 4, 2) := by decide +kernel
theorem lh_d_close_22 : decode cL_close 22 = .ok (.iconst 1, 1) := by decide +kernel
theorem lh_d_close_23 : decode cL_close 23 = .ok (.ireturn, 1) := by decide +kernel
theorem lh_d_close_24 : decode cL_close 24 = .ok (.iconst 0, 1) := by decide +kernel
theorem lh_d_close_25 : decode cL_close 25 = .ok (.ireturn, 1) := by decide +kernel
abbrev lh_h_close : List (Nat × Nat × Nat × Nat) := [(0, 17, 20, 21)]
def lh_w_close : List Cond := .codeWith yL_close cL_close 5 (some .int) lh_h_close :: mj_G
theorem lh_c_close : Cond.codeWith yL_close cL_close 5 (some .int) lh_h_close ∈ mj_G := mj_inG (List.mem_of_getElem? (i := 725) (by decide +kernel)) rfl
theorem lh_l_close : Cond.methodLink RL 23 (mj_y 65) ∈ mj_G := mj_inG (List.mem_of_getElem? (i := 726) (by decide +kernel)) rfl
set_option maxHeartbeats 4000000 in
set_option maxRecDepth 100000 in
theorem lh_close {a1 a2 : Int32} {M : mj_M} {KK : Int32 → mj_M → Int64 → Prop} {Kc : mj_K} (h : mj_Cm 65 6 [.ref 0, .int a1, .int a2] M Kc) (h0 : ∀ v M', Kc 0 v M' → KK 0 M' (if v = 0 then 0 else 1)) (hh : ∀ e M', Kc (e + 1) 0 M' → (e = 0 ∧ ∀ o, KK 1 M' o)) : lh_Cm yL_close lh_w_close 65 6 [.int a1, .int a2] M KK := by
  intro l D cA cL ad ao f sz hlt hi
  refine vx_ofWH (cc := cL_close) (maxL := 5) (ret := some .int) (hh := lh_h_close) (by decide) rfl ?_
  intro p e s m args below meth c s₁ B hml hv
  obtain ⟨hargs, hsz, hP, hK, hX, hN⟩ := hv
  have hx := B.exec
  have hb := B.bytes
  have hr := B.returns
  have hts0 := atoms_spec (ws := lh_w_close) B.pre
  have hts : ∀ w ∈ mj_G, w.before args s = true := fun w hw => hts0 w (List.mem_cons_of_mem _ hw)
  have hown : s.vm.findClass RL = some m.cls := findClass_of_methodNamed B.named
  have hlocks := B.notSynchronized
  have htab := vx_table (x := yL_link) B (hts0 _ List.mem_cons_self)
  subst hsz
  have hargs2 : args = ([.ref (ad 0), .int a1, .int a2, .ref ao] : List Value).toArray := hargs
  clear hargs
  subst hargs2
  have hS : va_S (lh_A ad ao s.heap.size) s.heap s.heap [] := va_S.rf
  have hl := lv_entry ([.ref (ad 0), .int a1, .int a2, .ref ao]) (n := 5) (Nat.le_of_ble_eq_true rfl)
  rw [lg_entry_eq]
  generalize (lg_sl ([.ref (ad 0), .int a1, .int a2, .ref ao]) ++ List.replicate (5 - (lg_sl ([.ref (ad 0), .int a1, .int a2, .ref ao])).length) Slot.unset).toArray = ls at hl ⊢
  have hl : lv_has ls 5 [(0, .ref (ad 0)), (1, .int a1), (2, .int a2), (3, .ref ao)] := hl
  have hK2 : va_K D mj_cl (mj_tys cA) s := hK.sub [0, 1] rfl
  have hcst : ∀ e, e < 3 → (Cond.castable (mj_E e) (mj_E e)).before ([.ref (ad 0), .int a1, .int a2, .ref ao] : List Value).toArray s = true := fun e he => va_Nw.use rfl ((hX rfl).2.2.2.1 e he)
  refine lv_aload_n hx hb lh_d_close_0 rfl (lv_at hl 3 rfl) ?_
  refine lv_iconst (v := 0) hx hb lh_d_close_1 (by decide) ?_
  refine lv_aload_n hx hb lh_d_close_2 rfl (lv_at hl 0 rfl) ?_
  refine lv_iload_n hx hb lh_d_close_3 rfl (lv_at hl 1 rfl) ?_
  refine lv_iload_n hx hb lh_d_close_4 rfl (lv_at hl 2 rfl) ?_
  refine lh_run (as := [.int a1, .int a2]) (rest := [.int 0, .ref ao]) (ad := ad) (lv := 2) (k := 65) (d := 6) (c1 := mj_mc 65) (s1 := 6 * mj_mc 65) (A0 := lh_A ad ao s.heap.size) hx hb hml hl.1 hts hown hlt hi.1 hK2 hX (lh_P1 hP) hS (lh_Asub (Nat.le_refl _)) lh_l_close (by decide) (by decide +kernel) rfl (fun h => by cases h) rfl rfl rfl (Nat.le_of_ble_eq_true rfl) (by show 2 * 6 + 20 + 1 ≤ 2 * 6 + 21; omega) (by show 8 + (mj_n 65 + 11) + (40 * 6 + 300) ≤ 40 * 6 + 340; decide) (by rw [Nat.zero_add]; exact Nat.le_refl _) (by rw [Nat.zero_add]; exact Nat.le_refl _) (Nat.zero_add _) (Nat.zero_add _) lh_d_close_5 h (fun v M' H1 locs1 hv hP1 hz hk hS1 => ?_) (fun e' M' ce q9 H1 locs1 hv hP1 hz hk hS1 hce hcv hcl => ?_)
  · have hP2 := lh_P2 hi hP hP1 hk
    refine lv_if_eq (tgt := 15) hx hb lh_d_close_8 (by decide) (fun hc0 => ?_) (fun hc0 => ?_)
    · refine lv_lconst (v := 0) hx hb lh_d_close_15 rfl ?_
      refine va_last hx hb hK hP2 (lh_D hi) hS1 81 2 lh_o rfl (i := 0) (x := (0 : Int64)) lh_vp lh_d_close_16 (fun H2 locs2 hP3 hD3 hS3 => ?_)
      rw [lh_set] at hP3
      refine lv_goto (tgt := 24) hx hb lh_d_close_17 (by decide) ?_
      refine lv_iconst (v := 0) hx hb lh_d_close_24 (by decide) ?_
      exact vx_ret (W.iret (v := 0) hx hb hr (fun t ht hW => ⟨⟨0, (M', vp_updL f (0 : Int32).toNatClampNeg ((0 : Int64))), rfl, by show KK 0 M' (vp_updL f (0 : Int32).toNatClampNeg ((0 : Int64)) 0); rw [lh_upd]; exact by have := h0 v M' hv; rw [if_pos hc0] at this; exact this, by show va_P D mj_cl (lh_ws cA ad _ ao cL _) t.heap; rw [ht]; exact hP3⟩, hS3.F ht⟩) hS3.2.2 lh_d_close_25)
    · refine lv_lconst (v := 1) hx hb lh_d_close_11 rfl ?_
      refine lv_goto (tgt := 16) hx hb lh_d_close_12 (by decide) ?_
      refine va_last hx hb hK hP2 (lh_D hi) hS1 81 2 lh_o rfl (i := 0) (x := (1 : Int64)) lh_vp lh_d_close_16 (fun H2 locs2 hP3 hD3 hS3 => ?_)
      rw [lh_set] at hP3
      refine lv_goto (tgt := 24) hx hb lh_d_close_17 (by decide) ?_
      refine lv_iconst (v := 0) hx hb lh_d_close_24 (by decide) ?_
      exact vx_ret (W.iret (v := 0) hx hb hr (fun t ht hW => ⟨⟨0, (M', vp_updL f (0 : Int32).toNatClampNeg ((1 : Int64))), rfl, by show KK 0 M' (vp_updL f (0 : Int32).toNatClampNeg ((1 : Int64)) 0); rw [lh_upd]; exact by have := h0 v M' hv; rw [if_neg hc0] at this; exact this, by show va_P D mj_cl (lh_ws cA ad _ ao cL _) t.heap; rw [ht]; exact hP3⟩, hS3.F ht⟩) hS3.2.2 lh_d_close_25)
  · have hP2 := lh_P2 hi hP hP1 hk
    rcases hh e' M' hv with ⟨rfl, hq⟩
    · have hpass : ∀ z ∈ ([] : List ExceptionTableEntry), covers z 5 = false ∨ (z.catchType ≠ 0 ∧ ∃ nm : String, (Cond.classLink RL z.catchType nm).before ([.ref (ad 0), .int a1, .int a2, .ref ao] : List Value).toArray s = true ∧ va_Nc (mj_E 0) nm s) := fun z hz => absurd hz List.not_mem_nil
      refine vx_catch (name := mj_E 0) hown [] ⟨0, 17, 20, 21⟩ [] (by rw [htab]; rfl) hpass (by decide) (by decide) (hts _ lh_cl21) (hcst 0 (by decide)) hce hcv hcl ?_
      refine lv_astore hx hb lh_d_close_20 hl (by decide) rfl (fun ls2 hl2 => ?_)
      refine lv_iconst (v := 1) hx hb lh_d_close_22 (by decide) ?_
      exact vx_ret (W.iret (v := 1) hx hb hr (fun t ht hW => ⟨⟨1, (M', f), rfl, hq _, by show va_P D mj_cl (lh_ws cA ad _ ao cL _) t.heap; rw [ht]; exact hP2⟩, hS1.F ht⟩) hS1.2.2 lh_d_close_23)
theorem lh_d_turn_0 : decode cL_turn 0 = .ok (.aload_n 2, 1) := by decide +kernel
theorem lh_d_turn_1 : decode cL_turn 1 = .ok (.iconst 0, 1) := by decide +kernel
theorem lh_d_turn_2 : decode cL_turn 2 = .ok (.aload_n 0, 1) := by decide +kernel
theorem lh_d_turn_3 : decode cL_turn 3 = .ok (.iload_n 1, 1) := by decide +kernel
theorem lh_d_turn_4 : decode cL_turn 4 = .ok (.invokevirtual 27, 3) := by decide +kernel
theorem lh_d_turn_7 : decode cL_turn 7 = .ok (.ifCond .eq (7), 3) := by decide +kernel
theorem lh_d_turn_10 : decode cL_turn 10 = .ok (.lconst 1, 1) := by decide +kernel
theorem lh_d_turn_11 : decode cL_turn 11 = .ok (.goto (4), 3) := by decide +kernel
theorem lh_d_turn_14 : decode cL_turn 14 = .ok (.lconst 0, 1) := by decide +kernel
theorem lh_d_turn_15 : decode cL_turn 15 = .ok (.lastore, 1) := by decide +kernel
theorem lh_d_turn_16 : decode cL_turn 16 = .ok (.goto (9), 3) := by decide +kernel
theorem lh_d_turn_19 : decode cL_turn 19 = .ok (.astore_n 3, 1) := by decide +kernel
theorem lh_d_turn_20 : decode cL_turn 20 = .ok (.iconst 1, 1) := by decide +kernel
theorem lh_d_turn_21 : decode cL_turn 21 = .ok (.ireturn, 1) := by decide +kernel
theorem lh_d_turn_22 : decode cL_turn 22 = .ok (.astore_n 3, 1) := by decide +kernel
theorem lh_d_turn_23 : decode cL_turn 23 = .ok (.iconst 2, 1) := by decide +kernel
theorem lh_d_turn_24 : decode cL_turn 24 = .ok (.ireturn, 1) := by decide +kernel
theorem lh_d_turn_25 : decode cL_turn 25 = .ok (.iconst 0, 1) := by decide +kernel
theorem lh_d_turn_26 : decode cL_turn 26 = .ok (.ireturn, 1) := by decide +kernel
abbrev lh_h_turn : List (Nat × Nat × Nat × Nat) := [(0, 16, 19, 21), (0, 16, 22, 13)]
def lh_w_turn : List Cond := .codeWith yL_turn cL_turn 4 (some .int) lh_h_turn :: mj_G
theorem lh_c_turn : Cond.codeWith yL_turn cL_turn 4 (some .int) lh_h_turn ∈ mj_G := mj_inG (List.mem_of_getElem? (i := 738) (by decide +kernel)) rfl
theorem lh_l_turn : Cond.methodLink RL 27 (mj_y 67) ∈ mj_G := mj_inG (List.mem_of_getElem? (i := 739) (by decide +kernel)) rfl
set_option maxHeartbeats 4000000 in
set_option maxRecDepth 100000 in
theorem lh_turn {a1 : Int32} {M : mj_M} {KK : Int32 → mj_M → Int64 → Prop} {Kc : mj_K} (h : mj_Cm 67 6 [.ref 0, .int a1] M Kc) (h0 : ∀ v M', Kc 0 v M' → KK 0 M' (if v = 0 then 0 else 1)) (hh : ∀ e M', Kc (e + 1) 0 M' → (e = 0 ∧ ∀ o, KK 1 M' o) ∨ (e = 1 ∧ ∀ o, KK 2 M' o)) : lh_Cm yL_turn lh_w_turn 67 6 [.int a1] M KK := by
  intro l D cA cL ad ao f sz hlt hi
  refine vx_ofWH (cc := cL_turn) (maxL := 4) (ret := some .int) (hh := lh_h_turn) (by decide) rfl ?_
  intro p e s m args below meth c s₁ B hml hv
  obtain ⟨hargs, hsz, hP, hK, hX, hN⟩ := hv
  have hx := B.exec
  have hb := B.bytes
  have hr := B.returns
  have hts0 := atoms_spec (ws := lh_w_turn) B.pre
  have hts : ∀ w ∈ mj_G, w.before args s = true := fun w hw => hts0 w (List.mem_cons_of_mem _ hw)
  have hown : s.vm.findClass RL = some m.cls := findClass_of_methodNamed B.named
  have hlocks := B.notSynchronized
  have htab := vx_table (x := yL_link) B (hts0 _ List.mem_cons_self)
  subst hsz
  have hargs2 : args = ([.ref (ad 0), .int a1, .ref ao] : List Value).toArray := hargs
  clear hargs
  subst hargs2
  have hS : va_S (lh_A ad ao s.heap.size) s.heap s.heap [] := va_S.rf
  have hl := lv_entry ([.ref (ad 0), .int a1, .ref ao]) (n := 4) (Nat.le_of_ble_eq_true rfl)
  rw [lg_entry_eq]
  generalize (lg_sl ([.ref (ad 0), .int a1, .ref ao]) ++ List.replicate (4 - (lg_sl ([.ref (ad 0), .int a1, .ref ao])).length) Slot.unset).toArray = ls at hl ⊢
  have hl : lv_has ls 4 [(0, .ref (ad 0)), (1, .int a1), (2, .ref ao)] := hl
  have hK2 : va_K D mj_cl (mj_tys cA) s := hK.sub [0, 1] rfl
  have hcst : ∀ e, e < 3 → (Cond.castable (mj_E e) (mj_E e)).before ([.ref (ad 0), .int a1, .ref ao] : List Value).toArray s = true := fun e he => va_Nw.use rfl ((hX rfl).2.2.2.1 e he)
  refine lv_aload_n hx hb lh_d_turn_0 rfl (lv_at hl 2 rfl) ?_
  refine lv_iconst (v := 0) hx hb lh_d_turn_1 (by decide) ?_
  refine lv_aload_n hx hb lh_d_turn_2 rfl (lv_at hl 0 rfl) ?_
  refine lv_iload_n hx hb lh_d_turn_3 rfl (lv_at hl 1 rfl) ?_
  refine lh_run (as := [.int a1]) (rest := [.int 0, .ref ao]) (ad := ad) (lv := 2) (k := 67) (d := 6) (c1 := mj_mc 67) (s1 := 6 * mj_mc 67) (A0 := lh_A ad ao s.heap.size) hx hb hml hl.1 hts hown hlt hi.1 hK2 hX (lh_P1 hP) hS (lh_Asub (Nat.le_refl _)) lh_l_turn (by decide) (by decide +kernel) rfl (fun h => by cases h) rfl rfl rfl (Nat.le_of_ble_eq_true rfl) (by show 2 * 6 + 20 + 1 ≤ 2 * 6 + 21; omega) (by show 8 + (mj_n 67 + 11) + (40 * 6 + 300) ≤ 40 * 6 + 340; decide) (by rw [Nat.zero_add]; exact Nat.le_refl _) (by rw [Nat.zero_add]; exact Nat.le_refl _) (Nat.zero_add _) (Nat.zero_add _) lh_d_turn_4 h (fun v M' H1 locs1 hv hP1 hz hk hS1 => ?_) (fun e' M' ce q9 H1 locs1 hv hP1 hz hk hS1 hce hcv hcl => ?_)
  · have hP2 := lh_P2 hi hP hP1 hk
    refine lv_if_eq (tgt := 14) hx hb lh_d_turn_7 (by decide) (fun hc0 => ?_) (fun hc0 => ?_)
    · refine lv_lconst (v := 0) hx hb lh_d_turn_14 rfl ?_
      refine va_last hx hb hK hP2 (lh_D hi) hS1 81 2 lh_o rfl (i := 0) (x := (0 : Int64)) lh_vp lh_d_turn_15 (fun H2 locs2 hP3 hD3 hS3 => ?_)
      rw [lh_set] at hP3
      refine lv_goto (tgt := 25) hx hb lh_d_turn_16 (by decide) ?_
      refine lv_iconst (v := 0) hx hb lh_d_turn_25 (by decide) ?_
      exact vx_ret (W.iret (v := 0) hx hb hr (fun t ht hW => ⟨⟨0, (M', vp_updL f (0 : Int32).toNatClampNeg ((0 : Int64))), rfl, by show KK 0 M' (vp_updL f (0 : Int32).toNatClampNeg ((0 : Int64)) 0); rw [lh_upd]; exact by have := h0 v M' hv; rw [if_pos hc0] at this; exact this, by show va_P D mj_cl (lh_ws cA ad _ ao cL _) t.heap; rw [ht]; exact hP3⟩, hS3.F ht⟩) hS3.2.2 lh_d_turn_26)
    · refine lv_lconst (v := 1) hx hb lh_d_turn_10 rfl ?_
      refine lv_goto (tgt := 15) hx hb lh_d_turn_11 (by decide) ?_
      refine va_last hx hb hK hP2 (lh_D hi) hS1 81 2 lh_o rfl (i := 0) (x := (1 : Int64)) lh_vp lh_d_turn_15 (fun H2 locs2 hP3 hD3 hS3 => ?_)
      rw [lh_set] at hP3
      refine lv_goto (tgt := 25) hx hb lh_d_turn_16 (by decide) ?_
      refine lv_iconst (v := 0) hx hb lh_d_turn_25 (by decide) ?_
      exact vx_ret (W.iret (v := 0) hx hb hr (fun t ht hW => ⟨⟨0, (M', vp_updL f (0 : Int32).toNatClampNeg ((1 : Int64))), rfl, by show KK 0 M' (vp_updL f (0 : Int32).toNatClampNeg ((1 : Int64)) 0); rw [lh_upd]; exact by have := h0 v M' hv; rw [if_neg hc0] at this; exact this, by show va_P D mj_cl (lh_ws cA ad _ ao cL _) t.heap; rw [ht]; exact hP3⟩, hS3.F ht⟩) hS3.2.2 lh_d_turn_26)
  · have hP2 := lh_P2 hi hP hP1 hk
    rcases hh e' M' hv with ⟨rfl, hq⟩ | ⟨rfl, hq⟩
    · have hpass : ∀ z ∈ ([] : List ExceptionTableEntry), covers z 4 = false ∨ (z.catchType ≠ 0 ∧ ∃ nm : String, (Cond.classLink RL z.catchType nm).before ([.ref (ad 0), .int a1, .ref ao] : List Value).toArray s = true ∧ va_Nc (mj_E 0) nm s) := fun z hz => absurd hz List.not_mem_nil
      refine vx_catch (name := mj_E 0) hown [] ⟨0, 16, 19, 21⟩ [⟨0, 16, 22, 13⟩] (by rw [htab]; rfl) hpass (by decide) (by decide) (hts _ lh_cl21) (hcst 0 (by decide)) hce hcv hcl ?_
      refine lv_astore_n hx hb lh_d_turn_19 rfl hl (by decide) rfl (fun ls2 hl2 => ?_)
      refine lv_iconst (v := 1) hx hb lh_d_turn_20 (by decide) ?_
      exact vx_ret (W.iret (v := 1) hx hb hr (fun t ht hW => ⟨⟨1, (M', f), rfl, hq _, by show va_P D mj_cl (lh_ws cA ad _ ao cL _) t.heap; rw [ht]; exact hP2⟩, hS1.F ht⟩) hS1.2.2 lh_d_turn_21)
    · have hpass : ∀ z ∈ ([⟨0, 16, 19, 21⟩] : List ExceptionTableEntry), covers z 4 = false ∨ (z.catchType ≠ 0 ∧ ∃ nm : String, (Cond.classLink RL z.catchType nm).before ([.ref (ad 0), .int a1, .ref ao] : List Value).toArray s = true ∧ va_Nc (mj_E 1) nm s) := fun z hz => by
        simp only [List.mem_cons, List.not_mem_nil, or_false] at hz
        rcases hz with rfl
        · exact Or.inr ⟨by decide, mj_E 0, hts _ lh_cl21, hN 1 0 (by decide) (by decide) (by decide)⟩
      refine vx_catch (name := mj_E 1) hown [⟨0, 16, 19, 21⟩] ⟨0, 16, 22, 13⟩ [] (by rw [htab]; rfl) hpass (by decide) (by decide) (hts _ lh_cl13) (hcst 1 (by decide)) hce hcv hcl ?_
      refine lv_astore_n hx hb lh_d_turn_22 rfl hl (by decide) rfl (fun ls2 hl2 => ?_)
      refine lv_iconst (v := 2) hx hb lh_d_turn_23 (by decide) ?_
      exact vx_ret (W.iret (v := 2) hx hb hr (fun t ht hW => ⟨⟨2, (M', f), rfl, hq _, by show va_P D mj_cl (lh_ws cA ad _ ao cL _) t.heap; rw [ht]; exact hP2⟩, hS1.F ht⟩) hS1.2.2 lh_d_turn_24)
theorem lh_d_stop_0 : decode cL_stop 0 = .ok (.aload_n 3, 1) := by decide +kernel
theorem lh_d_stop_1 : decode cL_stop 1 = .ok (.iconst 0, 1) := by decide +kernel
theorem lh_d_stop_2 : decode cL_stop 2 = .ok (.aload_n 0, 1) := by decide +kernel
theorem lh_d_stop_3 : decode cL_stop 3 = .ok (.iload_n 1, 1) := by decide +kernel
theorem lh_d_stop_4 : decode cL_stop 4 = .ok (.iload_n 2, 1) := by decide +kernel
theorem lh_d_stop_5 : decode cL_stop 5 = .ok (.invokevirtual 31, 3) := by decide +kernel
theorem lh_d_stop_8 : decode cL_stop 8 = .ok (.ifCond .eq (7), 3) := by decide +kernel
theorem lh_d_stop_11 : decode cL_stop 11 = .ok (.lconst 1, 1) := by decide +kernel
theorem lh_d_stop_12 : decode cL_stop 12 = .ok (.goto (4), 3) := by decide +kernel
theorem lh_d_stop_15 : decode cL_stop 15 = .ok (.lconst 0, 1) := by decide +kernel
theorem lh_d_stop_16 : decode cL_stop 16 = .ok (.lastore, 1) := by decide +kernel
theorem lh_d_stop_17 : decode cL_stop 17 = .ok (.goto (11), 3) := by decide +kernel
theorem lh_d_stop_20 : decode cL_stop 20 = .ok (.astore 4, 2) := by decide +kernel
theorem lh_d_stop_22 : decode cL_stop 22 = .ok (.iconst 1, 1) := by decide +kernel
theorem lh_d_stop_23 : decode cL_stop 23 = .ok (.ireturn, 1) := by decide +kernel
theorem lh_d_stop_24 : decode cL_stop 24 = .ok (.astore 4, 2) := by decide +kernel
theorem lh_d_stop_26 : decode cL_stop 26 = .ok (.iconst 2, 1) := by decide +kernel
theorem lh_d_stop_27 : decode cL_stop 27 = .ok (.ireturn, 1) := by decide +kernel
theorem lh_d_stop_28 : decode cL_stop 28 = .ok (.iconst 0, 1) := by decide +kernel
theorem lh_d_stop_29 : decode cL_stop 29 = .ok (.ireturn, 1) := by decide +kernel
abbrev lh_h_stop : List (Nat × Nat × Nat × Nat) := [(0, 17, 20, 21), (0, 17, 24, 13)]
def lh_w_stop : List Cond := .codeWith yL_stop cL_stop 5 (some .int) lh_h_stop :: mj_G
theorem lh_c_stop : Cond.codeWith yL_stop cL_stop 5 (some .int) lh_h_stop ∈ mj_G := mj_inG (List.mem_of_getElem? (i := 745) (by decide +kernel)) rfl
theorem lh_l_stop : Cond.methodLink RL 31 (mj_y 68) ∈ mj_G := mj_inG (List.mem_of_getElem? (i := 746) (by decide +kernel)) rfl
set_option maxHeartbeats 4000000 in
set_option maxRecDepth 100000 in
theorem lh_stop {a1 a2 : Int32} {M : mj_M} {KK : Int32 → mj_M → Int64 → Prop} {Kc : mj_K} (h : mj_Cm 68 6 [.ref 0, .int a1, .int a2] M Kc) (h0 : ∀ v M', Kc 0 v M' → KK 0 M' (if v = 0 then 0 else 1)) (hh : ∀ e M', Kc (e + 1) 0 M' → (e = 0 ∧ ∀ o, KK 1 M' o) ∨ (e = 1 ∧ ∀ o, KK 2 M' o)) : lh_Cm yL_stop lh_w_stop 68 6 [.int a1, .int a2] M KK := by
  intro l D cA cL ad ao f sz hlt hi
  refine vx_ofWH (cc := cL_stop) (maxL := 5) (ret := some .int) (hh := lh_h_stop) (by decide) rfl ?_
  intro p e s m args below meth c s₁ B hml hv
  obtain ⟨hargs, hsz, hP, hK, hX, hN⟩ := hv
  have hx := B.exec
  have hb := B.bytes
  have hr := B.returns
  have hts0 := atoms_spec (ws := lh_w_stop) B.pre
  have hts : ∀ w ∈ mj_G, w.before args s = true := fun w hw => hts0 w (List.mem_cons_of_mem _ hw)
  have hown : s.vm.findClass RL = some m.cls := findClass_of_methodNamed B.named
  have hlocks := B.notSynchronized
  have htab := vx_table (x := yL_link) B (hts0 _ List.mem_cons_self)
  subst hsz
  have hargs2 : args = ([.ref (ad 0), .int a1, .int a2, .ref ao] : List Value).toArray := hargs
  clear hargs
  subst hargs2
  have hS : va_S (lh_A ad ao s.heap.size) s.heap s.heap [] := va_S.rf
  have hl := lv_entry ([.ref (ad 0), .int a1, .int a2, .ref ao]) (n := 5) (Nat.le_of_ble_eq_true rfl)
  rw [lg_entry_eq]
  generalize (lg_sl ([.ref (ad 0), .int a1, .int a2, .ref ao]) ++ List.replicate (5 - (lg_sl ([.ref (ad 0), .int a1, .int a2, .ref ao])).length) Slot.unset).toArray = ls at hl ⊢
  have hl : lv_has ls 5 [(0, .ref (ad 0)), (1, .int a1), (2, .int a2), (3, .ref ao)] := hl
  have hK2 : va_K D mj_cl (mj_tys cA) s := hK.sub [0, 1] rfl
  have hcst : ∀ e, e < 3 → (Cond.castable (mj_E e) (mj_E e)).before ([.ref (ad 0), .int a1, .int a2, .ref ao] : List Value).toArray s = true := fun e he => va_Nw.use rfl ((hX rfl).2.2.2.1 e he)
  refine lv_aload_n hx hb lh_d_stop_0 rfl (lv_at hl 3 rfl) ?_
  refine lv_iconst (v := 0) hx hb lh_d_stop_1 (by decide) ?_
  refine lv_aload_n hx hb lh_d_stop_2 rfl (lv_at hl 0 rfl) ?_
  refine lv_iload_n hx hb lh_d_stop_3 rfl (lv_at hl 1 rfl) ?_
  refine lv_iload_n hx hb lh_d_stop_4 rfl (lv_at hl 2 rfl) ?_
  refine lh_run (as := [.int a1, .int a2]) (rest := [.int 0, .ref ao]) (ad := ad) (lv := 2) (k := 68) (d := 6) (c1 := mj_mc 68) (s1 := 6 * mj_mc 68) (A0 := lh_A ad ao s.heap.size) hx hb hml hl.1 hts hown hlt hi.1 hK2 hX (lh_P1 hP) hS (lh_Asub (Nat.le_refl _)) lh_l_stop (by decide) (by decide +kernel) rfl (fun h => by cases h) rfl rfl rfl (Nat.le_of_ble_eq_true rfl) (by show 2 * 6 + 20 + 1 ≤ 2 * 6 + 21; omega) (by show 8 + (mj_n 68 + 11) + (40 * 6 + 300) ≤ 40 * 6 + 340; decide) (by rw [Nat.zero_add]; exact Nat.le_refl _) (by rw [Nat.zero_add]; exact Nat.le_refl _) (Nat.zero_add _) (Nat.zero_add _) lh_d_stop_5 h (fun v M' H1 locs1 hv hP1 hz hk hS1 => ?_) (fun e' M' ce q9 H1 locs1 hv hP1 hz hk hS1 hce hcv hcl => ?_)
  · have hP2 := lh_P2 hi hP hP1 hk
    refine lv_if_eq (tgt := 15) hx hb lh_d_stop_8 (by decide) (fun hc0 => ?_) (fun hc0 => ?_)
    · refine lv_lconst (v := 0) hx hb lh_d_stop_15 rfl ?_
      refine va_last hx hb hK hP2 (lh_D hi) hS1 81 2 lh_o rfl (i := 0) (x := (0 : Int64)) lh_vp lh_d_stop_16 (fun H2 locs2 hP3 hD3 hS3 => ?_)
      rw [lh_set] at hP3
      refine lv_goto (tgt := 28) hx hb lh_d_stop_17 (by decide) ?_
      refine lv_iconst (v := 0) hx hb lh_d_stop_28 (by decide) ?_
      exact vx_ret (W.iret (v := 0) hx hb hr (fun t ht hW => ⟨⟨0, (M', vp_updL f (0 : Int32).toNatClampNeg ((0 : Int64))), rfl, by show KK 0 M' (vp_updL f (0 : Int32).toNatClampNeg ((0 : Int64)) 0); rw [lh_upd]; exact by have := h0 v M' hv; rw [if_pos hc0] at this; exact this, by show va_P D mj_cl (lh_ws cA ad _ ao cL _) t.heap; rw [ht]; exact hP3⟩, hS3.F ht⟩) hS3.2.2 lh_d_stop_29)
    · refine lv_lconst (v := 1) hx hb lh_d_stop_11 rfl ?_
      refine lv_goto (tgt := 16) hx hb lh_d_stop_12 (by decide) ?_
      refine va_last hx hb hK hP2 (lh_D hi) hS1 81 2 lh_o rfl (i := 0) (x := (1 : Int64)) lh_vp lh_d_stop_16 (fun H2 locs2 hP3 hD3 hS3 => ?_)
      rw [lh_set] at hP3
      refine lv_goto (tgt := 28) hx hb lh_d_stop_17 (by decide) ?_
      refine lv_iconst (v := 0) hx hb lh_d_stop_28 (by decide) ?_
      exact vx_ret (W.iret (v := 0) hx hb hr (fun t ht hW => ⟨⟨0, (M', vp_updL f (0 : Int32).toNatClampNeg ((1 : Int64))), rfl, by show KK 0 M' (vp_updL f (0 : Int32).toNatClampNeg ((1 : Int64)) 0); rw [lh_upd]; exact by have := h0 v M' hv; rw [if_neg hc0] at this; exact this, by show va_P D mj_cl (lh_ws cA ad _ ao cL _) t.heap; rw [ht]; exact hP3⟩, hS3.F ht⟩) hS3.2.2 lh_d_stop_29)
  · have hP2 := lh_P2 hi hP hP1 hk
    rcases hh e' M' hv with ⟨rfl, hq⟩ | ⟨rfl, hq⟩
    · have hpass : ∀ z ∈ ([] : List ExceptionTableEntry), covers z 5 = false ∨ (z.catchType ≠ 0 ∧ ∃ nm : String, (Cond.classLink RL z.catchType nm).before ([.ref (ad 0), .int a1, .int a2, .ref ao] : List Value).toArray s = true ∧ va_Nc (mj_E 0) nm s) := fun z hz => absurd hz List.not_mem_nil
      refine vx_catch (name := mj_E 0) hown [] ⟨0, 17, 20, 21⟩ [⟨0, 17, 24, 13⟩] (by rw [htab]; rfl) hpass (by decide) (by decide) (hts _ lh_cl21) (hcst 0 (by decide)) hce hcv hcl ?_
      refine lv_astore hx hb lh_d_stop_20 hl (by decide) rfl (fun ls2 hl2 => ?_)
      refine lv_iconst (v := 1) hx hb lh_d_stop_22 (by decide) ?_
      exact vx_ret (W.iret (v := 1) hx hb hr (fun t ht hW => ⟨⟨1, (M', f), rfl, hq _, by show va_P D mj_cl (lh_ws cA ad _ ao cL _) t.heap; rw [ht]; exact hP2⟩, hS1.F ht⟩) hS1.2.2 lh_d_stop_23)
    · have hpass : ∀ z ∈ ([⟨0, 17, 20, 21⟩] : List ExceptionTableEntry), covers z 5 = false ∨ (z.catchType ≠ 0 ∧ ∃ nm : String, (Cond.classLink RL z.catchType nm).before ([.ref (ad 0), .int a1, .int a2, .ref ao] : List Value).toArray s = true ∧ va_Nc (mj_E 1) nm s) := fun z hz => by
        simp only [List.mem_cons, List.not_mem_nil, or_false] at hz
        rcases hz with rfl
        · exact Or.inr ⟨by decide, mj_E 0, hts _ lh_cl21, hN 1 0 (by decide) (by decide) (by decide)⟩
      refine vx_catch (name := mj_E 1) hown [⟨0, 17, 20, 21⟩] ⟨0, 17, 24, 13⟩ [] (by rw [htab]; rfl) hpass (by decide) (by decide) (hts _ lh_cl13) (hcst 1 (by decide)) hce hcv hcl ?_
      refine lv_astore hx hb lh_d_stop_24 hl (by decide) rfl (fun ls2 hl2 => ?_)
      refine lv_iconst (v := 2) hx hb lh_d_stop_26 (by decide) ?_
      exact vx_ret (W.iret (v := 2) hx hb hr (fun t ht hW => ⟨⟨2, (M', f), rfl, hq _, by show va_P D mj_cl (lh_ws cA ad _ ao cL _) t.heap; rw [ht]; exact hP2⟩, hS1.F ht⟩) hS1.2.2 lh_d_stop_27)
theorem lh_d_meter_0 : decode cL_meter 0 = .ok (.aload_n 3, 1) := by decide +kernel
theorem lh_d_meter_1 : decode cL_meter 1 = .ok (.iconst 0, 1) := by decide +kernel
theorem lh_d_meter_2 : decode cL_meter 2 = .ok (.aload_n 0, 1) := by decide +kernel
theorem lh_d_meter_3 : decode cL_meter 3 = .ok (.iload_n 1, 1) := by decide +kernel
theorem lh_d_meter_4 : decode cL_meter 4 = .ok (.iload_n 2, 1) := by decide +kernel
theorem lh_d_meter_5 : decode cL_meter 5 = .ok (.invokevirtual 34, 3) := by decide +kernel
theorem lh_d_meter_8 : decode cL_meter 8 = .ok (.i2l, 1) := by decide +kernel
theorem lh_d_meter_9 : decode cL_meter 9 = .ok (.lastore, 1) := by decide +kernel
theorem lh_d_meter_10 : decode cL_meter 10 = .ok (.goto (11), 3) := by decide +kernel
theorem lh_d_meter_13 : decode cL_meter 13 = .ok (.astore 4, 2) := by decide +kernel
theorem lh_d_meter_15 : decode cL_meter 15 = .ok (.iconst 1, 1) := by decide +kernel
theorem lh_d_meter_16 : decode cL_meter 16 = .ok (.ireturn, 1) := by decide +kernel
theorem lh_d_meter_17 : decode cL_meter 17 = .ok (.astore 4, 2) := by decide +kernel
theorem lh_d_meter_19 : decode cL_meter 19 = .ok (.iconst 2, 1) := by decide +kernel
theorem lh_d_meter_20 : decode cL_meter 20 = .ok (.ireturn, 1) := by decide +kernel
theorem lh_d_meter_21 : decode cL_meter 21 = .ok (.iconst 0, 1) := by decide +kernel
theorem lh_d_meter_22 : decode cL_meter 22 = .ok (.ireturn, 1) := by decide +kernel
abbrev lh_h_meter : List (Nat × Nat × Nat × Nat) := [(0, 10, 13, 21), (0, 10, 17, 13)]
def lh_w_meter : List Cond := .codeWith yL_meter cL_meter 5 (some .int) lh_h_meter :: mj_G
theorem lh_c_meter : Cond.codeWith yL_meter cL_meter 5 (some .int) lh_h_meter ∈ mj_G := mj_inG (List.mem_of_getElem? (i := 752) (by decide +kernel)) rfl
theorem lh_l_meter : Cond.methodLink RL 34 (mj_y 69) ∈ mj_G := mj_inG (List.mem_of_getElem? (i := 753) (by decide +kernel)) rfl
set_option maxHeartbeats 4000000 in
set_option maxRecDepth 100000 in
theorem lh_meter {a1 a2 : Int32} {M : mj_M} {KK : Int32 → mj_M → Int64 → Prop} {Kc : mj_K} (h : mj_Cm 69 3 [.ref 0, .int a1, .int a2] M Kc) (h0 : ∀ v M', Kc 0 v M' → KK 0 M' v.toInt64) (hh : ∀ e M', Kc (e + 1) 0 M' → (e = 0 ∧ ∀ o, KK 1 M' o) ∨ (e = 1 ∧ ∀ o, KK 2 M' o)) : lh_Cm yL_meter lh_w_meter 69 3 [.int a1, .int a2] M KK := by
  intro l D cA cL ad ao f sz hlt hi
  refine vx_ofWH (cc := cL_meter) (maxL := 5) (ret := some .int) (hh := lh_h_meter) (by decide) rfl ?_
  intro p e s m args below meth c s₁ B hml hv
  obtain ⟨hargs, hsz, hP, hK, hX, hN⟩ := hv
  have hx := B.exec
  have hb := B.bytes
  have hr := B.returns
  have hts0 := atoms_spec (ws := lh_w_meter) B.pre
  have hts : ∀ w ∈ mj_G, w.before args s = true := fun w hw => hts0 w (List.mem_cons_of_mem _ hw)
  have hown : s.vm.findClass RL = some m.cls := findClass_of_methodNamed B.named
  have hlocks := B.notSynchronized
  have htab := vx_table (x := yL_link) B (hts0 _ List.mem_cons_self)
  subst hsz
  have hargs2 : args = ([.ref (ad 0), .int a1, .int a2, .ref ao] : List Value).toArray := hargs
  clear hargs
  subst hargs2
  have hS : va_S (lh_A ad ao s.heap.size) s.heap s.heap [] := va_S.rf
  have hl := lv_entry ([.ref (ad 0), .int a1, .int a2, .ref ao]) (n := 5) (Nat.le_of_ble_eq_true rfl)
  rw [lg_entry_eq]
  generalize (lg_sl ([.ref (ad 0), .int a1, .int a2, .ref ao]) ++ List.replicate (5 - (lg_sl ([.ref (ad 0), .int a1, .int a2, .ref ao])).length) Slot.unset).toArray = ls at hl ⊢
  have hl : lv_has ls 5 [(0, .ref (ad 0)), (1, .int a1), (2, .int a2), (3, .ref ao)] := hl
  have hK2 : va_K D mj_cl (mj_tys cA) s := hK.sub [0, 1] rfl
  have hcst : ∀ e, e < 3 → (Cond.castable (mj_E e) (mj_E e)).before ([.ref (ad 0), .int a1, .int a2, .ref ao] : List Value).toArray s = true := fun e he => va_Nw.use rfl ((hX rfl).2.2.2.1 e he)
  refine lv_aload_n hx hb lh_d_meter_0 rfl (lv_at hl 3 rfl) ?_
  refine lv_iconst (v := 0) hx hb lh_d_meter_1 (by decide) ?_
  refine lv_aload_n hx hb lh_d_meter_2 rfl (lv_at hl 0 rfl) ?_
  refine lv_iload_n hx hb lh_d_meter_3 rfl (lv_at hl 1 rfl) ?_
  refine lv_iload_n hx hb lh_d_meter_4 rfl (lv_at hl 2 rfl) ?_
  refine lh_run (as := [.int a1, .int a2]) (rest := [.int 0, .ref ao]) (ad := ad) (lv := 2) (k := 69) (d := 3) (c1 := mj_mc 69) (s1 := 6 * mj_mc 69) (A0 := lh_A ad ao s.heap.size) hx hb hml hl.1 hts hown hlt hi.1 hK2 hX (lh_P1 hP) hS (lh_Asub (Nat.le_refl _)) lh_l_meter (by decide) (by decide +kernel) rfl (fun h => by cases h) rfl rfl rfl (Nat.le_of_ble_eq_true rfl) (by show 2 * 3 + 20 + 1 ≤ 2 * 3 + 21; omega) (by show 8 + (mj_n 69 + 11) + (40 * 3 + 300) ≤ 40 * 3 + 340; decide) (by rw [Nat.zero_add]; exact Nat.le_refl _) (by rw [Nat.zero_add]; exact Nat.le_refl _) (Nat.zero_add _) (Nat.zero_add _) lh_d_meter_5 h (fun v M' H1 locs1 hv hP1 hz hk hS1 => ?_) (fun e' M' ce q9 H1 locs1 hv hP1 hz hk hS1 hce hcv hcl => ?_)
  · have hP2 := lh_P2 hi hP hP1 hk
    refine lv_i2l (v := v.toInt64) hx hb lh_d_meter_8 rfl ?_
    refine va_last hx hb hK hP2 (lh_D hi) hS1 81 2 lh_o rfl (i := 0) (x := v.toInt64) lh_vp lh_d_meter_9 (fun H2 locs2 hP3 hD3 hS3 => ?_)
    rw [lh_set] at hP3
    refine lv_goto (tgt := 21) hx hb lh_d_meter_10 (by decide) ?_
    refine lv_iconst (v := 0) hx hb lh_d_meter_21 (by decide) ?_
    exact vx_ret (W.iret (v := 0) hx hb hr (fun t ht hW => ⟨⟨0, (M', vp_updL f (0 : Int32).toNatClampNeg (v.toInt64)), rfl, by show KK 0 M' (vp_updL f (0 : Int32).toNatClampNeg (v.toInt64) 0); rw [lh_upd]; exact h0 v M' hv, by show va_P D mj_cl (lh_ws cA ad _ ao cL _) t.heap; rw [ht]; exact hP3⟩, hS3.F ht⟩) hS3.2.2 lh_d_meter_22)
  · have hP2 := lh_P2 hi hP hP1 hk
    rcases hh e' M' hv with ⟨rfl, hq⟩ | ⟨rfl, hq⟩
    · have hpass : ∀ z ∈ ([] : List ExceptionTableEntry), covers z 5 = false ∨ (z.catchType ≠ 0 ∧ ∃ nm : String, (Cond.classLink RL z.catchType nm).before ([.ref (ad 0), .int a1, .int a2, .ref ao] : List Value).toArray s = true ∧ va_Nc (mj_E 0) nm s) := fun z hz => absurd hz List.not_mem_nil
      refine vx_catch (name := mj_E 0) hown [] ⟨0, 10, 13, 21⟩ [⟨0, 10, 17, 13⟩] (by rw [htab]; rfl) hpass (by decide) (by decide) (hts _ lh_cl21) (hcst 0 (by decide)) hce hcv hcl ?_
      refine lv_astore hx hb lh_d_meter_13 hl (by decide) rfl (fun ls2 hl2 => ?_)
      refine lv_iconst (v := 1) hx hb lh_d_meter_15 (by decide) ?_
      exact vx_ret (W.iret (v := 1) hx hb hr (fun t ht hW => ⟨⟨1, (M', f), rfl, hq _, by show va_P D mj_cl (lh_ws cA ad _ ao cL _) t.heap; rw [ht]; exact hP2⟩, hS1.F ht⟩) hS1.2.2 lh_d_meter_16)
    · have hpass : ∀ z ∈ ([⟨0, 10, 13, 21⟩] : List ExceptionTableEntry), covers z 5 = false ∨ (z.catchType ≠ 0 ∧ ∃ nm : String, (Cond.classLink RL z.catchType nm).before ([.ref (ad 0), .int a1, .int a2, .ref ao] : List Value).toArray s = true ∧ va_Nc (mj_E 1) nm s) := fun z hz => by
        simp only [List.mem_cons, List.not_mem_nil, or_false] at hz
        rcases hz with rfl
        · exact Or.inr ⟨by decide, mj_E 0, hts _ lh_cl21, hN 1 0 (by decide) (by decide) (by decide)⟩
      refine vx_catch (name := mj_E 1) hown [⟨0, 10, 13, 21⟩] ⟨0, 10, 17, 13⟩ [] (by rw [htab]; rfl) hpass (by decide) (by decide) (hts _ lh_cl13) (hcst 1 (by decide)) hce hcv hcl ?_
      refine lv_astore hx hb lh_d_meter_17 hl (by decide) rfl (fun ls2 hl2 => ?_)
      refine lv_iconst (v := 2) hx hb lh_d_meter_19 (by decide) ?_
      exact vx_ret (W.iret (v := 2) hx hb hr (fun t ht hW => ⟨⟨2, (M', f), rfl, hq _, by show va_P D mj_cl (lh_ws cA ad _ ao cL _) t.heap; rw [ht]; exact hP2⟩, hS1.F ht⟩) hS1.2.2 lh_d_meter_20)
theorem lh_d_enter_0 : decode cL_enter 0 = .ok (.aload 6, 2) := by decide +kernel
theorem lh_d_enter_2 : decode cL_enter 2 = .ok (.iconst 0, 1) := by decide +kernel
theorem lh_d_enter_3 : decode cL_enter 3 = .ok (.aload_n 0, 1) := by decide +kernel
theorem lh_d_enter_4 : decode cL_enter 4 = .ok (.iload_n 1, 1) := by decide +kernel
theorem lh_d_enter_5 : decode cL_enter 5 = .ok (.iload_n 2, 1) := by decide +kernel
theorem lh_d_enter_6 : decode cL_enter 6 = .ok (.iload_n 3, 1) := by decide +kernel
theorem lh_d_enter_7 : decode cL_enter 7 = .ok (.iload 4, 2) := by decide +kernel
theorem lh_d_enter_9 : decode cL_enter 9 = .ok (.iload 5, 2) := by decide +kernel
theorem lh_d_enter_11 : decode cL_enter 11 = .ok (.invokevirtual 37, 3) := by decide +kernel
theorem lh_d_enter_14 : decode cL_enter 14 = .ok (.i2l, 1) := by decide +kernel
theorem lh_d_enter_15 : decode cL_enter 15 = .ok (.lastore, 1) := by decide +kernel
theorem lh_d_enter_16 : decode cL_enter 16 = .ok (.goto (15), 3) := by decide +kernel
theorem lh_d_enter_19 : decode cL_enter 19 = .ok (.astore 7, 2) := by decide +kernel
theorem lh_d_enter_21 : decode cL_enter 21 = .ok (.iconst 1, 1) := by decide +kernel
theorem lh_d_enter_22 : decode cL_enter 22 = .ok (.ireturn, 1) := by decide +kernel
theorem lh_d_enter_23 : decode cL_enter 23 = .ok (.astore 7, 2) := by decide +kernel
theorem lh_d_enter_25 : decode cL_enter 25 = .ok (.iconst 2, 1) := by decide +kernel
theorem lh_d_enter_26 : decode cL_enter 26 = .ok (.ireturn, 1) := by decide +kernel
theorem lh_d_enter_27 : decode cL_enter 27 = .ok (.astore 7, 2) := by decide +kernel
theorem lh_d_enter_29 : decode cL_enter 29 = .ok (.iconst 3, 1) := by decide +kernel
theorem lh_d_enter_30 : decode cL_enter 30 = .ok (.ireturn, 1) := by decide +kernel
theorem lh_d_enter_31 : decode cL_enter 31 = .ok (.iconst 0, 1) := by decide +kernel
theorem lh_d_enter_32 : decode cL_enter 32 = .ok (.ireturn, 1) := by decide +kernel
abbrev lh_h_enter : List (Nat × Nat × Nat × Nat) := [(0, 16, 19, 21), (0, 16, 23, 13), (0, 16, 27, 15)]
def lh_w_enter : List Cond := .codeWith yL_enter cL_enter 8 (some .int) lh_h_enter :: mj_G
theorem lh_c_enter : Cond.codeWith yL_enter cL_enter 8 (some .int) lh_h_enter ∈ mj_G := mj_inG (List.mem_of_getElem? (i := 759) (by decide +kernel)) rfl
theorem lh_l_enter : Cond.methodLink RL 37 (mj_y 70) ∈ mj_G := mj_inG (List.mem_of_getElem? (i := 760) (by decide +kernel)) rfl
set_option maxHeartbeats 4000000 in
set_option maxRecDepth 100000 in
theorem lh_enter {a1 a2 a3 a4 a5 : Int32} {M : mj_M} {KK : Int32 → mj_M → Int64 → Prop} {Kc : mj_K} (h : mj_Cm 70 5 [.ref 0, .int a1, .int a2, .int a3, .int a4, .int a5] M Kc) (h0 : ∀ v M', Kc 0 v M' → KK 0 M' v.toInt64) (hh : ∀ e M', Kc (e + 1) 0 M' → (e = 0 ∧ ∀ o, KK 1 M' o) ∨ (e = 1 ∧ ∀ o, KK 2 M' o) ∨ (e = 2 ∧ ∀ o, KK 3 M' o)) : lh_Cm yL_enter lh_w_enter 70 5 [.int a1, .int a2, .int a3, .int a4, .int a5] M KK := by
  intro l D cA cL ad ao f sz hlt hi
  refine vx_ofWH (cc := cL_enter) (maxL := 8) (ret := some .int) (hh := lh_h_enter) (by decide) rfl ?_
  intro p e s m args below meth c s₁ B hml hv
  obtain ⟨hargs, hsz, hP, hK, hX, hN⟩ := hv
  have hx := B.exec
  have hb := B.bytes
  have hr := B.returns
  have hts0 := atoms_spec (ws := lh_w_enter) B.pre
  have hts : ∀ w ∈ mj_G, w.before args s = true := fun w hw => hts0 w (List.mem_cons_of_mem _ hw)
  have hown : s.vm.findClass RL = some m.cls := findClass_of_methodNamed B.named
  have hlocks := B.notSynchronized
  have htab := vx_table (x := yL_link) B (hts0 _ List.mem_cons_self)
  subst hsz
  have hargs2 : args = ([.ref (ad 0), .int a1, .int a2, .int a3, .int a4, .int a5, .ref ao] : List Value).toArray := hargs
  clear hargs
  subst hargs2
  have hS : va_S (lh_A ad ao s.heap.size) s.heap s.heap [] := va_S.rf
  have hl := lv_entry ([.ref (ad 0), .int a1, .int a2, .int a3, .int a4, .int a5, .ref ao]) (n := 8) (Nat.le_of_ble_eq_true rfl)
  rw [lg_entry_eq]
  generalize (lg_sl ([.ref (ad 0), .int a1, .int a2, .int a3, .int a4, .int a5, .ref ao]) ++ List.replicate (8 - (lg_sl ([.ref (ad 0), .int a1, .int a2, .int a3, .int a4, .int a5, .ref ao])).length) Slot.unset).toArray = ls at hl ⊢
  have hl : lv_has ls 8 [(0, .ref (ad 0)), (1, .int a1), (2, .int a2), (3, .int a3), (4, .int a4), (5, .int a5), (6, .ref ao)] := hl
  have hK2 : va_K D mj_cl (mj_tys cA) s := hK.sub [0, 1] rfl
  have hcst : ∀ e, e < 3 → (Cond.castable (mj_E e) (mj_E e)).before ([.ref (ad 0), .int a1, .int a2, .int a3, .int a4, .int a5, .ref ao] : List Value).toArray s = true := fun e he => va_Nw.use rfl ((hX rfl).2.2.2.1 e he)
  refine lv_aload hx hb lh_d_enter_0 (lv_at hl 6 rfl) ?_
  refine lv_iconst (v := 0) hx hb lh_d_enter_2 (by decide) ?_
  refine lv_aload_n hx hb lh_d_enter_3 rfl (lv_at hl 0 rfl) ?_
  refine lv_iload_n hx hb lh_d_enter_4 rfl (lv_at hl 1 rfl) ?_
  refine lv_iload_n hx hb lh_d_enter_5 rfl (lv_at hl 2 rfl) ?_
  refine lv_iload_n hx hb lh_d_enter_6 rfl (lv_at hl 3 rfl) ?_
  refine lv_iload hx hb lh_d_enter_7 (lv_at hl 4 rfl) ?_
  refine lv_iload hx hb lh_d_enter_9 (lv_at hl 5 rfl) ?_
  refine lh_run (as := [.int a1, .int a2, .int a3, .int a4, .int a5]) (rest := [.int 0, .ref ao]) (ad := ad) (lv := 2) (k := 70) (d := 5) (c1 := mj_mc 70) (s1 := 6 * mj_mc 70) (A0 := lh_A ad ao s.heap.size) hx hb hml hl.1 hts hown hlt hi.1 hK2 hX (lh_P1 hP) hS (lh_Asub (Nat.le_refl _)) lh_l_enter (by decide) (by decide +kernel) rfl (fun h => by cases h) rfl rfl rfl (Nat.le_of_ble_eq_true rfl) (by show 2 * 5 + 20 + 1 ≤ 2 * 5 + 21; omega) (by show 8 + (mj_n 70 + 11) + (40 * 5 + 300) ≤ 40 * 5 + 340; decide) (by rw [Nat.zero_add]; exact Nat.le_refl _) (by rw [Nat.zero_add]; exact Nat.le_refl _) (Nat.zero_add _) (Nat.zero_add _) lh_d_enter_11 h (fun v M' H1 locs1 hv hP1 hz hk hS1 => ?_) (fun e' M' ce q9 H1 locs1 hv hP1 hz hk hS1 hce hcv hcl => ?_)
  · have hP2 := lh_P2 hi hP hP1 hk
    refine lv_i2l (v := v.toInt64) hx hb lh_d_enter_14 rfl ?_
    refine va_last hx hb hK hP2 (lh_D hi) hS1 81 2 lh_o rfl (i := 0) (x := v.toInt64) lh_vp lh_d_enter_15 (fun H2 locs2 hP3 hD3 hS3 => ?_)
    rw [lh_set] at hP3
    refine lv_goto (tgt := 31) hx hb lh_d_enter_16 (by decide) ?_
    refine lv_iconst (v := 0) hx hb lh_d_enter_31 (by decide) ?_
    exact vx_ret (W.iret (v := 0) hx hb hr (fun t ht hW => ⟨⟨0, (M', vp_updL f (0 : Int32).toNatClampNeg (v.toInt64)), rfl, by show KK 0 M' (vp_updL f (0 : Int32).toNatClampNeg (v.toInt64) 0); rw [lh_upd]; exact h0 v M' hv, by show va_P D mj_cl (lh_ws cA ad _ ao cL _) t.heap; rw [ht]; exact hP3⟩, hS3.F ht⟩) hS3.2.2 lh_d_enter_32)
  · have hP2 := lh_P2 hi hP hP1 hk
    rcases hh e' M' hv with ⟨rfl, hq⟩ | ⟨rfl, hq⟩ | ⟨rfl, hq⟩
    · have hpass : ∀ z ∈ ([] : List ExceptionTableEntry), covers z 11 = false ∨ (z.catchType ≠ 0 ∧ ∃ nm : String, (Cond.classLink RL z.catchType nm).before ([.ref (ad 0), .int a1, .int a2, .int a3, .int a4, .int a5, .ref ao] : List Value).toArray s = true ∧ va_Nc (mj_E 0) nm s) := fun z hz => absurd hz List.not_mem_nil
      refine vx_catch (name := mj_E 0) hown [] ⟨0, 16, 19, 21⟩ [⟨0, 16, 23, 13⟩, ⟨0, 16, 27, 15⟩] (by rw [htab]; rfl) hpass (by decide) (by decide) (hts _ lh_cl21) (hcst 0 (by decide)) hce hcv hcl ?_
      refine lv_astore hx hb lh_d_enter_19 hl (by decide) rfl (fun ls2 hl2 => ?_)
      refine lv_iconst (v := 1) hx hb lh_d_enter_21 (by decide) ?_
      exact vx_ret (W.iret (v := 1) hx hb hr (fun t ht hW => ⟨⟨1, (M', f), rfl, hq _, by show va_P D mj_cl (lh_ws cA ad _ ao cL _) t.heap; rw [ht]; exact hP2⟩, hS1.F ht⟩) hS1.2.2 lh_d_enter_22)
    · have hpass : ∀ z ∈ ([⟨0, 16, 19, 21⟩] : List ExceptionTableEntry), covers z 11 = false ∨ (z.catchType ≠ 0 ∧ ∃ nm : String, (Cond.classLink RL z.catchType nm).before ([.ref (ad 0), .int a1, .int a2, .int a3, .int a4, .int a5, .ref ao] : List Value).toArray s = true ∧ va_Nc (mj_E 1) nm s) := fun z hz => by
        simp only [List.mem_cons, List.not_mem_nil, or_false] at hz
        rcases hz with rfl
        · exact Or.inr ⟨by decide, mj_E 0, hts _ lh_cl21, hN 1 0 (by decide) (by decide) (by decide)⟩
      refine vx_catch (name := mj_E 1) hown [⟨0, 16, 19, 21⟩] ⟨0, 16, 23, 13⟩ [⟨0, 16, 27, 15⟩] (by rw [htab]; rfl) hpass (by decide) (by decide) (hts _ lh_cl13) (hcst 1 (by decide)) hce hcv hcl ?_
      refine lv_astore hx hb lh_d_enter_23 hl (by decide) rfl (fun ls2 hl2 => ?_)
      refine lv_iconst (v := 2) hx hb lh_d_enter_25 (by decide) ?_
      exact vx_ret (W.iret (v := 2) hx hb hr (fun t ht hW => ⟨⟨2, (M', f), rfl, hq _, by show va_P D mj_cl (lh_ws cA ad _ ao cL _) t.heap; rw [ht]; exact hP2⟩, hS1.F ht⟩) hS1.2.2 lh_d_enter_26)
    · have hpass : ∀ z ∈ ([⟨0, 16, 19, 21⟩, ⟨0, 16, 23, 13⟩] : List ExceptionTableEntry), covers z 11 = false ∨ (z.catchType ≠ 0 ∧ ∃ nm : String, (Cond.classLink RL z.catchType nm).before ([.ref (ad 0), .int a1, .int a2, .int a3, .int a4, .int a5, .ref ao] : List Value).toArray s = true ∧ va_Nc (mj_E 2) nm s) := fun z hz => by
        simp only [List.mem_cons, List.not_mem_nil, or_false] at hz
        rcases hz with rfl | rfl
        · exact Or.inr ⟨by decide, mj_E 0, hts _ lh_cl21, hN 2 0 (by decide) (by decide) (by decide)⟩
        · exact Or.inr ⟨by decide, mj_E 1, hts _ lh_cl13, hN 2 1 (by decide) (by decide) (by decide)⟩
      refine vx_catch (name := mj_E 2) hown [⟨0, 16, 19, 21⟩, ⟨0, 16, 23, 13⟩] ⟨0, 16, 27, 15⟩ [] (by rw [htab]; rfl) hpass (by decide) (by decide) (hts _ lh_cl15) (hcst 2 (by decide)) hce hcv hcl ?_
      refine lv_astore hx hb lh_d_enter_27 hl (by decide) rfl (fun ls2 hl2 => ?_)
      refine lv_iconst (v := 3) hx hb lh_d_enter_29 (by decide) ?_
      exact vx_ret (W.iret (v := 3) hx hb hr (fun t ht hW => ⟨⟨3, (M', f), rfl, hq _, by show va_P D mj_cl (lh_ws cA ad _ ao cL _) t.heap; rw [ht]; exact hP2⟩, hS1.F ht⟩) hS1.2.2 lh_d_enter_30)
theorem lh_d_train_0 : decode cL_train 0 = .ok (.aload 6, 2) := by decide +kernel
theorem lh_d_train_2 : decode cL_train 2 = .ok (.iconst 0, 1) := by decide +kernel
theorem lh_d_train_3 : decode cL_train 3 = .ok (.aload_n 0, 1) := by decide +kernel
theorem lh_d_train_4 : decode cL_train 4 = .ok (.iload_n 1, 1) := by decide +kernel
theorem lh_d_train_5 : decode cL_train 5 = .ok (.iload_n 2, 1) := by decide +kernel
theorem lh_d_train_6 : decode cL_train 6 = .ok (.iload_n 3, 1) := by decide +kernel
theorem lh_d_train_7 : decode cL_train 7 = .ok (.iload 4, 2) := by decide +kernel
theorem lh_d_train_9 : decode cL_train 9 = .ok (.iload 5, 2) := by decide +kernel
theorem lh_d_train_11 : decode cL_train 11 = .ok (.invokevirtual 41, 3) := by decide +kernel
theorem lh_d_train_14 : decode cL_train 14 = .ok (.i2l, 1) := by decide +kernel
theorem lh_d_train_15 : decode cL_train 15 = .ok (.lastore, 1) := by decide +kernel
theorem lh_d_train_16 : decode cL_train 16 = .ok (.goto (15), 3) := by decide +kernel
theorem lh_d_train_19 : decode cL_train 19 = .ok (.astore 7, 2) := by decide +kernel
theorem lh_d_train_21 : decode cL_train 21 = .ok (.iconst 1, 1) := by decide +kernel
theorem lh_d_train_22 : decode cL_train 22 = .ok (.ireturn, 1) := by decide +kernel
theorem lh_d_train_23 : decode cL_train 23 = .ok (.astore 7, 2) := by decide +kernel
theorem lh_d_train_25 : decode cL_train 25 = .ok (.iconst 2, 1) := by decide +kernel
theorem lh_d_train_26 : decode cL_train 26 = .ok (.ireturn, 1) := by decide +kernel
theorem lh_d_train_27 : decode cL_train 27 = .ok (.astore 7, 2) := by decide +kernel
theorem lh_d_train_29 : decode cL_train 29 = .ok (.iconst 3, 1) := by decide +kernel
theorem lh_d_train_30 : decode cL_train 30 = .ok (.ireturn, 1) := by decide +kernel
theorem lh_d_train_31 : decode cL_train 31 = .ok (.iconst 0, 1) := by decide +kernel
theorem lh_d_train_32 : decode cL_train 32 = .ok (.ireturn, 1) := by decide +kernel
abbrev lh_h_train : List (Nat × Nat × Nat × Nat) := [(0, 16, 19, 21), (0, 16, 23, 13), (0, 16, 27, 15)]
def lh_w_train : List Cond := .codeWith yL_train cL_train 8 (some .int) lh_h_train :: mj_G
theorem lh_c_train : Cond.codeWith yL_train cL_train 8 (some .int) lh_h_train ∈ mj_G := mj_inG (List.mem_of_getElem? (i := 775) (by decide +kernel)) rfl
theorem lh_l_train : Cond.methodLink RL 41 (mj_y 71) ∈ mj_G := mj_inG (List.mem_of_getElem? (i := 776) (by decide +kernel)) rfl
set_option maxHeartbeats 4000000 in
set_option maxRecDepth 100000 in
theorem lh_train {a1 a2 a3 a4 a5 : Int32} {M : mj_M} {KK : Int32 → mj_M → Int64 → Prop} {Kc : mj_K} (h : mj_Cm 71 6 [.ref 0, .int a1, .int a2, .int a3, .int a4, .int a5] M Kc) (h0 : ∀ v M', Kc 0 v M' → KK 0 M' v.toInt64) (hh : ∀ e M', Kc (e + 1) 0 M' → (e = 0 ∧ ∀ o, KK 1 M' o) ∨ (e = 1 ∧ ∀ o, KK 2 M' o) ∨ (e = 2 ∧ ∀ o, KK 3 M' o)) : lh_Cm yL_train lh_w_train 71 6 [.int a1, .int a2, .int a3, .int a4, .int a5] M KK := by
  intro l D cA cL ad ao f sz hlt hi
  refine vx_ofWH (cc := cL_train) (maxL := 8) (ret := some .int) (hh := lh_h_train) (by decide) rfl ?_
  intro p e s m args below meth c s₁ B hml hv
  obtain ⟨hargs, hsz, hP, hK, hX, hN⟩ := hv
  have hx := B.exec
  have hb := B.bytes
  have hr := B.returns
  have hts0 := atoms_spec (ws := lh_w_train) B.pre
  have hts : ∀ w ∈ mj_G, w.before args s = true := fun w hw => hts0 w (List.mem_cons_of_mem _ hw)
  have hown : s.vm.findClass RL = some m.cls := findClass_of_methodNamed B.named
  have hlocks := B.notSynchronized
  have htab := vx_table (x := yL_link) B (hts0 _ List.mem_cons_self)
  subst hsz
  have hargs2 : args = ([.ref (ad 0), .int a1, .int a2, .int a3, .int a4, .int a5, .ref ao] : List Value).toArray := hargs
  clear hargs
  subst hargs2
  have hS : va_S (lh_A ad ao s.heap.size) s.heap s.heap [] := va_S.rf
  have hl := lv_entry ([.ref (ad 0), .int a1, .int a2, .int a3, .int a4, .int a5, .ref ao]) (n := 8) (Nat.le_of_ble_eq_true rfl)
  rw [lg_entry_eq]
  generalize (lg_sl ([.ref (ad 0), .int a1, .int a2, .int a3, .int a4, .int a5, .ref ao]) ++ List.replicate (8 - (lg_sl ([.ref (ad 0), .int a1, .int a2, .int a3, .int a4, .int a5, .ref ao])).length) Slot.unset).toArray = ls at hl ⊢
  have hl : lv_has ls 8 [(0, .ref (ad 0)), (1, .int a1), (2, .int a2), (3, .int a3), (4, .int a4), (5, .int a5), (6, .ref ao)] := hl
  have hK2 : va_K D mj_cl (mj_tys cA) s := hK.sub [0, 1] rfl
  have hcst : ∀ e, e < 3 → (Cond.castable (mj_E e) (mj_E e)).before ([.ref (ad 0), .int a1, .int a2, .int a3, .int a4, .int a5, .ref ao] : List Value).toArray s = true := fun e he => va_Nw.use rfl ((hX rfl).2.2.2.1 e he)
  refine lv_aload hx hb lh_d_train_0 (lv_at hl 6 rfl) ?_
  refine lv_iconst (v := 0) hx hb lh_d_train_2 (by decide) ?_
  refine lv_aload_n hx hb lh_d_train_3 rfl (lv_at hl 0 rfl) ?_
  refine lv_iload_n hx hb lh_d_train_4 rfl (lv_at hl 1 rfl) ?_
  refine lv_iload_n hx hb lh_d_train_5 rfl (lv_at hl 2 rfl) ?_
  refine lv_iload_n hx hb lh_d_train_6 rfl (lv_at hl 3 rfl) ?_
  refine lv_iload hx hb lh_d_train_7 (lv_at hl 4 rfl) ?_
  refine lv_iload hx hb lh_d_train_9 (lv_at hl 5 rfl) ?_
  refine lh_run (as := [.int a1, .int a2, .int a3, .int a4, .int a5]) (rest := [.int 0, .ref ao]) (ad := ad) (lv := 2) (k := 71) (d := 6) (c1 := mj_mc 71) (s1 := 6 * mj_mc 71) (A0 := lh_A ad ao s.heap.size) hx hb hml hl.1 hts hown hlt hi.1 hK2 hX (lh_P1 hP) hS (lh_Asub (Nat.le_refl _)) lh_l_train (by decide) (by decide +kernel) rfl (fun h => by cases h) rfl rfl rfl (Nat.le_of_ble_eq_true rfl) (by show 2 * 6 + 20 + 1 ≤ 2 * 6 + 21; omega) (by show 8 + (mj_n 71 + 11) + (40 * 6 + 300) ≤ 40 * 6 + 340; decide) (by rw [Nat.zero_add]; exact Nat.le_refl _) (by rw [Nat.zero_add]; exact Nat.le_refl _) (Nat.zero_add _) (Nat.zero_add _) lh_d_train_11 h (fun v M' H1 locs1 hv hP1 hz hk hS1 => ?_) (fun e' M' ce q9 H1 locs1 hv hP1 hz hk hS1 hce hcv hcl => ?_)
  · have hP2 := lh_P2 hi hP hP1 hk
    refine lv_i2l (v := v.toInt64) hx hb lh_d_train_14 rfl ?_
    refine va_last hx hb hK hP2 (lh_D hi) hS1 81 2 lh_o rfl (i := 0) (x := v.toInt64) lh_vp lh_d_train_15 (fun H2 locs2 hP3 hD3 hS3 => ?_)
    rw [lh_set] at hP3
    refine lv_goto (tgt := 31) hx hb lh_d_train_16 (by decide) ?_
    refine lv_iconst (v := 0) hx hb lh_d_train_31 (by decide) ?_
    exact vx_ret (W.iret (v := 0) hx hb hr (fun t ht hW => ⟨⟨0, (M', vp_updL f (0 : Int32).toNatClampNeg (v.toInt64)), rfl, by show KK 0 M' (vp_updL f (0 : Int32).toNatClampNeg (v.toInt64) 0); rw [lh_upd]; exact h0 v M' hv, by show va_P D mj_cl (lh_ws cA ad _ ao cL _) t.heap; rw [ht]; exact hP3⟩, hS3.F ht⟩) hS3.2.2 lh_d_train_32)
  · have hP2 := lh_P2 hi hP hP1 hk
    rcases hh e' M' hv with ⟨rfl, hq⟩ | ⟨rfl, hq⟩ | ⟨rfl, hq⟩
    · have hpass : ∀ z ∈ ([] : List ExceptionTableEntry), covers z 11 = false ∨ (z.catchType ≠ 0 ∧ ∃ nm : String, (Cond.classLink RL z.catchType nm).before ([.ref (ad 0), .int a1, .int a2, .int a3, .int a4, .int a5, .ref ao] : List Value).toArray s = true ∧ va_Nc (mj_E 0) nm s) := fun z hz => absurd hz List.not_mem_nil
      refine vx_catch (name := mj_E 0) hown [] ⟨0, 16, 19, 21⟩ [⟨0, 16, 23, 13⟩, ⟨0, 16, 27, 15⟩] (by rw [htab]; rfl) hpass (by decide) (by decide) (hts _ lh_cl21) (hcst 0 (by decide)) hce hcv hcl ?_
      refine lv_astore hx hb lh_d_train_19 hl (by decide) rfl (fun ls2 hl2 => ?_)
      refine lv_iconst (v := 1) hx hb lh_d_train_21 (by decide) ?_
      exact vx_ret (W.iret (v := 1) hx hb hr (fun t ht hW => ⟨⟨1, (M', f), rfl, hq _, by show va_P D mj_cl (lh_ws cA ad _ ao cL _) t.heap; rw [ht]; exact hP2⟩, hS1.F ht⟩) hS1.2.2 lh_d_train_22)
    · have hpass : ∀ z ∈ ([⟨0, 16, 19, 21⟩] : List ExceptionTableEntry), covers z 11 = false ∨ (z.catchType ≠ 0 ∧ ∃ nm : String, (Cond.classLink RL z.catchType nm).before ([.ref (ad 0), .int a1, .int a2, .int a3, .int a4, .int a5, .ref ao] : List Value).toArray s = true ∧ va_Nc (mj_E 1) nm s) := fun z hz => by
        simp only [List.mem_cons, List.not_mem_nil, or_false] at hz
        rcases hz with rfl
        · exact Or.inr ⟨by decide, mj_E 0, hts _ lh_cl21, hN 1 0 (by decide) (by decide) (by decide)⟩
      refine vx_catch (name := mj_E 1) hown [⟨0, 16, 19, 21⟩] ⟨0, 16, 23, 13⟩ [⟨0, 16, 27, 15⟩] (by rw [htab]; rfl) hpass (by decide) (by decide) (hts _ lh_cl13) (hcst 1 (by decide)) hce hcv hcl ?_
      refine lv_astore hx hb lh_d_train_23 hl (by decide) rfl (fun ls2 hl2 => ?_)
      refine lv_iconst (v := 2) hx hb lh_d_train_25 (by decide) ?_
      exact vx_ret (W.iret (v := 2) hx hb hr (fun t ht hW => ⟨⟨2, (M', f), rfl, hq _, by show va_P D mj_cl (lh_ws cA ad _ ao cL _) t.heap; rw [ht]; exact hP2⟩, hS1.F ht⟩) hS1.2.2 lh_d_train_26)
    · have hpass : ∀ z ∈ ([⟨0, 16, 19, 21⟩, ⟨0, 16, 23, 13⟩] : List ExceptionTableEntry), covers z 11 = false ∨ (z.catchType ≠ 0 ∧ ∃ nm : String, (Cond.classLink RL z.catchType nm).before ([.ref (ad 0), .int a1, .int a2, .int a3, .int a4, .int a5, .ref ao] : List Value).toArray s = true ∧ va_Nc (mj_E 2) nm s) := fun z hz => by
        simp only [List.mem_cons, List.not_mem_nil, or_false] at hz
        rcases hz with rfl | rfl
        · exact Or.inr ⟨by decide, mj_E 0, hts _ lh_cl21, hN 2 0 (by decide) (by decide) (by decide)⟩
        · exact Or.inr ⟨by decide, mj_E 1, hts _ lh_cl13, hN 2 1 (by decide) (by decide) (by decide)⟩
      refine vx_catch (name := mj_E 2) hown [⟨0, 16, 19, 21⟩, ⟨0, 16, 23, 13⟩] ⟨0, 16, 27, 15⟩ [] (by rw [htab]; rfl) hpass (by decide) (by decide) (hts _ lh_cl15) (hcst 2 (by decide)) hce hcv hcl ?_
      refine lv_astore hx hb lh_d_train_27 hl (by decide) rfl (fun ls2 hl2 => ?_)
      refine lv_iconst (v := 3) hx hb lh_d_train_29 (by decide) ?_
      exact vx_ret (W.iret (v := 3) hx hb hr (fun t ht hW => ⟨⟨3, (M', f), rfl, hq _, by show va_P D mj_cl (lh_ws cA ad _ ao cL _) t.heap; rw [ht]; exact hP2⟩, hS1.F ht⟩) hS1.2.2 lh_d_train_30)
theorem lh_d_pass_0 : decode cL_pass 0 = .ok (.aload_n 2, 1) := by decide +kernel
theorem lh_d_pass_1 : decode cL_pass 1 = .ok (.iconst 0, 1) := by decide +kernel
theorem lh_d_pass_2 : decode cL_pass 2 = .ok (.aload_n 0, 1) := by decide +kernel
theorem lh_d_pass_3 : decode cL_pass 3 = .ok (.iload_n 1, 1) := by decide +kernel
theorem lh_d_pass_4 : decode cL_pass 4 = .ok (.invokevirtual 44, 3) := by decide +kernel
theorem lh_d_pass_7 : decode cL_pass 7 = .ok (.i2l, 1) := by decide +kernel
theorem lh_d_pass_8 : decode cL_pass 8 = .ok (.lastore, 1) := by decide +kernel
theorem lh_d_pass_9 : decode cL_pass 9 = .ok (.goto (6), 3) := by decide +kernel
theorem lh_d_pass_12 : decode cL_pass 12 = .ok (.astore_n 3, 1) := by decide +kernel
theorem lh_d_pass_13 : decode cL_pass 13 = .ok (.iconst 1, 1) := by decide +kernel
theorem lh_d_pass_14 : decode cL_pass 14 = .ok (.ireturn, 1) := by decide +kernel
theorem lh_d_pass_15 : decode cL_pass 15 = .ok (.iconst 0, 1) := by decide +kernel
theorem lh_d_pass_16 : decode cL_pass 16 = .ok (.ireturn, 1) := by decide +kernel
abbrev lh_h_pass : List (Nat × Nat × Nat × Nat) := [(0, 9, 12, 13)]
def lh_w_pass : List Cond := .codeWith yL_pass cL_pass 4 (some .int) lh_h_pass :: mj_G
theorem lh_c_pass : Cond.codeWith yL_pass cL_pass 4 (some .int) lh_h_pass ∈ mj_G := mj_inG (List.mem_of_getElem? (i := 796) (by decide +kernel)) rfl
theorem lh_l_pass : Cond.methodLink RL 44 (mj_y 73) ∈ mj_G := mj_inG (List.mem_of_getElem? (i := 797) (by decide +kernel)) rfl
set_option maxHeartbeats 4000000 in
set_option maxRecDepth 100000 in
theorem lh_pass {a1 : Int32} {M : mj_M} {KK : Int32 → mj_M → Int64 → Prop} {Kc : mj_K} (h : mj_Cm 73 7 [.ref 0, .int a1] M Kc) (h0 : ∀ v M', Kc 0 v M' → KK 0 M' v.toInt64) (hh : ∀ e M', Kc (e + 1) 0 M' → (e = 1 ∧ ∀ o, KK 1 M' o)) : lh_Cm yL_pass lh_w_pass 73 7 [.int a1] M KK := by
  intro l D cA cL ad ao f sz hlt hi
  refine vx_ofWH (cc := cL_pass) (maxL := 4) (ret := some .int) (hh := lh_h_pass) (by decide) rfl ?_
  intro p e s m args below meth c s₁ B hml hv
  obtain ⟨hargs, hsz, hP, hK, hX, hN⟩ := hv
  have hx := B.exec
  have hb := B.bytes
  have hr := B.returns
  have hts0 := atoms_spec (ws := lh_w_pass) B.pre
  have hts : ∀ w ∈ mj_G, w.before args s = true := fun w hw => hts0 w (List.mem_cons_of_mem _ hw)
  have hown : s.vm.findClass RL = some m.cls := findClass_of_methodNamed B.named
  have hlocks := B.notSynchronized
  have htab := vx_table (x := yL_link) B (hts0 _ List.mem_cons_self)
  subst hsz
  have hargs2 : args = ([.ref (ad 0), .int a1, .ref ao] : List Value).toArray := hargs
  clear hargs
  subst hargs2
  have hS : va_S (lh_A ad ao s.heap.size) s.heap s.heap [] := va_S.rf
  have hl := lv_entry ([.ref (ad 0), .int a1, .ref ao]) (n := 4) (Nat.le_of_ble_eq_true rfl)
  rw [lg_entry_eq]
  generalize (lg_sl ([.ref (ad 0), .int a1, .ref ao]) ++ List.replicate (4 - (lg_sl ([.ref (ad 0), .int a1, .ref ao])).length) Slot.unset).toArray = ls at hl ⊢
  have hl : lv_has ls 4 [(0, .ref (ad 0)), (1, .int a1), (2, .ref ao)] := hl
  have hK2 : va_K D mj_cl (mj_tys cA) s := hK.sub [0, 1] rfl
  have hcst : ∀ e, e < 3 → (Cond.castable (mj_E e) (mj_E e)).before ([.ref (ad 0), .int a1, .ref ao] : List Value).toArray s = true := fun e he => va_Nw.use rfl ((hX rfl).2.2.2.1 e he)
  refine lv_aload_n hx hb lh_d_pass_0 rfl (lv_at hl 2 rfl) ?_
  refine lv_iconst (v := 0) hx hb lh_d_pass_1 (by decide) ?_
  refine lv_aload_n hx hb lh_d_pass_2 rfl (lv_at hl 0 rfl) ?_
  refine lv_iload_n hx hb lh_d_pass_3 rfl (lv_at hl 1 rfl) ?_
  refine lh_run (as := [.int a1]) (rest := [.int 0, .ref ao]) (ad := ad) (lv := 2) (k := 73) (d := 7) (c1 := mj_mc 73) (s1 := 6 * mj_mc 73) (A0 := lh_A ad ao s.heap.size) hx hb hml hl.1 hts hown hlt hi.1 hK2 hX (lh_P1 hP) hS (lh_Asub (Nat.le_refl _)) lh_l_pass (by decide) (by decide +kernel) rfl (fun h => by cases h) rfl rfl rfl (Nat.le_of_ble_eq_true rfl) (by show 2 * 7 + 20 + 1 ≤ 2 * 7 + 21; omega) (by show 8 + (mj_n 73 + 11) + (40 * 7 + 300) ≤ 40 * 7 + 340; decide) (by rw [Nat.zero_add]; exact Nat.le_refl _) (by rw [Nat.zero_add]; exact Nat.le_refl _) (Nat.zero_add _) (Nat.zero_add _) lh_d_pass_4 h (fun v M' H1 locs1 hv hP1 hz hk hS1 => ?_) (fun e' M' ce q9 H1 locs1 hv hP1 hz hk hS1 hce hcv hcl => ?_)
  · have hP2 := lh_P2 hi hP hP1 hk
    refine lv_i2l (v := v.toInt64) hx hb lh_d_pass_7 rfl ?_
    refine va_last hx hb hK hP2 (lh_D hi) hS1 81 2 lh_o rfl (i := 0) (x := v.toInt64) lh_vp lh_d_pass_8 (fun H2 locs2 hP3 hD3 hS3 => ?_)
    rw [lh_set] at hP3
    refine lv_goto (tgt := 15) hx hb lh_d_pass_9 (by decide) ?_
    refine lv_iconst (v := 0) hx hb lh_d_pass_15 (by decide) ?_
    exact vx_ret (W.iret (v := 0) hx hb hr (fun t ht hW => ⟨⟨0, (M', vp_updL f (0 : Int32).toNatClampNeg (v.toInt64)), rfl, by show KK 0 M' (vp_updL f (0 : Int32).toNatClampNeg (v.toInt64) 0); rw [lh_upd]; exact h0 v M' hv, by show va_P D mj_cl (lh_ws cA ad _ ao cL _) t.heap; rw [ht]; exact hP3⟩, hS3.F ht⟩) hS3.2.2 lh_d_pass_16)
  · have hP2 := lh_P2 hi hP hP1 hk
    rcases hh e' M' hv with ⟨rfl, hq⟩
    · have hpass : ∀ z ∈ ([] : List ExceptionTableEntry), covers z 4 = false ∨ (z.catchType ≠ 0 ∧ ∃ nm : String, (Cond.classLink RL z.catchType nm).before ([.ref (ad 0), .int a1, .ref ao] : List Value).toArray s = true ∧ va_Nc (mj_E 1) nm s) := fun z hz => absurd hz List.not_mem_nil
      refine vx_catch (name := mj_E 1) hown [] ⟨0, 9, 12, 13⟩ [] (by rw [htab]; rfl) hpass (by decide) (by decide) (hts _ lh_cl13) (hcst 1 (by decide)) hce hcv hcl ?_
      refine lv_astore_n hx hb lh_d_pass_12 rfl hl (by decide) rfl (fun ls2 hl2 => ?_)
      refine lv_iconst (v := 1) hx hb lh_d_pass_13 (by decide) ?_
      exact vx_ret (W.iret (v := 1) hx hb hr (fun t ht hW => ⟨⟨1, (M', f), rfl, hq _, by show va_P D mj_cl (lh_ws cA ad _ ao cL _) t.heap; rw [ht]; exact hP2⟩, hS1.F ht⟩) hS1.2.2 lh_d_pass_14)
theorem lh_d_ofRoom_0 : decode cL_ofRoom 0 = .ok (.aload_n 3, 1) := by decide +kernel
theorem lh_d_ofRoom_1 : decode cL_ofRoom 1 = .ok (.iconst 0, 1) := by decide +kernel
theorem lh_d_ofRoom_2 : decode cL_ofRoom 2 = .ok (.aload_n 0, 1) := by decide +kernel
theorem lh_d_ofRoom_3 : decode cL_ofRoom 3 = .ok (.iload_n 1, 1) := by decide +kernel
theorem lh_d_ofRoom_4 : decode cL_ofRoom 4 = .ok (.iload_n 2, 1) := by decide +kernel
theorem lh_d_ofRoom_5 : decode cL_ofRoom 5 = .ok (.invokevirtual 48, 3) := by decide +kernel
theorem lh_d_ofRoom_8 : decode cL_ofRoom 8 = .ok (.i2l, 1) := by decide +kernel
theorem lh_d_ofRoom_9 : decode cL_ofRoom 9 = .ok (.lastore, 1) := by decide +kernel
theorem lh_d_ofRoom_10 : decode cL_ofRoom 10 = .ok (.goto (11), 3) := by decide +kernel
theorem lh_d_ofRoom_13 : decode cL_ofRoom 13 = .ok (.astore 4, 2) := by decide +kernel
theorem lh_d_ofRoom_15 : decode cL_ofRoom 15 = .ok (.iconst 1, 1) := by decide +kernel
theorem lh_d_ofRoom_16 : decode cL_ofRoom 16 = .ok (.ireturn, 1) := by decide +kernel
theorem lh_d_ofRoom_17 : decode cL_ofRoom 17 = .ok (.astore 4, 2) := by decide +kernel
theorem lh_d_ofRoom_19 : decode cL_ofRoom 19 = .ok (.iconst 2, 1) := by decide +kernel
theorem lh_d_ofRoom_20 : decode cL_ofRoom 20 = .ok (.ireturn, 1) := by decide +kernel
theorem lh_d_ofRoom_21 : decode cL_ofRoom 21 = .ok (.iconst 0, 1) := by decide +kernel
theorem lh_d_ofRoom_22 : decode cL_ofRoom 22 = .ok (.ireturn, 1) := by decide +kernel
abbrev lh_h_ofRoom : List (Nat × Nat × Nat × Nat) := [(0, 10, 13, 21), (0, 10, 17, 13)]
def lh_w_ofRoom : List Cond := .codeWith yL_ofRoom cL_ofRoom 5 (some .int) lh_h_ofRoom :: mj_G
theorem lh_c_ofRoom : Cond.codeWith yL_ofRoom cL_ofRoom 5 (some .int) lh_h_ofRoom ∈ mj_G := mj_inG (List.mem_of_getElem? (i := 803) (by decide +kernel)) rfl
theorem lh_l_ofRoom : Cond.methodLink RL 48 (mj_y 75) ∈ mj_G := mj_inG (List.mem_of_getElem? (i := 804) (by decide +kernel)) rfl
set_option maxHeartbeats 4000000 in
set_option maxRecDepth 100000 in
theorem lh_ofRoom {a1 a2 : Int32} {M : mj_M} {KK : Int32 → mj_M → Int64 → Prop} {Kc : mj_K} (h : mj_Cm 75 3 [.ref 0, .int a1, .int a2] M Kc) (h0 : ∀ v M', Kc 0 v M' → KK 0 M' v.toInt64) (hh : ∀ e M', Kc (e + 1) 0 M' → (e = 0 ∧ ∀ o, KK 1 M' o) ∨ (e = 1 ∧ ∀ o, KK 2 M' o)) : lh_Cm yL_ofRoom lh_w_ofRoom 75 3 [.int a1, .int a2] M KK := by
  intro l D cA cL ad ao f sz hlt hi
  refine vx_ofWH (cc := cL_ofRoom) (maxL := 5) (ret := some .int) (hh := lh_h_ofRoom) (by decide) rfl ?_
  intro p e s m args below meth c s₁ B hml hv
  obtain ⟨hargs, hsz, hP, hK, hX, hN⟩ := hv
  have hx := B.exec
  have hb := B.bytes
  have hr := B.returns
  have hts0 := atoms_spec (ws := lh_w_ofRoom) B.pre
  have hts : ∀ w ∈ mj_G, w.before args s = true := fun w hw => hts0 w (List.mem_cons_of_mem _ hw)
  have hown : s.vm.findClass RL = some m.cls := findClass_of_methodNamed B.named
  have hlocks := B.notSynchronized
  have htab := vx_table (x := yL_link) B (hts0 _ List.mem_cons_self)
  subst hsz
  have hargs2 : args = ([.ref (ad 0), .int a1, .int a2, .ref ao] : List Value).toArray := hargs
  clear hargs
  subst hargs2
  have hS : va_S (lh_A ad ao s.heap.size) s.heap s.heap [] := va_S.rf
  have hl := lv_entry ([.ref (ad 0), .int a1, .int a2, .ref ao]) (n := 5) (Nat.le_of_ble_eq_true rfl)
  rw [lg_entry_eq]
  generalize (lg_sl ([.ref (ad 0), .int a1, .int a2, .ref ao]) ++ List.replicate (5 - (lg_sl ([.ref (ad 0), .int a1, .int a2, .ref ao])).length) Slot.unset).toArray = ls at hl ⊢
  have hl : lv_has ls 5 [(0, .ref (ad 0)), (1, .int a1), (2, .int a2), (3, .ref ao)] := hl
  have hK2 : va_K D mj_cl (mj_tys cA) s := hK.sub [0, 1] rfl
  have hcst : ∀ e, e < 3 → (Cond.castable (mj_E e) (mj_E e)).before ([.ref (ad 0), .int a1, .int a2, .ref ao] : List Value).toArray s = true := fun e he => va_Nw.use rfl ((hX rfl).2.2.2.1 e he)
  refine lv_aload_n hx hb lh_d_ofRoom_0 rfl (lv_at hl 3 rfl) ?_
  refine lv_iconst (v := 0) hx hb lh_d_ofRoom_1 (by decide) ?_
  refine lv_aload_n hx hb lh_d_ofRoom_2 rfl (lv_at hl 0 rfl) ?_
  refine lv_iload_n hx hb lh_d_ofRoom_3 rfl (lv_at hl 1 rfl) ?_
  refine lv_iload_n hx hb lh_d_ofRoom_4 rfl (lv_at hl 2 rfl) ?_
  refine lh_run (as := [.int a1, .int a2]) (rest := [.int 0, .ref ao]) (ad := ad) (lv := 2) (k := 75) (d := 3) (c1 := mj_mc 75) (s1 := 6 * mj_mc 75) (A0 := lh_A ad ao s.heap.size) hx hb hml hl.1 hts hown hlt hi.1 hK2 hX (lh_P1 hP) hS (lh_Asub (Nat.le_refl _)) lh_l_ofRoom (by decide) (by decide +kernel) rfl (fun h => by cases h) rfl rfl rfl (Nat.le_of_ble_eq_true rfl) (by show 2 * 3 + 20 + 1 ≤ 2 * 3 + 21; omega) (by show 8 + (mj_n 75 + 11) + (40 * 3 + 300) ≤ 40 * 3 + 340; decide) (by rw [Nat.zero_add]; exact Nat.le_refl _) (by rw [Nat.zero_add]; exact Nat.le_refl _) (Nat.zero_add _) (Nat.zero_add _) lh_d_ofRoom_5 h (fun v M' H1 locs1 hv hP1 hz hk hS1 => ?_) (fun e' M' ce q9 H1 locs1 hv hP1 hz hk hS1 hce hcv hcl => ?_)
  · have hP2 := lh_P2 hi hP hP1 hk
    refine lv_i2l (v := v.toInt64) hx hb lh_d_ofRoom_8 rfl ?_
    refine va_last hx hb hK hP2 (lh_D hi) hS1 81 2 lh_o rfl (i := 0) (x := v.toInt64) lh_vp lh_d_ofRoom_9 (fun H2 locs2 hP3 hD3 hS3 => ?_)
    rw [lh_set] at hP3
    refine lv_goto (tgt := 21) hx hb lh_d_ofRoom_10 (by decide) ?_
    refine lv_iconst (v := 0) hx hb lh_d_ofRoom_21 (by decide) ?_
    exact vx_ret (W.iret (v := 0) hx hb hr (fun t ht hW => ⟨⟨0, (M', vp_updL f (0 : Int32).toNatClampNeg (v.toInt64)), rfl, by show KK 0 M' (vp_updL f (0 : Int32).toNatClampNeg (v.toInt64) 0); rw [lh_upd]; exact h0 v M' hv, by show va_P D mj_cl (lh_ws cA ad _ ao cL _) t.heap; rw [ht]; exact hP3⟩, hS3.F ht⟩) hS3.2.2 lh_d_ofRoom_22)
  · have hP2 := lh_P2 hi hP hP1 hk
    rcases hh e' M' hv with ⟨rfl, hq⟩ | ⟨rfl, hq⟩
    · have hpass : ∀ z ∈ ([] : List ExceptionTableEntry), covers z 5 = false ∨ (z.catchType ≠ 0 ∧ ∃ nm : String, (Cond.classLink RL z.catchType nm).before ([.ref (ad 0), .int a1, .int a2, .ref ao] : List Value).toArray s = true ∧ va_Nc (mj_E 0) nm s) := fun z hz => absurd hz List.not_mem_nil
      refine vx_catch (name := mj_E 0) hown [] ⟨0, 10, 13, 21⟩ [⟨0, 10, 17, 13⟩] (by rw [htab]; rfl) hpass (by decide) (by decide) (hts _ lh_cl21) (hcst 0 (by decide)) hce hcv hcl ?_
      refine lv_astore hx hb lh_d_ofRoom_13 hl (by decide) rfl (fun ls2 hl2 => ?_)
      refine lv_iconst (v := 1) hx hb lh_d_ofRoom_15 (by decide) ?_
      exact vx_ret (W.iret (v := 1) hx hb hr (fun t ht hW => ⟨⟨1, (M', f), rfl, hq _, by show va_P D mj_cl (lh_ws cA ad _ ao cL _) t.heap; rw [ht]; exact hP2⟩, hS1.F ht⟩) hS1.2.2 lh_d_ofRoom_16)
    · have hpass : ∀ z ∈ ([⟨0, 10, 13, 21⟩] : List ExceptionTableEntry), covers z 5 = false ∨ (z.catchType ≠ 0 ∧ ∃ nm : String, (Cond.classLink RL z.catchType nm).before ([.ref (ad 0), .int a1, .int a2, .ref ao] : List Value).toArray s = true ∧ va_Nc (mj_E 1) nm s) := fun z hz => by
        simp only [List.mem_cons, List.not_mem_nil, or_false] at hz
        rcases hz with rfl
        · exact Or.inr ⟨by decide, mj_E 0, hts _ lh_cl21, hN 1 0 (by decide) (by decide) (by decide)⟩
      refine vx_catch (name := mj_E 1) hown [⟨0, 10, 13, 21⟩] ⟨0, 10, 17, 13⟩ [] (by rw [htab]; rfl) hpass (by decide) (by decide) (hts _ lh_cl13) (hcst 1 (by decide)) hce hcv hcl ?_
      refine lv_astore hx hb lh_d_ofRoom_17 hl (by decide) rfl (fun ls2 hl2 => ?_)
      refine lv_iconst (v := 2) hx hb lh_d_ofRoom_19 (by decide) ?_
      exact vx_ret (W.iret (v := 2) hx hb hr (fun t ht hW => ⟨⟨2, (M', f), rfl, hq _, by show va_P D mj_cl (lh_ws cA ad _ ao cL _) t.heap; rw [ht]; exact hP2⟩, hS1.F ht⟩) hS1.2.2 lh_d_ofRoom_20)
theorem lh_d_ofLink_0 : decode cL_ofLink 0 = .ok (.aload_n 3, 1) := by decide +kernel
theorem lh_d_ofLink_1 : decode cL_ofLink 1 = .ok (.iconst 0, 1) := by decide +kernel
theorem lh_d_ofLink_2 : decode cL_ofLink 2 = .ok (.aload_n 0, 1) := by decide +kernel
theorem lh_d_ofLink_3 : decode cL_ofLink 3 = .ok (.iload_n 1, 1) := by decide +kernel
theorem lh_d_ofLink_4 : decode cL_ofLink 4 = .ok (.iload_n 2, 1) := by decide +kernel
theorem lh_d_ofLink_5 : decode cL_ofLink 5 = .ok (.invokevirtual 51, 3) := by decide +kernel
theorem lh_d_ofLink_8 : decode cL_ofLink 8 = .ok (.i2l, 1) := by decide +kernel
theorem lh_d_ofLink_9 : decode cL_ofLink 9 = .ok (.lastore, 1) := by decide +kernel
theorem lh_d_ofLink_10 : decode cL_ofLink 10 = .ok (.goto (11), 3) := by decide +kernel
theorem lh_d_ofLink_13 : decode cL_ofLink 13 = .ok (.astore 4, 2) := by decide +kernel
theorem lh_d_ofLink_15 : decode cL_ofLink 15 = .ok (.iconst 1, 1) := by decide +kernel
theorem lh_d_ofLink_16 : decode cL_ofLink 16 = .ok (.ireturn, 1) := by decide +kernel
theorem lh_d_ofLink_17 : decode cL_ofLink 17 = .ok (.astore 4, 2) := by decide +kernel
theorem lh_d_ofLink_19 : decode cL_ofLink 19 = .ok (.iconst 2, 1) := by decide +kernel
theorem lh_d_ofLink_20 : decode cL_ofLink 20 = .ok (.ireturn, 1) := by decide +kernel
theorem lh_d_ofLink_21 : decode cL_ofLink 21 = .ok (.iconst 0, 1) := by decide +kernel
theorem lh_d_ofLink_22 : decode cL_ofLink 22 = .ok (.ireturn, 1) := by decide +kernel
abbrev lh_h_ofLink : List (Nat × Nat × Nat × Nat) := [(0, 10, 13, 21), (0, 10, 17, 13)]
def lh_w_ofLink : List Cond := .codeWith yL_ofLink cL_ofLink 5 (some .int) lh_h_ofLink :: mj_G
theorem lh_c_ofLink : Cond.codeWith yL_ofLink cL_ofLink 5 (some .int) lh_h_ofLink ∈ mj_G := mj_inG (List.mem_of_getElem? (i := 811) (by decide +kernel)) rfl
theorem lh_l_ofLink : Cond.methodLink RL 51 (mj_y 76) ∈ mj_G := mj_inG (List.mem_of_getElem? (i := 812) (by decide +kernel)) rfl
set_option maxHeartbeats 4000000 in
set_option maxRecDepth 100000 in
theorem lh_ofLink {a1 a2 : Int32} {M : mj_M} {KK : Int32 → mj_M → Int64 → Prop} {Kc : mj_K} (h : mj_Cm 76 5 [.ref 0, .int a1, .int a2] M Kc) (h0 : ∀ v M', Kc 0 v M' → KK 0 M' v.toInt64) (hh : ∀ e M', Kc (e + 1) 0 M' → (e = 0 ∧ ∀ o, KK 1 M' o) ∨ (e = 1 ∧ ∀ o, KK 2 M' o)) : lh_Cm yL_ofLink lh_w_ofLink 76 5 [.int a1, .int a2] M KK := by
  intro l D cA cL ad ao f sz hlt hi
  refine vx_ofWH (cc := cL_ofLink) (maxL := 5) (ret := some .int) (hh := lh_h_ofLink) (by decide) rfl ?_
  intro p e s m args below meth c s₁ B hml hv
  obtain ⟨hargs, hsz, hP, hK, hX, hN⟩ := hv
  have hx := B.exec
  have hb := B.bytes
  have hr := B.returns
  have hts0 := atoms_spec (ws := lh_w_ofLink) B.pre
  have hts : ∀ w ∈ mj_G, w.before args s = true := fun w hw => hts0 w (List.mem_cons_of_mem _ hw)
  have hown : s.vm.findClass RL = some m.cls := findClass_of_methodNamed B.named
  have hlocks := B.notSynchronized
  have htab := vx_table (x := yL_link) B (hts0 _ List.mem_cons_self)
  subst hsz
  have hargs2 : args = ([.ref (ad 0), .int a1, .int a2, .ref ao] : List Value).toArray := hargs
  clear hargs
  subst hargs2
  have hS : va_S (lh_A ad ao s.heap.size) s.heap s.heap [] := va_S.rf
  have hl := lv_entry ([.ref (ad 0), .int a1, .int a2, .ref ao]) (n := 5) (Nat.le_of_ble_eq_true rfl)
  rw [lg_entry_eq]
  generalize (lg_sl ([.ref (ad 0), .int a1, .int a2, .ref ao]) ++ List.replicate (5 - (lg_sl ([.ref (ad 0), .int a1, .int a2, .ref ao])).length) Slot.unset).toArray = ls at hl ⊢
  have hl : lv_has ls 5 [(0, .ref (ad 0)), (1, .int a1), (2, .int a2), (3, .ref ao)] := hl
  have hK2 : va_K D mj_cl (mj_tys cA) s := hK.sub [0, 1] rfl
  have hcst : ∀ e, e < 3 → (Cond.castable (mj_E e) (mj_E e)).before ([.ref (ad 0), .int a1, .int a2, .ref ao] : List Value).toArray s = true := fun e he => va_Nw.use rfl ((hX rfl).2.2.2.1 e he)
  refine lv_aload_n hx hb lh_d_ofLink_0 rfl (lv_at hl 3 rfl) ?_
  refine lv_iconst (v := 0) hx hb lh_d_ofLink_1 (by decide) ?_
  refine lv_aload_n hx hb lh_d_ofLink_2 rfl (lv_at hl 0 rfl) ?_
  refine lv_iload_n hx hb lh_d_ofLink_3 rfl (lv_at hl 1 rfl) ?_
  refine lv_iload_n hx hb lh_d_ofLink_4 rfl (lv_at hl 2 rfl) ?_
  refine lh_run (as := [.int a1, .int a2]) (rest := [.int 0, .ref ao]) (ad := ad) (lv := 2) (k := 76) (d := 5) (c1 := mj_mc 76) (s1 := 6 * mj_mc 76) (A0 := lh_A ad ao s.heap.size) hx hb hml hl.1 hts hown hlt hi.1 hK2 hX (lh_P1 hP) hS (lh_Asub (Nat.le_refl _)) lh_l_ofLink (by decide) (by decide +kernel) rfl (fun h => by cases h) rfl rfl rfl (Nat.le_of_ble_eq_true rfl) (by show 2 * 5 + 20 + 1 ≤ 2 * 5 + 21; omega) (by show 8 + (mj_n 76 + 11) + (40 * 5 + 300) ≤ 40 * 5 + 340; decide) (by rw [Nat.zero_add]; exact Nat.le_refl _) (by rw [Nat.zero_add]; exact Nat.le_refl _) (Nat.zero_add _) (Nat.zero_add _) lh_d_ofLink_5 h (fun v M' H1 locs1 hv hP1 hz hk hS1 => ?_) (fun e' M' ce q9 H1 locs1 hv hP1 hz hk hS1 hce hcv hcl => ?_)
  · have hP2 := lh_P2 hi hP hP1 hk
    refine lv_i2l (v := v.toInt64) hx hb lh_d_ofLink_8 rfl ?_
    refine va_last hx hb hK hP2 (lh_D hi) hS1 81 2 lh_o rfl (i := 0) (x := v.toInt64) lh_vp lh_d_ofLink_9 (fun H2 locs2 hP3 hD3 hS3 => ?_)
    rw [lh_set] at hP3
    refine lv_goto (tgt := 21) hx hb lh_d_ofLink_10 (by decide) ?_
    refine lv_iconst (v := 0) hx hb lh_d_ofLink_21 (by decide) ?_
    exact vx_ret (W.iret (v := 0) hx hb hr (fun t ht hW => ⟨⟨0, (M', vp_updL f (0 : Int32).toNatClampNeg (v.toInt64)), rfl, by show KK 0 M' (vp_updL f (0 : Int32).toNatClampNeg (v.toInt64) 0); rw [lh_upd]; exact h0 v M' hv, by show va_P D mj_cl (lh_ws cA ad _ ao cL _) t.heap; rw [ht]; exact hP3⟩, hS3.F ht⟩) hS3.2.2 lh_d_ofLink_22)
  · have hP2 := lh_P2 hi hP hP1 hk
    rcases hh e' M' hv with ⟨rfl, hq⟩ | ⟨rfl, hq⟩
    · have hpass : ∀ z ∈ ([] : List ExceptionTableEntry), covers z 5 = false ∨ (z.catchType ≠ 0 ∧ ∃ nm : String, (Cond.classLink RL z.catchType nm).before ([.ref (ad 0), .int a1, .int a2, .ref ao] : List Value).toArray s = true ∧ va_Nc (mj_E 0) nm s) := fun z hz => absurd hz List.not_mem_nil
      refine vx_catch (name := mj_E 0) hown [] ⟨0, 10, 13, 21⟩ [⟨0, 10, 17, 13⟩] (by rw [htab]; rfl) hpass (by decide) (by decide) (hts _ lh_cl21) (hcst 0 (by decide)) hce hcv hcl ?_
      refine lv_astore hx hb lh_d_ofLink_13 hl (by decide) rfl (fun ls2 hl2 => ?_)
      refine lv_iconst (v := 1) hx hb lh_d_ofLink_15 (by decide) ?_
      exact vx_ret (W.iret (v := 1) hx hb hr (fun t ht hW => ⟨⟨1, (M', f), rfl, hq _, by show va_P D mj_cl (lh_ws cA ad _ ao cL _) t.heap; rw [ht]; exact hP2⟩, hS1.F ht⟩) hS1.2.2 lh_d_ofLink_16)
    · have hpass : ∀ z ∈ ([⟨0, 10, 13, 21⟩] : List ExceptionTableEntry), covers z 5 = false ∨ (z.catchType ≠ 0 ∧ ∃ nm : String, (Cond.classLink RL z.catchType nm).before ([.ref (ad 0), .int a1, .int a2, .ref ao] : List Value).toArray s = true ∧ va_Nc (mj_E 1) nm s) := fun z hz => by
        simp only [List.mem_cons, List.not_mem_nil, or_false] at hz
        rcases hz with rfl
        · exact Or.inr ⟨by decide, mj_E 0, hts _ lh_cl21, hN 1 0 (by decide) (by decide) (by decide)⟩
      refine vx_catch (name := mj_E 1) hown [⟨0, 10, 13, 21⟩] ⟨0, 10, 17, 13⟩ [] (by rw [htab]; rfl) hpass (by decide) (by decide) (hts _ lh_cl13) (hcst 1 (by decide)) hce hcv hcl ?_
      refine lv_astore hx hb lh_d_ofLink_17 hl (by decide) rfl (fun ls2 hl2 => ?_)
      refine lv_iconst (v := 2) hx hb lh_d_ofLink_19 (by decide) ?_
      exact vx_ret (W.iret (v := 2) hx hb hr (fun t ht hW => ⟨⟨2, (M', f), rfl, hq _, by show va_P D mj_cl (lh_ws cA ad _ ao cL _) t.heap; rw [ht]; exact hP2⟩, hS1.F ht⟩) hS1.2.2 lh_d_ofLink_20)
theorem lh_d_person_0 : decode cL_person 0 = .ok (.aload_n 3, 1) := by decide +kernel
theorem lh_d_person_1 : decode cL_person 1 = .ok (.iconst 0, 1) := by decide +kernel
theorem lh_d_person_2 : decode cL_person 2 = .ok (.aload_n 0, 1) := by decide +kernel
theorem lh_d_person_3 : decode cL_person 3 = .ok (.iload_n 1, 1) := by decide +kernel
theorem lh_d_person_4 : decode cL_person 4 = .ok (.iload_n 2, 1) := by decide +kernel
theorem lh_d_person_5 : decode cL_person 5 = .ok (.invokevirtual 54, 3) := by decide +kernel
theorem lh_d_person_8 : decode cL_person 8 = .ok (.i2l, 1) := by decide +kernel
theorem lh_d_person_9 : decode cL_person 9 = .ok (.lastore, 1) := by decide +kernel
theorem lh_d_person_10 : decode cL_person 10 = .ok (.goto (11), 3) := by decide +kernel
theorem lh_d_person_13 : decode cL_person 13 = .ok (.astore 4, 2) := by decide +kernel
theorem lh_d_person_15 : decode cL_person 15 = .ok (.iconst 1, 1) := by decide +kernel
theorem lh_d_person_16 : decode cL_person 16 = .ok (.ireturn, 1) := by decide +kernel
theorem lh_d_person_17 : decode cL_person 17 = .ok (.astore 4, 2) := by decide +kernel
theorem lh_d_person_19 : decode cL_person 19 = .ok (.iconst 2, 1) := by decide +kernel
theorem lh_d_person_20 : decode cL_person 20 = .ok (.ireturn, 1) := by decide +kernel
theorem lh_d_person_21 : decode cL_person 21 = .ok (.iconst 0, 1) := by decide +kernel
theorem lh_d_person_22 : decode cL_person 22 = .ok (.ireturn, 1) := by decide +kernel
abbrev lh_h_person : List (Nat × Nat × Nat × Nat) := [(0, 10, 13, 21), (0, 10, 17, 13)]
def lh_w_person : List Cond := .codeWith yL_person cL_person 5 (some .int) lh_h_person :: mj_G
theorem lh_c_person : Cond.codeWith yL_person cL_person 5 (some .int) lh_h_person ∈ mj_G := mj_inG (List.mem_of_getElem? (i := 823) (by decide +kernel)) rfl
theorem lh_l_person : Cond.methodLink RL 54 (mj_y 77) ∈ mj_G := mj_inG (List.mem_of_getElem? (i := 824) (by decide +kernel)) rfl
set_option maxHeartbeats 4000000 in
set_option maxRecDepth 100000 in
theorem lh_person {a1 a2 : Int32} {M : mj_M} {KK : Int32 → mj_M → Int64 → Prop} {Kc : mj_K} (h : mj_Cm 77 4 [.ref 0, .int a1, .int a2] M Kc) (h0 : ∀ v M', Kc 0 v M' → KK 0 M' v.toInt64) (hh : ∀ e M', Kc (e + 1) 0 M' → (e = 0 ∧ ∀ o, KK 1 M' o) ∨ (e = 1 ∧ ∀ o, KK 2 M' o)) : lh_Cm yL_person lh_w_person 77 4 [.int a1, .int a2] M KK := by
  intro l D cA cL ad ao f sz hlt hi
  refine vx_ofWH (cc := cL_person) (maxL := 5) (ret := some .int) (hh := lh_h_person) (by decide) rfl ?_
  intro p e s m args below meth c s₁ B hml hv
  obtain ⟨hargs, hsz, hP, hK, hX, hN⟩ := hv
  have hx := B.exec
  have hb := B.bytes
  have hr := B.returns
  have hts0 := atoms_spec (ws := lh_w_person) B.pre
  have hts : ∀ w ∈ mj_G, w.before args s = true := fun w hw => hts0 w (List.mem_cons_of_mem _ hw)
  have hown : s.vm.findClass RL = some m.cls := findClass_of_methodNamed B.named
  have hlocks := B.notSynchronized
  have htab := vx_table (x := yL_link) B (hts0 _ List.mem_cons_self)
  subst hsz
  have hargs2 : args = ([.ref (ad 0), .int a1, .int a2, .ref ao] : List Value).toArray := hargs
  clear hargs
  subst hargs2
  have hS : va_S (lh_A ad ao s.heap.size) s.heap s.heap [] := va_S.rf
  have hl := lv_entry ([.ref (ad 0), .int a1, .int a2, .ref ao]) (n := 5) (Nat.le_of_ble_eq_true rfl)
  rw [lg_entry_eq]
  generalize (lg_sl ([.ref (ad 0), .int a1, .int a2, .ref ao]) ++ List.replicate (5 - (lg_sl ([.ref (ad 0), .int a1, .int a2, .ref ao])).length) Slot.unset).toArray = ls at hl ⊢
  have hl : lv_has ls 5 [(0, .ref (ad 0)), (1, .int a1), (2, .int a2), (3, .ref ao)] := hl
  have hK2 : va_K D mj_cl (mj_tys cA) s := hK.sub [0, 1] rfl
  have hcst : ∀ e, e < 3 → (Cond.castable (mj_E e) (mj_E e)).before ([.ref (ad 0), .int a1, .int a2, .ref ao] : List Value).toArray s = true := fun e he => va_Nw.use rfl ((hX rfl).2.2.2.1 e he)
  refine lv_aload_n hx hb lh_d_person_0 rfl (lv_at hl 3 rfl) ?_
  refine lv_iconst (v := 0) hx hb lh_d_person_1 (by decide) ?_
  refine lv_aload_n hx hb lh_d_person_2 rfl (lv_at hl 0 rfl) ?_
  refine lv_iload_n hx hb lh_d_person_3 rfl (lv_at hl 1 rfl) ?_
  refine lv_iload_n hx hb lh_d_person_4 rfl (lv_at hl 2 rfl) ?_
  refine lh_run (as := [.int a1, .int a2]) (rest := [.int 0, .ref ao]) (ad := ad) (lv := 2) (k := 77) (d := 4) (c1 := mj_mc 77) (s1 := 6 * mj_mc 77) (A0 := lh_A ad ao s.heap.size) hx hb hml hl.1 hts hown hlt hi.1 hK2 hX (lh_P1 hP) hS (lh_Asub (Nat.le_refl _)) lh_l_person (by decide) (by decide +kernel) rfl (fun h => by cases h) rfl rfl rfl (Nat.le_of_ble_eq_true rfl) (by show 2 * 4 + 20 + 1 ≤ 2 * 4 + 21; omega) (by show 8 + (mj_n 77 + 11) + (40 * 4 + 300) ≤ 40 * 4 + 340; decide) (by rw [Nat.zero_add]; exact Nat.le_refl _) (by rw [Nat.zero_add]; exact Nat.le_refl _) (Nat.zero_add _) (Nat.zero_add _) lh_d_person_5 h (fun v M' H1 locs1 hv hP1 hz hk hS1 => ?_) (fun e' M' ce q9 H1 locs1 hv hP1 hz hk hS1 hce hcv hcl => ?_)
  · have hP2 := lh_P2 hi hP hP1 hk
    refine lv_i2l (v := v.toInt64) hx hb lh_d_person_8 rfl ?_
    refine va_last hx hb hK hP2 (lh_D hi) hS1 81 2 lh_o rfl (i := 0) (x := v.toInt64) lh_vp lh_d_person_9 (fun H2 locs2 hP3 hD3 hS3 => ?_)
    rw [lh_set] at hP3
    refine lv_goto (tgt := 21) hx hb lh_d_person_10 (by decide) ?_
    refine lv_iconst (v := 0) hx hb lh_d_person_21 (by decide) ?_
    exact vx_ret (W.iret (v := 0) hx hb hr (fun t ht hW => ⟨⟨0, (M', vp_updL f (0 : Int32).toNatClampNeg (v.toInt64)), rfl, by show KK 0 M' (vp_updL f (0 : Int32).toNatClampNeg (v.toInt64) 0); rw [lh_upd]; exact h0 v M' hv, by show va_P D mj_cl (lh_ws cA ad _ ao cL _) t.heap; rw [ht]; exact hP3⟩, hS3.F ht⟩) hS3.2.2 lh_d_person_22)
  · have hP2 := lh_P2 hi hP hP1 hk
    rcases hh e' M' hv with ⟨rfl, hq⟩ | ⟨rfl, hq⟩
    · have hpass : ∀ z ∈ ([] : List ExceptionTableEntry), covers z 5 = false ∨ (z.catchType ≠ 0 ∧ ∃ nm : String, (Cond.classLink RL z.catchType nm).before ([.ref (ad 0), .int a1, .int a2, .ref ao] : List Value).toArray s = true ∧ va_Nc (mj_E 0) nm s) := fun z hz => absurd hz List.not_mem_nil
      refine vx_catch (name := mj_E 0) hown [] ⟨0, 10, 13, 21⟩ [⟨0, 10, 17, 13⟩] (by rw [htab]; rfl) hpass (by decide) (by decide) (hts _ lh_cl21) (hcst 0 (by decide)) hce hcv hcl ?_
      refine lv_astore hx hb lh_d_person_13 hl (by decide) rfl (fun ls2 hl2 => ?_)
      refine lv_iconst (v := 1) hx hb lh_d_person_15 (by decide) ?_
      exact vx_ret (W.iret (v := 1) hx hb hr (fun t ht hW => ⟨⟨1, (M', f), rfl, hq _, by show va_P D mj_cl (lh_ws cA ad _ ao cL _) t.heap; rw [ht]; exact hP2⟩, hS1.F ht⟩) hS1.2.2 lh_d_person_16)
    · have hpass : ∀ z ∈ ([⟨0, 10, 13, 21⟩] : List ExceptionTableEntry), covers z 5 = false ∨ (z.catchType ≠ 0 ∧ ∃ nm : String, (Cond.classLink RL z.catchType nm).before ([.ref (ad 0), .int a1, .int a2, .ref ao] : List Value).toArray s = true ∧ va_Nc (mj_E 1) nm s) := fun z hz => by
        simp only [List.mem_cons, List.not_mem_nil, or_false] at hz
        rcases hz with rfl
        · exact Or.inr ⟨by decide, mj_E 0, hts _ lh_cl21, hN 1 0 (by decide) (by decide) (by decide)⟩
      refine vx_catch (name := mj_E 1) hown [⟨0, 10, 13, 21⟩] ⟨0, 10, 17, 13⟩ [] (by rw [htab]; rfl) hpass (by decide) (by decide) (hts _ lh_cl13) (hcst 1 (by decide)) hce hcv hcl ?_
      refine lv_astore hx hb lh_d_person_17 hl (by decide) rfl (fun ls2 hl2 => ?_)
      refine lv_iconst (v := 2) hx hb lh_d_person_19 (by decide) ?_
      exact vx_ret (W.iret (v := 2) hx hb hr (fun t ht hW => ⟨⟨2, (M', f), rfl, hq _, by show va_P D mj_cl (lh_ws cA ad _ ao cL _) t.heap; rw [ht]; exact hP2⟩, hS1.F ht⟩) hS1.2.2 lh_d_person_20)
theorem lh_d_ofTrain_0 : decode cL_ofTrain 0 = .ok (.aload_n 3, 1) := by decide +kernel
theorem lh_d_ofTrain_1 : decode cL_ofTrain 1 = .ok (.iconst 0, 1) := by decide +kernel
theorem lh_d_ofTrain_2 : decode cL_ofTrain 2 = .ok (.aload_n 0, 1) := by decide +kernel
theorem lh_d_ofTrain_3 : decode cL_ofTrain 3 = .ok (.iload_n 1, 1) := by decide +kernel
theorem lh_d_ofTrain_4 : decode cL_ofTrain 4 = .ok (.iload_n 2, 1) := by decide +kernel
theorem lh_d_ofTrain_5 : decode cL_ofTrain 5 = .ok (.invokevirtual 57, 3) := by decide +kernel
theorem lh_d_ofTrain_8 : decode cL_ofTrain 8 = .ok (.i2l, 1) := by decide +kernel
theorem lh_d_ofTrain_9 : decode cL_ofTrain 9 = .ok (.lastore, 1) := by decide +kernel
theorem lh_d_ofTrain_10 : decode cL_ofTrain 10 = .ok (.goto (11), 3) := by decide +kernel
theorem lh_d_ofTrain_13 : decode cL_ofTrain 13 = .ok (.astore 4, 2) := by decide +kernel
theorem lh_d_ofTrain_15 : decode cL_ofTrain 15 = .ok (.iconst 1, 1) := by decide +kernel
theorem lh_d_ofTrain_16 : decode cL_ofTrain 16 = .ok (.ireturn, 1) := by decide +kernel
theorem lh_d_ofTrain_17 : decode cL_ofTrain 17 = .ok (.astore 4, 2) := by decide +kernel
theorem lh_d_ofTrain_19 : decode cL_ofTrain 19 = .ok (.iconst 2, 1) := by decide +kernel
theorem lh_d_ofTrain_20 : decode cL_ofTrain 20 = .ok (.ireturn, 1) := by decide +kernel
theorem lh_d_ofTrain_21 : decode cL_ofTrain 21 = .ok (.iconst 0, 1) := by decide +kernel
theorem lh_d_ofTrain_22 : decode cL_ofTrain 22 = .ok (.ireturn, 1) := by decide +kernel
abbrev lh_h_ofTrain : List (Nat × Nat × Nat × Nat) := [(0, 10, 13, 21), (0, 10, 17, 13)]
def lh_w_ofTrain : List Cond := .codeWith yL_ofTrain cL_ofTrain 5 (some .int) lh_h_ofTrain :: mj_G
theorem lh_c_ofTrain : Cond.codeWith yL_ofTrain cL_ofTrain 5 (some .int) lh_h_ofTrain ∈ mj_G := mj_inG (List.mem_of_getElem? (i := 838) (by decide +kernel)) rfl
theorem lh_l_ofTrain : Cond.methodLink RL 57 (mj_y 78) ∈ mj_G := mj_inG (List.mem_of_getElem? (i := 839) (by decide +kernel)) rfl
set_option maxHeartbeats 4000000 in
set_option maxRecDepth 100000 in
theorem lh_ofTrain {a1 a2 : Int32} {M : mj_M} {KK : Int32 → mj_M → Int64 → Prop} {Kc : mj_K} (h : mj_Cm 78 3 [.ref 0, .int a1, .int a2] M Kc) (h0 : ∀ v M', Kc 0 v M' → KK 0 M' v.toInt64) (hh : ∀ e M', Kc (e + 1) 0 M' → (e = 0 ∧ ∀ o, KK 1 M' o) ∨ (e = 1 ∧ ∀ o, KK 2 M' o)) : lh_Cm yL_ofTrain lh_w_ofTrain 78 3 [.int a1, .int a2] M KK := by
  intro l D cA cL ad ao f sz hlt hi
  refine vx_ofWH (cc := cL_ofTrain) (maxL := 5) (ret := some .int) (hh := lh_h_ofTrain) (by decide) rfl ?_
  intro p e s m args below meth c s₁ B hml hv
  obtain ⟨hargs, hsz, hP, hK, hX, hN⟩ := hv
  have hx := B.exec
  have hb := B.bytes
  have hr := B.returns
  have hts0 := atoms_spec (ws := lh_w_ofTrain) B.pre
  have hts : ∀ w ∈ mj_G, w.before args s = true := fun w hw => hts0 w (List.mem_cons_of_mem _ hw)
  have hown : s.vm.findClass RL = some m.cls := findClass_of_methodNamed B.named
  have hlocks := B.notSynchronized
  have htab := vx_table (x := yL_link) B (hts0 _ List.mem_cons_self)
  subst hsz
  have hargs2 : args = ([.ref (ad 0), .int a1, .int a2, .ref ao] : List Value).toArray := hargs
  clear hargs
  subst hargs2
  have hS : va_S (lh_A ad ao s.heap.size) s.heap s.heap [] := va_S.rf
  have hl := lv_entry ([.ref (ad 0), .int a1, .int a2, .ref ao]) (n := 5) (Nat.le_of_ble_eq_true rfl)
  rw [lg_entry_eq]
  generalize (lg_sl ([.ref (ad 0), .int a1, .int a2, .ref ao]) ++ List.replicate (5 - (lg_sl ([.ref (ad 0), .int a1, .int a2, .ref ao])).length) Slot.unset).toArray = ls at hl ⊢
  have hl : lv_has ls 5 [(0, .ref (ad 0)), (1, .int a1), (2, .int a2), (3, .ref ao)] := hl
  have hK2 : va_K D mj_cl (mj_tys cA) s := hK.sub [0, 1] rfl
  have hcst : ∀ e, e < 3 → (Cond.castable (mj_E e) (mj_E e)).before ([.ref (ad 0), .int a1, .int a2, .ref ao] : List Value).toArray s = true := fun e he => va_Nw.use rfl ((hX rfl).2.2.2.1 e he)
  refine lv_aload_n hx hb lh_d_ofTrain_0 rfl (lv_at hl 3 rfl) ?_
  refine lv_iconst (v := 0) hx hb lh_d_ofTrain_1 (by decide) ?_
  refine lv_aload_n hx hb lh_d_ofTrain_2 rfl (lv_at hl 0 rfl) ?_
  refine lv_iload_n hx hb lh_d_ofTrain_3 rfl (lv_at hl 1 rfl) ?_
  refine lv_iload_n hx hb lh_d_ofTrain_4 rfl (lv_at hl 2 rfl) ?_
  refine lh_run (as := [.int a1, .int a2]) (rest := [.int 0, .ref ao]) (ad := ad) (lv := 2) (k := 78) (d := 3) (c1 := mj_mc 78) (s1 := 6 * mj_mc 78) (A0 := lh_A ad ao s.heap.size) hx hb hml hl.1 hts hown hlt hi.1 hK2 hX (lh_P1 hP) hS (lh_Asub (Nat.le_refl _)) lh_l_ofTrain (by decide) (by decide +kernel) rfl (fun h => by cases h) rfl rfl rfl (Nat.le_of_ble_eq_true rfl) (by show 2 * 3 + 20 + 1 ≤ 2 * 3 + 21; omega) (by show 8 + (mj_n 78 + 11) + (40 * 3 + 300) ≤ 40 * 3 + 340; decide) (by rw [Nat.zero_add]; exact Nat.le_refl _) (by rw [Nat.zero_add]; exact Nat.le_refl _) (Nat.zero_add _) (Nat.zero_add _) lh_d_ofTrain_5 h (fun v M' H1 locs1 hv hP1 hz hk hS1 => ?_) (fun e' M' ce q9 H1 locs1 hv hP1 hz hk hS1 hce hcv hcl => ?_)
  · have hP2 := lh_P2 hi hP hP1 hk
    refine lv_i2l (v := v.toInt64) hx hb lh_d_ofTrain_8 rfl ?_
    refine va_last hx hb hK hP2 (lh_D hi) hS1 81 2 lh_o rfl (i := 0) (x := v.toInt64) lh_vp lh_d_ofTrain_9 (fun H2 locs2 hP3 hD3 hS3 => ?_)
    rw [lh_set] at hP3
    refine lv_goto (tgt := 21) hx hb lh_d_ofTrain_10 (by decide) ?_
    refine lv_iconst (v := 0) hx hb lh_d_ofTrain_21 (by decide) ?_
    exact vx_ret (W.iret (v := 0) hx hb hr (fun t ht hW => ⟨⟨0, (M', vp_updL f (0 : Int32).toNatClampNeg (v.toInt64)), rfl, by show KK 0 M' (vp_updL f (0 : Int32).toNatClampNeg (v.toInt64) 0); rw [lh_upd]; exact h0 v M' hv, by show va_P D mj_cl (lh_ws cA ad _ ao cL _) t.heap; rw [ht]; exact hP3⟩, hS3.F ht⟩) hS3.2.2 lh_d_ofTrain_22)
  · have hP2 := lh_P2 hi hP hP1 hk
    rcases hh e' M' hv with ⟨rfl, hq⟩ | ⟨rfl, hq⟩
    · have hpass : ∀ z ∈ ([] : List ExceptionTableEntry), covers z 5 = false ∨ (z.catchType ≠ 0 ∧ ∃ nm : String, (Cond.classLink RL z.catchType nm).before ([.ref (ad 0), .int a1, .int a2, .ref ao] : List Value).toArray s = true ∧ va_Nc (mj_E 0) nm s) := fun z hz => absurd hz List.not_mem_nil
      refine vx_catch (name := mj_E 0) hown [] ⟨0, 10, 13, 21⟩ [⟨0, 10, 17, 13⟩] (by rw [htab]; rfl) hpass (by decide) (by decide) (hts _ lh_cl21) (hcst 0 (by decide)) hce hcv hcl ?_
      refine lv_astore hx hb lh_d_ofTrain_13 hl (by decide) rfl (fun ls2 hl2 => ?_)
      refine lv_iconst (v := 1) hx hb lh_d_ofTrain_15 (by decide) ?_
      exact vx_ret (W.iret (v := 1) hx hb hr (fun t ht hW => ⟨⟨1, (M', f), rfl, hq _, by show va_P D mj_cl (lh_ws cA ad _ ao cL _) t.heap; rw [ht]; exact hP2⟩, hS1.F ht⟩) hS1.2.2 lh_d_ofTrain_16)
    · have hpass : ∀ z ∈ ([⟨0, 10, 13, 21⟩] : List ExceptionTableEntry), covers z 5 = false ∨ (z.catchType ≠ 0 ∧ ∃ nm : String, (Cond.classLink RL z.catchType nm).before ([.ref (ad 0), .int a1, .int a2, .ref ao] : List Value).toArray s = true ∧ va_Nc (mj_E 1) nm s) := fun z hz => by
        simp only [List.mem_cons, List.not_mem_nil, or_false] at hz
        rcases hz with rfl
        · exact Or.inr ⟨by decide, mj_E 0, hts _ lh_cl21, hN 1 0 (by decide) (by decide) (by decide)⟩
      refine vx_catch (name := mj_E 1) hown [⟨0, 10, 13, 21⟩] ⟨0, 10, 17, 13⟩ [] (by rw [htab]; rfl) hpass (by decide) (by decide) (hts _ lh_cl13) (hcst 1 (by decide)) hce hcv hcl ?_
      refine lv_astore hx hb lh_d_ofTrain_17 hl (by decide) rfl (fun ls2 hl2 => ?_)
      refine lv_iconst (v := 2) hx hb lh_d_ofTrain_19 (by decide) ?_
      exact vx_ret (W.iret (v := 2) hx hb hr (fun t ht hW => ⟨⟨2, (M', f), rfl, hq _, by show va_P D mj_cl (lh_ws cA ad _ ao cL _) t.heap; rw [ht]; exact hP2⟩, hS1.F ht⟩) hS1.2.2 lh_d_ofTrain_20)
theorem lh_d_foretell_0 : decode cL_foretell 0 = .ok (.aload_n 3, 1) := by decide +kernel
theorem lh_d_foretell_1 : decode cL_foretell 1 = .ok (.iconst 0, 1) := by decide +kernel
theorem lh_d_foretell_2 : decode cL_foretell 2 = .ok (.aload_n 0, 1) := by decide +kernel
theorem lh_d_foretell_3 : decode cL_foretell 3 = .ok (.iload_n 1, 1) := by decide +kernel
theorem lh_d_foretell_4 : decode cL_foretell 4 = .ok (.iload_n 2, 1) := by decide +kernel
theorem lh_d_foretell_5 : decode cL_foretell 5 = .ok (.invokevirtual 60, 3) := by decide +kernel
theorem lh_d_foretell_8 : decode cL_foretell 8 = .ok (.i2l, 1) := by decide +kernel
theorem lh_d_foretell_9 : decode cL_foretell 9 = .ok (.lastore, 1) := by decide +kernel
theorem lh_d_foretell_10 : decode cL_foretell 10 = .ok (.goto (11), 3) := by decide +kernel
theorem lh_d_foretell_13 : decode cL_foretell 13 = .ok (.astore 4, 2) := by decide +kernel
theorem lh_d_foretell_15 : decode cL_foretell 15 = .ok (.iconst 1, 1) := by decide +kernel
theorem lh_d_foretell_16 : decode cL_foretell 16 = .ok (.ireturn, 1) := by decide +kernel
theorem lh_d_foretell_17 : decode cL_foretell 17 = .ok (.astore 4, 2) := by decide +kernel
theorem lh_d_foretell_19 : decode cL_foretell 19 = .ok (.iconst 2, 1) := by decide +kernel
theorem lh_d_foretell_20 : decode cL_foretell 20 = .ok (.ireturn, 1) := by decide +kernel
theorem lh_d_foretell_21 : decode cL_foretell 21 = .ok (.iconst 0, 1) := by decide +kernel
theorem lh_d_foretell_22 : decode cL_foretell 22 = .ok (.ireturn, 1) := by decide +kernel
abbrev lh_h_foretell : List (Nat × Nat × Nat × Nat) := [(0, 10, 13, 21), (0, 10, 17, 13)]
def lh_w_foretell : List Cond := .codeWith yL_foretell cL_foretell 5 (some .int) lh_h_foretell :: mj_G
theorem lh_c_foretell : Cond.codeWith yL_foretell cL_foretell 5 (some .int) lh_h_foretell ∈ mj_G := mj_inG (List.mem_of_getElem? (i := 852) (by decide +kernel)) rfl
theorem lh_l_foretell : Cond.methodLink RL 60 (mj_y 79) ∈ mj_G := mj_inG (List.mem_of_getElem? (i := 853) (by decide +kernel)) rfl
set_option maxHeartbeats 4000000 in
set_option maxRecDepth 100000 in
theorem lh_foretell {a1 a2 : Int32} {M : mj_M} {KK : Int32 → mj_M → Int64 → Prop} {Kc : mj_K} (h : mj_Cm 79 7 [.ref 0, .int a1, .int a2] M Kc) (h0 : ∀ v M', Kc 0 v M' → KK 0 M' v.toInt64) (hh : ∀ e M', Kc (e + 1) 0 M' → (e = 0 ∧ ∀ o, KK 1 M' o) ∨ (e = 1 ∧ ∀ o, KK 2 M' o)) : lh_Cm yL_foretell lh_w_foretell 79 7 [.int a1, .int a2] M KK := by
  intro l D cA cL ad ao f sz hlt hi
  refine vx_ofWH (cc := cL_foretell) (maxL := 5) (ret := some .int) (hh := lh_h_foretell) (by decide) rfl ?_
  intro p e s m args below meth c s₁ B hml hv
  obtain ⟨hargs, hsz, hP, hK, hX, hN⟩ := hv
  have hx := B.exec
  have hb := B.bytes
  have hr := B.returns
  have hts0 := atoms_spec (ws := lh_w_foretell) B.pre
  have hts : ∀ w ∈ mj_G, w.before args s = true := fun w hw => hts0 w (List.mem_cons_of_mem _ hw)
  have hown : s.vm.findClass RL = some m.cls := findClass_of_methodNamed B.named
  have hlocks := B.notSynchronized
  have htab := vx_table (x := yL_link) B (hts0 _ List.mem_cons_self)
  subst hsz
  have hargs2 : args = ([.ref (ad 0), .int a1, .int a2, .ref ao] : List Value).toArray := hargs
  clear hargs
  subst hargs2
  have hS : va_S (lh_A ad ao s.heap.size) s.heap s.heap [] := va_S.rf
  have hl := lv_entry ([.ref (ad 0), .int a1, .int a2, .ref ao]) (n := 5) (Nat.le_of_ble_eq_true rfl)
  rw [lg_entry_eq]
  generalize (lg_sl ([.ref (ad 0), .int a1, .int a2, .ref ao]) ++ List.replicate (5 - (lg_sl ([.ref (ad 0), .int a1, .int a2, .ref ao])).length) Slot.unset).toArray = ls at hl ⊢
  have hl : lv_has ls 5 [(0, .ref (ad 0)), (1, .int a1), (2, .int a2), (3, .ref ao)] := hl
  have hK2 : va_K D mj_cl (mj_tys cA) s := hK.sub [0, 1] rfl
  have hcst : ∀ e, e < 3 → (Cond.castable (mj_E e) (mj_E e)).before ([.ref (ad 0), .int a1, .int a2, .ref ao] : List Value).toArray s = true := fun e he => va_Nw.use rfl ((hX rfl).2.2.2.1 e he)
  refine lv_aload_n hx hb lh_d_foretell_0 rfl (lv_at hl 3 rfl) ?_
  refine lv_iconst (v := 0) hx hb lh_d_foretell_1 (by decide) ?_
  refine lv_aload_n hx hb lh_d_foretell_2 rfl (lv_at hl 0 rfl) ?_
  refine lv_iload_n hx hb lh_d_foretell_3 rfl (lv_at hl 1 rfl) ?_
  refine lv_iload_n hx hb lh_d_foretell_4 rfl (lv_at hl 2 rfl) ?_
  refine lh_run (as := [.int a1, .int a2]) (rest := [.int 0, .ref ao]) (ad := ad) (lv := 2) (k := 79) (d := 7) (c1 := mj_mc 79) (s1 := 6 * mj_mc 79) (A0 := lh_A ad ao s.heap.size) hx hb hml hl.1 hts hown hlt hi.1 hK2 hX (lh_P1 hP) hS (lh_Asub (Nat.le_refl _)) lh_l_foretell (by decide) (by decide +kernel) rfl (fun h => by cases h) rfl rfl rfl (Nat.le_of_ble_eq_true rfl) (by show 2 * 7 + 20 + 1 ≤ 2 * 7 + 21; omega) (by show 8 + (mj_n 79 + 11) + (40 * 7 + 300) ≤ 40 * 7 + 340; decide) (by rw [Nat.zero_add]; exact Nat.le_refl _) (by rw [Nat.zero_add]; exact Nat.le_refl _) (Nat.zero_add _) (Nat.zero_add _) lh_d_foretell_5 h (fun v M' H1 locs1 hv hP1 hz hk hS1 => ?_) (fun e' M' ce q9 H1 locs1 hv hP1 hz hk hS1 hce hcv hcl => ?_)
  · have hP2 := lh_P2 hi hP hP1 hk
    refine lv_i2l (v := v.toInt64) hx hb lh_d_foretell_8 rfl ?_
    refine va_last hx hb hK hP2 (lh_D hi) hS1 81 2 lh_o rfl (i := 0) (x := v.toInt64) lh_vp lh_d_foretell_9 (fun H2 locs2 hP3 hD3 hS3 => ?_)
    rw [lh_set] at hP3
    refine lv_goto (tgt := 21) hx hb lh_d_foretell_10 (by decide) ?_
    refine lv_iconst (v := 0) hx hb lh_d_foretell_21 (by decide) ?_
    exact vx_ret (W.iret (v := 0) hx hb hr (fun t ht hW => ⟨⟨0, (M', vp_updL f (0 : Int32).toNatClampNeg (v.toInt64)), rfl, by show KK 0 M' (vp_updL f (0 : Int32).toNatClampNeg (v.toInt64) 0); rw [lh_upd]; exact h0 v M' hv, by show va_P D mj_cl (lh_ws cA ad _ ao cL _) t.heap; rw [ht]; exact hP3⟩, hS3.F ht⟩) hS3.2.2 lh_d_foretell_22)
  · have hP2 := lh_P2 hi hP hP1 hk
    rcases hh e' M' hv with ⟨rfl, hq⟩ | ⟨rfl, hq⟩
    · have hpass : ∀ z ∈ ([] : List ExceptionTableEntry), covers z 5 = false ∨ (z.catchType ≠ 0 ∧ ∃ nm : String, (Cond.classLink RL z.catchType nm).before ([.ref (ad 0), .int a1, .int a2, .ref ao] : List Value).toArray s = true ∧ va_Nc (mj_E 0) nm s) := fun z hz => absurd hz List.not_mem_nil
      refine vx_catch (name := mj_E 0) hown [] ⟨0, 10, 13, 21⟩ [⟨0, 10, 17, 13⟩] (by rw [htab]; rfl) hpass (by decide) (by decide) (hts _ lh_cl21) (hcst 0 (by decide)) hce hcv hcl ?_
      refine lv_astore hx hb lh_d_foretell_13 hl (by decide) rfl (fun ls2 hl2 => ?_)
      refine lv_iconst (v := 1) hx hb lh_d_foretell_15 (by decide) ?_
      exact vx_ret (W.iret (v := 1) hx hb hr (fun t ht hW => ⟨⟨1, (M', f), rfl, hq _, by show va_P D mj_cl (lh_ws cA ad _ ao cL _) t.heap; rw [ht]; exact hP2⟩, hS1.F ht⟩) hS1.2.2 lh_d_foretell_16)
    · have hpass : ∀ z ∈ ([⟨0, 10, 13, 21⟩] : List ExceptionTableEntry), covers z 5 = false ∨ (z.catchType ≠ 0 ∧ ∃ nm : String, (Cond.classLink RL z.catchType nm).before ([.ref (ad 0), .int a1, .int a2, .ref ao] : List Value).toArray s = true ∧ va_Nc (mj_E 1) nm s) := fun z hz => by
        simp only [List.mem_cons, List.not_mem_nil, or_false] at hz
        rcases hz with rfl
        · exact Or.inr ⟨by decide, mj_E 0, hts _ lh_cl21, hN 1 0 (by decide) (by decide) (by decide)⟩
      refine vx_catch (name := mj_E 1) hown [⟨0, 10, 13, 21⟩] ⟨0, 10, 17, 13⟩ [] (by rw [htab]; rfl) hpass (by decide) (by decide) (hts _ lh_cl13) (hcst 1 (by decide)) hce hcv hcl ?_
      refine lv_astore hx hb lh_d_foretell_17 hl (by decide) rfl (fun ls2 hl2 => ?_)
      refine lv_iconst (v := 2) hx hb lh_d_foretell_19 (by decide) ?_
      exact vx_ret (W.iret (v := 2) hx hb hr (fun t ht hW => ⟨⟨2, (M', f), rfl, hq _, by show va_P D mj_cl (lh_ws cA ad _ ao cL _) t.heap; rw [ht]; exact hP2⟩, hS1.F ht⟩) hS1.2.2 lh_d_foretell_20)
theorem lh_d_alone_0 : decode cL_alone 0 = .ok (.aload_n 2, 1) := by decide +kernel
theorem lh_d_alone_1 : decode cL_alone 1 = .ok (.iconst 0, 1) := by decide +kernel
theorem lh_d_alone_2 : decode cL_alone 2 = .ok (.aload_n 0, 1) := by decide +kernel
theorem lh_d_alone_3 : decode cL_alone 3 = .ok (.iload_n 1, 1) := by decide +kernel
theorem lh_d_alone_4 : decode cL_alone 4 = .ok (.invokevirtual 63, 3) := by decide +kernel
theorem lh_d_alone_7 : decode cL_alone 7 = .ok (.i2l, 1) := by decide +kernel
theorem lh_d_alone_8 : decode cL_alone 8 = .ok (.lastore, 1) := by decide +kernel
theorem lh_d_alone_9 : decode cL_alone 9 = .ok (.goto (6), 3) := by decide +kernel
theorem lh_d_alone_12 : decode cL_alone 12 = .ok (.astore_n 3, 1) := by decide +kernel
theorem lh_d_alone_13 : decode cL_alone 13 = .ok (.iconst 1, 1) := by decide +kernel
theorem lh_d_alone_14 : decode cL_alone 14 = .ok (.ireturn, 1) := by decide +kernel
theorem lh_d_alone_15 : decode cL_alone 15 = .ok (.iconst 0, 1) := by decide +kernel
theorem lh_d_alone_16 : decode cL_alone 16 = .ok (.ireturn, 1) := by decide +kernel
abbrev lh_h_alone : List (Nat × Nat × Nat × Nat) := [(0, 9, 12, 21)]
def lh_w_alone : List Cond := .codeWith yL_alone cL_alone 4 (some .int) lh_h_alone :: mj_G
theorem lh_c_alone : Cond.codeWith yL_alone cL_alone 4 (some .int) lh_h_alone ∈ mj_G := mj_inG (List.mem_of_getElem? (i := 859) (by decide +kernel)) rfl
theorem lh_l_alone : Cond.methodLink RL 63 (mj_y 81) ∈ mj_G := mj_inG (List.mem_of_getElem? (i := 860) (by decide +kernel)) rfl
set_option maxHeartbeats 4000000 in
set_option maxRecDepth 100000 in
theorem lh_alone {a1 : Int32} {M : mj_M} {KK : Int32 → mj_M → Int64 → Prop} {Kc : mj_K} (h : mj_Cm 81 4 [.ref 0, .int a1] M Kc) (h0 : ∀ v M', Kc 0 v M' → KK 0 M' v.toInt64) (hh : ∀ e M', Kc (e + 1) 0 M' → (e = 0 ∧ ∀ o, KK 1 M' o)) : lh_Cm yL_alone lh_w_alone 81 4 [.int a1] M KK := by
  intro l D cA cL ad ao f sz hlt hi
  refine vx_ofWH (cc := cL_alone) (maxL := 4) (ret := some .int) (hh := lh_h_alone) (by decide) rfl ?_
  intro p e s m args below meth c s₁ B hml hv
  obtain ⟨hargs, hsz, hP, hK, hX, hN⟩ := hv
  have hx := B.exec
  have hb := B.bytes
  have hr := B.returns
  have hts0 := atoms_spec (ws := lh_w_alone) B.pre
  have hts : ∀ w ∈ mj_G, w.before args s = true := fun w hw => hts0 w (List.mem_cons_of_mem _ hw)
  have hown : s.vm.findClass RL = some m.cls := findClass_of_methodNamed B.named
  have hlocks := B.notSynchronized
  have htab := vx_table (x := yL_link) B (hts0 _ List.mem_cons_self)
  subst hsz
  have hargs2 : args = ([.ref (ad 0), .int a1, .ref ao] : List Value).toArray := hargs
  clear hargs
  subst hargs2
  have hS : va_S (lh_A ad ao s.heap.size) s.heap s.heap [] := va_S.rf
  have hl := lv_entry ([.ref (ad 0), .int a1, .ref ao]) (n := 4) (Nat.le_of_ble_eq_true rfl)
  rw [lg_entry_eq]
  generalize (lg_sl ([.ref (ad 0), .int a1, .ref ao]) ++ List.replicate (4 - (lg_sl ([.ref (ad 0), .int a1, .ref ao])).length) Slot.unset).toArray = ls at hl ⊢
  have hl : lv_has ls 4 [(0, .ref (ad 0)), (1, .int a1), (2, .ref ao)] := hl
  have hK2 : va_K D mj_cl (mj_tys cA) s := hK.sub [0, 1] rfl
  have hcst : ∀ e, e < 3 → (Cond.castable (mj_E e) (mj_E e)).before ([.ref (ad 0), .int a1, .ref ao] : List Value).toArray s = true := fun e he => va_Nw.use rfl ((hX rfl).2.2.2.1 e he)
  refine lv_aload_n hx hb lh_d_alone_0 rfl (lv_at hl 2 rfl) ?_
  refine lv_iconst (v := 0) hx hb lh_d_alone_1 (by decide) ?_
  refine lv_aload_n hx hb lh_d_alone_2 rfl (lv_at hl 0 rfl) ?_
  refine lv_iload_n hx hb lh_d_alone_3 rfl (lv_at hl 1 rfl) ?_
  refine lh_run (as := [.int a1]) (rest := [.int 0, .ref ao]) (ad := ad) (lv := 2) (k := 81) (d := 4) (c1 := mj_mc 81) (s1 := 6 * mj_mc 81) (A0 := lh_A ad ao s.heap.size) hx hb hml hl.1 hts hown hlt hi.1 hK2 hX (lh_P1 hP) hS (lh_Asub (Nat.le_refl _)) lh_l_alone (by decide) (by decide +kernel) rfl (fun h => by cases h) rfl rfl rfl (Nat.le_of_ble_eq_true rfl) (by show 2 * 4 + 20 + 1 ≤ 2 * 4 + 21; omega) (by show 8 + (mj_n 81 + 11) + (40 * 4 + 300) ≤ 40 * 4 + 340; decide) (by rw [Nat.zero_add]; exact Nat.le_refl _) (by rw [Nat.zero_add]; exact Nat.le_refl _) (Nat.zero_add _) (Nat.zero_add _) lh_d_alone_4 h (fun v M' H1 locs1 hv hP1 hz hk hS1 => ?_) (fun e' M' ce q9 H1 locs1 hv hP1 hz hk hS1 hce hcv hcl => ?_)
  · have hP2 := lh_P2 hi hP hP1 hk
    refine lv_i2l (v := v.toInt64) hx hb lh_d_alone_7 rfl ?_
    refine va_last hx hb hK hP2 (lh_D hi) hS1 81 2 lh_o rfl (i := 0) (x := v.toInt64) lh_vp lh_d_alone_8 (fun H2 locs2 hP3 hD3 hS3 => ?_)
    rw [lh_set] at hP3
    refine lv_goto (tgt := 15) hx hb lh_d_alone_9 (by decide) ?_
    refine lv_iconst (v := 0) hx hb lh_d_alone_15 (by decide) ?_
    exact vx_ret (W.iret (v := 0) hx hb hr (fun t ht hW => ⟨⟨0, (M', vp_updL f (0 : Int32).toNatClampNeg (v.toInt64)), rfl, by show KK 0 M' (vp_updL f (0 : Int32).toNatClampNeg (v.toInt64) 0); rw [lh_upd]; exact h0 v M' hv, by show va_P D mj_cl (lh_ws cA ad _ ao cL _) t.heap; rw [ht]; exact hP3⟩, hS3.F ht⟩) hS3.2.2 lh_d_alone_16)
  · have hP2 := lh_P2 hi hP hP1 hk
    rcases hh e' M' hv with ⟨rfl, hq⟩
    · have hpass : ∀ z ∈ ([] : List ExceptionTableEntry), covers z 4 = false ∨ (z.catchType ≠ 0 ∧ ∃ nm : String, (Cond.classLink RL z.catchType nm).before ([.ref (ad 0), .int a1, .ref ao] : List Value).toArray s = true ∧ va_Nc (mj_E 0) nm s) := fun z hz => absurd hz List.not_mem_nil
      refine vx_catch (name := mj_E 0) hown [] ⟨0, 9, 12, 21⟩ [] (by rw [htab]; rfl) hpass (by decide) (by decide) (hts _ lh_cl21) (hcst 0 (by decide)) hce hcv hcl ?_
      refine lv_astore_n hx hb lh_d_alone_12 rfl hl (by decide) rfl (fun ls2 hl2 => ?_)
      refine lv_iconst (v := 1) hx hb lh_d_alone_13 (by decide) ?_
      exact vx_ret (W.iret (v := 1) hx hb hr (fun t ht hW => ⟨⟨1, (M', f), rfl, hq _, by show va_P D mj_cl (lh_ws cA ad _ ao cL _) t.heap; rw [ht]; exact hP2⟩, hS1.F ht⟩) hS1.2.2 lh_d_alone_14)
theorem lh_d_aloneAnew_0 : decode cL_aloneAnew 0 = .ok (.aload_n 2, 1) := by decide +kernel
theorem lh_d_aloneAnew_1 : decode cL_aloneAnew 1 = .ok (.iconst 0, 1) := by decide +kernel
theorem lh_d_aloneAnew_2 : decode cL_aloneAnew 2 = .ok (.aload_n 0, 1) := by decide +kernel
theorem lh_d_aloneAnew_3 : decode cL_aloneAnew 3 = .ok (.iload_n 1, 1) := by decide +kernel
theorem lh_d_aloneAnew_4 : decode cL_aloneAnew 4 = .ok (.invokevirtual 66, 3) := by decide +kernel
theorem lh_d_aloneAnew_7 : decode cL_aloneAnew 7 = .ok (.i2l, 1) := by decide +kernel
theorem lh_d_aloneAnew_8 : decode cL_aloneAnew 8 = .ok (.lastore, 1) := by decide +kernel
theorem lh_d_aloneAnew_9 : decode cL_aloneAnew 9 = .ok (.goto (6), 3) := by decide +kernel
theorem lh_d_aloneAnew_12 : decode cL_aloneAnew 12 = .ok (.astore_n 3, 1) := by decide +kernel
theorem lh_d_aloneAnew_13 : decode cL_aloneAnew 13 = .ok (.iconst 1, 1) := by decide +kernel
theorem lh_d_aloneAnew_14 : decode cL_aloneAnew 14 = .ok (.ireturn, 1) := by decide +kernel
theorem lh_d_aloneAnew_15 : decode cL_aloneAnew 15 = .ok (.iconst 0, 1) := by decide +kernel
theorem lh_d_aloneAnew_16 : decode cL_aloneAnew 16 = .ok (.ireturn, 1) := by decide +kernel
abbrev lh_h_aloneAnew : List (Nat × Nat × Nat × Nat) := [(0, 9, 12, 21)]
def lh_w_aloneAnew : List Cond := .codeWith yL_aloneAnew cL_aloneAnew 4 (some .int) lh_h_aloneAnew :: mj_G
theorem lh_c_aloneAnew : Cond.codeWith yL_aloneAnew cL_aloneAnew 4 (some .int) lh_h_aloneAnew ∈ mj_G := mj_inG (List.mem_of_getElem? (i := 870) (by decide +kernel)) rfl
theorem lh_l_aloneAnew : Cond.methodLink RL 66 (mj_y 82) ∈ mj_G := mj_inG (List.mem_of_getElem? (i := 871) (by decide +kernel)) rfl
set_option maxHeartbeats 4000000 in
set_option maxRecDepth 100000 in
theorem lh_aloneAnew {a1 : Int32} {M : mj_M} {KK : Int32 → mj_M → Int64 → Prop} {Kc : mj_K} (h : mj_Cm 82 16 [.ref 0, .int a1] M Kc) (h0 : ∀ v M', Kc 0 v M' → KK 0 M' v.toInt64) (hh : ∀ e M', Kc (e + 1) 0 M' → (e = 0 ∧ ∀ o, KK 1 M' o)) : lh_Cm yL_aloneAnew lh_w_aloneAnew 82 16 [.int a1] M KK := by
  intro l D cA cL ad ao f sz hlt hi
  refine vx_ofWH (cc := cL_aloneAnew) (maxL := 4) (ret := some .int) (hh := lh_h_aloneAnew) (by decide) rfl ?_
  intro p e s m args below meth c s₁ B hml hv
  obtain ⟨hargs, hsz, hP, hK, hX, hN⟩ := hv
  have hx := B.exec
  have hb := B.bytes
  have hr := B.returns
  have hts0 := atoms_spec (ws := lh_w_aloneAnew) B.pre
  have hts : ∀ w ∈ mj_G, w.before args s = true := fun w hw => hts0 w (List.mem_cons_of_mem _ hw)
  have hown : s.vm.findClass RL = some m.cls := findClass_of_methodNamed B.named
  have hlocks := B.notSynchronized
  have htab := vx_table (x := yL_link) B (hts0 _ List.mem_cons_self)
  subst hsz
  have hargs2 : args = ([.ref (ad 0), .int a1, .ref ao] : List Value).toArray := hargs
  clear hargs
  subst hargs2
  have hS : va_S (lh_A ad ao s.heap.size) s.heap s.heap [] := va_S.rf
  have hl := lv_entry ([.ref (ad 0), .int a1, .ref ao]) (n := 4) (Nat.le_of_ble_eq_true rfl)
  rw [lg_entry_eq]
  generalize (lg_sl ([.ref (ad 0), .int a1, .ref ao]) ++ List.replicate (4 - (lg_sl ([.ref (ad 0), .int a1, .ref ao])).length) Slot.unset).toArray = ls at hl ⊢
  have hl : lv_has ls 4 [(0, .ref (ad 0)), (1, .int a1), (2, .ref ao)] := hl
  have hK2 : va_K D mj_cl (mj_tys cA) s := hK.sub [0, 1] rfl
  have hcst : ∀ e, e < 3 → (Cond.castable (mj_E e) (mj_E e)).before ([.ref (ad 0), .int a1, .ref ao] : List Value).toArray s = true := fun e he => va_Nw.use rfl ((hX rfl).2.2.2.1 e he)
  refine lv_aload_n hx hb lh_d_aloneAnew_0 rfl (lv_at hl 2 rfl) ?_
  refine lv_iconst (v := 0) hx hb lh_d_aloneAnew_1 (by decide) ?_
  refine lv_aload_n hx hb lh_d_aloneAnew_2 rfl (lv_at hl 0 rfl) ?_
  refine lv_iload_n hx hb lh_d_aloneAnew_3 rfl (lv_at hl 1 rfl) ?_
  refine lh_run (as := [.int a1]) (rest := [.int 0, .ref ao]) (ad := ad) (lv := 2) (k := 82) (d := 16) (c1 := mj_mc 82) (s1 := 6 * mj_mc 82) (A0 := lh_A ad ao s.heap.size) hx hb hml hl.1 hts hown hlt hi.1 hK2 hX (lh_P1 hP) hS (lh_Asub (Nat.le_refl _)) lh_l_aloneAnew (by decide) (by decide +kernel) rfl (fun h => by cases h) rfl rfl rfl (Nat.le_of_ble_eq_true rfl) (by show 2 * 16 + 20 + 1 ≤ 2 * 16 + 21; omega) (by show 8 + (mj_n 82 + 11) + (40 * 16 + 300) ≤ 40 * 16 + 340; decide) (by rw [Nat.zero_add]; exact Nat.le_refl _) (by rw [Nat.zero_add]; exact Nat.le_refl _) (Nat.zero_add _) (Nat.zero_add _) lh_d_aloneAnew_4 h (fun v M' H1 locs1 hv hP1 hz hk hS1 => ?_) (fun e' M' ce q9 H1 locs1 hv hP1 hz hk hS1 hce hcv hcl => ?_)
  · have hP2 := lh_P2 hi hP hP1 hk
    refine lv_i2l (v := v.toInt64) hx hb lh_d_aloneAnew_7 rfl ?_
    refine va_last hx hb hK hP2 (lh_D hi) hS1 81 2 lh_o rfl (i := 0) (x := v.toInt64) lh_vp lh_d_aloneAnew_8 (fun H2 locs2 hP3 hD3 hS3 => ?_)
    rw [lh_set] at hP3
    refine lv_goto (tgt := 15) hx hb lh_d_aloneAnew_9 (by decide) ?_
    refine lv_iconst (v := 0) hx hb lh_d_aloneAnew_15 (by decide) ?_
    exact vx_ret (W.iret (v := 0) hx hb hr (fun t ht hW => ⟨⟨0, (M', vp_updL f (0 : Int32).toNatClampNeg (v.toInt64)), rfl, by show KK 0 M' (vp_updL f (0 : Int32).toNatClampNeg (v.toInt64) 0); rw [lh_upd]; exact h0 v M' hv, by show va_P D mj_cl (lh_ws cA ad _ ao cL _) t.heap; rw [ht]; exact hP3⟩, hS3.F ht⟩) hS3.2.2 lh_d_aloneAnew_16)
  · have hP2 := lh_P2 hi hP hP1 hk
    rcases hh e' M' hv with ⟨rfl, hq⟩
    · have hpass : ∀ z ∈ ([] : List ExceptionTableEntry), covers z 4 = false ∨ (z.catchType ≠ 0 ∧ ∃ nm : String, (Cond.classLink RL z.catchType nm).before ([.ref (ad 0), .int a1, .ref ao] : List Value).toArray s = true ∧ va_Nc (mj_E 0) nm s) := fun z hz => absurd hz List.not_mem_nil
      refine vx_catch (name := mj_E 0) hown [] ⟨0, 9, 12, 21⟩ [] (by rw [htab]; rfl) hpass (by decide) (by decide) (hts _ lh_cl21) (hcst 0 (by decide)) hce hcv hcl ?_
      refine lv_astore_n hx hb lh_d_aloneAnew_12 rfl hl (by decide) rfl (fun ls2 hl2 => ?_)
      refine lv_iconst (v := 1) hx hb lh_d_aloneAnew_13 (by decide) ?_
      exact vx_ret (W.iret (v := 1) hx hb hr (fun t ht hW => ⟨⟨1, (M', f), rfl, hq _, by show va_P D mj_cl (lh_ws cA ad _ ao cL _) t.heap; rw [ht]; exact hP2⟩, hS1.F ht⟩) hS1.2.2 lh_d_aloneAnew_14)
