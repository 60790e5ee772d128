-- CrushLoad (written by wip/p23/gen/mk60.py)
theorem cn_d6_0 : decode cX6_init 0 = .ok (.aload_n 0, 1) := by decide +kernel
theorem cn_d6_1 : decode cX6_init 1 = .ok (.invokespecial 1, 3) := by decide +kernel
theorem cn_d6_4 : decode cX6_init 4 = .ok (.aload_n 0, 1) := by decide +kernel
theorem cn_d6_5 : decode cX6_init 5 = .ok (.new 7, 3) := by decide +kernel
theorem cn_d6_8 : decode cX6_init 8 = .ok (.dup, 1) := by decide +kernel
theorem cn_d6_9 : decode cX6_init 9 = .ok (.invokespecial 9, 3) := by decide +kernel
theorem cn_d6_12 : decode cX6_init 12 = .ok (.putfield 10, 3) := by decide +kernel
theorem cn_d6_15 : decode cX6_init 15 = .ok (.aload_n 0, 1) := by decide +kernel
theorem cn_d6_16 : decode cX6_init 16 = .ok (.new 7, 3) := by decide +kernel
theorem cn_d6_19 : decode cX6_init 19 = .ok (.dup, 1) := by decide +kernel
theorem cn_d6_20 : decode cX6_init 20 = .ok (.invokespecial 9, 3) := by decide +kernel
theorem cn_d6_23 : decode cX6_init 23 = .ok (.putfield 16, 3) := by decide +kernel
theorem cn_d6_26 : decode cX6_init 26 = .ok (.return_, 1) := by decide +kernel
def cn_f6 : List Value := [.null, .null]
theorem cn_c6 : Cond.code yX6_init cX6_init 1 none ∈ mj_G := mj_inG (List.mem_of_getElem? (i := 54) (by decide +kernel)) rfl
theorem cn_o6 : Cond.methodLink RX6 1 objectInit ∈ mj_G := mj_inG (List.mem_of_getElem? (i := 55) (by decide +kernel)) rfl
theorem cn_l6_4 : Cond.classLink (mj_q 6).1 7 (mj_q 3).1 ∈ mj_G := mj_inG (List.mem_of_getElem? (i := 58) (by decide +kernel)) rfl
theorem cn_l6_15 : Cond.classLink (mj_q 6).1 7 (mj_q 3).1 ∈ mj_G := mj_inG (List.mem_of_getElem? (i := 58) (by decide +kernel)) rfl
set_option maxHeartbeats 4000000 in
set_option maxRecDepth 100000 in
theorem cn_m6 (l : Launch) : cn_Met l yX6_init cX6_init 3 80 4426 52 6 cn_f6 mj_Sh2 := by
  intro D cA h0 sz
  refine Met.ofW (cc := cX6_init) (maxL := 1) (ret := none) (by decide) rfl ?_
  intro p e s m args below meth c s₁ B hml hv
  obtain ⟨rfl, hsz, hP, hK, hD0, hN⟩ := hv
  have hx := B.exec
  have hb := B.bytes
  have hr := B.returns
  have hts0 := atoms_spec (ws := cn_ws yX6_init cX6_init) B.pre
  have hts : ∀ w ∈ mj_G, w.before _ s = true := fun w hw => hts0 w (List.mem_cons_of_mem _ hw)
  have hown : s.vm.findClass (mj_q 6).1 = some m.cls := findClass_of_methodNamed B.named
  have hlocks := B.notSynchronized
  have hin : meth.name = "<init>" := (name_of_methodNamed B.named B.method).1
  subst hsz
  have hD := hD0.self (sz := s.heap.size)
  unfold cn_Qv
  generalize hAe : va_A (cn_0 h0 6 cn_f6) s.heap.size = A at hD ⊢
  have hA : ∀ q : Nat, s.heap.size ≤ q → A q := fun q h => by rw [← hAe]; exact Or.inr h
  have hS : va_S A s.heap s.heap [] := va_S.rf
  have hl := lv_entry ([.ref h0]) (n := 1) (Nat.le_of_ble_eq_true rfl)
  rw [lg_entry_eq]
  generalize (lg_sl ([.ref h0]) ++ List.replicate (1 - (lg_sl ([.ref h0])).length) Slot.unset).toArray = ls at hl ⊢
  have hl : lv_has ls 1 [(0, .ref h0)] := hl
  refine lv_aload_n hx hb cn_d6_0 rfl (lv_at hl 0 rfl) ?_
  refine W.objInit hx hb hown (hts _ cn_o6) (hts _ cn_objI) (hts _ cn_objC) rfl (by rw [hml]; exact hl.1) rfl cn_d6_1 (Nat.le_of_ble_eq_true rfl) (Nat.le_of_ble_eq_true rfl) ?_
  refine W.eq (g2 := F0 m 4 ls []) rfl ?_
  refine cn_sub (ci := 6) (cj := 3) (sl := 0) (idx := 10) (inew := 7) (ispec := 9) hx hb hml hts hown hin hK hN hP hD hS hA hl (cn_m3 l) cn_c3 cn_i3 (by decide +kernel) rfl (mj_inN (x := 3) (by decide)) (by decide +kernel) cn_l6_4 cn_n3 (mj_inN (x := 3) (by decide)) (by decide) (by decide +kernel) (by decide) (by decide) (Nat.le_of_ble_eq_true rfl) (by decide +kernel) rfl rfl ⟨_, rfl⟩ (Nat.le_of_ble_eq_true rfl) (Nat.le_of_ble_eq_true rfl) (Nat.le_of_ble_eq_true rfl) (Nat.le_of_ble_eq_true rfl) cn_d6_4 cn_d6_5 cn_d6_8 cn_d6_9 cn_d6_12 (fun u1 H locs hP hD hS => ?_)
  refine cn_sub (ci := 6) (cj := 3) (sl := 1) (idx := 16) (inew := 7) (ispec := 9) hx hb hml hts hown hin hK hN hP hD hS hA hl (cn_m3 l) cn_c3 cn_i3 (by decide +kernel) rfl (mj_inN (x := 3) (by decide)) (by decide +kernel) cn_l6_15 cn_n3 (mj_inN (x := 3) (by decide)) (by decide) (by decide +kernel) (by decide) (by decide) (Nat.le_of_ble_eq_true rfl) (by decide +kernel) rfl rfl ⟨_, rfl⟩ (Nat.le_of_ble_eq_true rfl) (Nat.le_of_ble_eq_true rfl) (Nat.le_of_ble_eq_true rfl) (Nat.le_of_ble_eq_true rfl) cn_d6_15 cn_d6_16 cn_d6_19 cn_d6_20 cn_d6_23 (fun u2 H locs hP hD hS => ?_)
  simp only [cn_w_r] at hP hD
  obtain ⟨ad, had⟩ : ∃ ad : Nat → Nat, ad = fun i => ([h0, u1 0, u1 1, u1 2, u1 3, u1 4, u1 5, u1 6, u1 7, u1 8, u1 9, u1 10, u1 11, u1 12, u1 13, u1 14, u1 15, u1 16, u1 17, u1 18, u1 19, u1 20, u1 21, u1 22, u1 23, u1 24, u1 25, u1 26, u1 27, u1 28, u1 29, u1 30, u1 31, u1 32, u1 33, u1 34, u1 35, u1 36, u1 37, u1 38, u1 39, u2 0, u2 1, u2 2, u2 3, u2 4, u2 5, u2 6, u2 7, u2 8, u2 9, u2 10, u2 11, u2 12, u2 13, u2 14, u2 15, u2 16, u2 17, u2 18, u2 19, u2 20, u2 21, u2 22, u2 23, u2 24, u2 25, u2 26, u2 27, u2 28, u2 29, u2 30, u2 31, u2 32, u2 33, u2 34, u2 35, u2 36, u2 37, u2 38, u2 39] : List Nat).getD i 0 := ⟨_, rfl⟩
  have hP9 : va_P D mj_cl (mj_w cA ad (fun _ _ => 0) mj_Sh2) H := by
    rw [cn_w_r, had]; exact hP
  have hD9 : va_D A (mj_w cA ad (fun _ _ => 0) mj_Sh2) := by
    rw [cn_w_r, had]; exact hD
  have h09 : ad 0 = h0 := by rw [had]; rfl
  exact W.vret hx hb hr (fun t ht hW => ⟨⟨ad, rfl, h09, by rw [ht]; exact hP9, hD9⟩, hS.F ht⟩) hS.2.2 cn_d6_26
