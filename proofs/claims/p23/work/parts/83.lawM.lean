-- A NUMBER OUT OF THE SCRIPT
theorem mz_pos (x : Int32) : 0 ≤ (x &&& 2147483647).toInt := by
  have h : (x &&& 2147483647).toBitVec.msb = false := by
    rw [Int32.toBitVec_and, BitVec.msb_and]
    have : (2147483647 : Int32).toBitVec.msb = false := by decide
    rw [this, Bool.and_false]
  show 0 ≤ (x &&& 2147483647).toBitVec.toInt
  rw [BitVec.toInt_eq_toNat_of_msb h]
  exact Int.natCast_nonneg _
theorem mz_k7 : Cond.constant "CrushLoadLaw" 7 741457 ∈ mj_G := mj_inG (List.mem_of_getElem? (i := 318) (by decide +kernel)) rfl
theorem mz_k8 : Cond.constant "CrushLoadLaw" 8 2147483647 ∈ mj_G := mj_inG (List.mem_of_getElem? (i := 319) (by decide +kernel)) rfl
theorem mz_f0 : decode (mj_c 91) 0 = .ok (.aload_n 0, 1) := by decide +kernel
theorem mz_f1 : decode (mj_c 91) 1 = .ok (.arraylength, 1) := by decide +kernel
theorem mz_f2 : decode (mj_c 91) 2 = .ok (.ifCond .ne 14, 3) := by decide +kernel
theorem mz_f5 : decode (mj_c 91) 5 = .ok (.sipush 433, 3) := by decide +kernel
theorem mz_f8 : decode (mj_c 91) 8 = .ok (.iload_n 1, 1) := by decide +kernel
theorem mz_f9 : decode (mj_c 91) 9 = .ok (.imul, 1) := by decide +kernel
theorem mz_f10 : decode (mj_c 91) 10 = .ok (.bipush 59, 2) := by decide +kernel
theorem mz_f12 : decode (mj_c 91) 12 = .ok (.iadd, 1) := by decide +kernel
theorem mz_f13 : decode (mj_c 91) 13 = .ok (.goto 14, 3) := by decide +kernel
theorem mz_f16 : decode (mj_c 91) 16 = .ok (.aload_n 0, 1) := by decide +kernel
theorem mz_f17 : decode (mj_c 91) 17 = .ok (.iload_n 1, 1) := by decide +kernel
theorem mz_f18 : decode (mj_c 91) 18 = .ok (.aload_n 0, 1) := by decide +kernel
theorem mz_f19 : decode (mj_c 91) 19 = .ok (.arraylength, 1) := by decide +kernel
theorem mz_f20 : decode (mj_c 91) 20 = .ok (.irem, 1) := by decide +kernel
theorem mz_f21 : decode (mj_c 91) 21 = .ok (.iaload, 1) := by decide +kernel
theorem mz_f22 : decode (mj_c 91) 22 = .ok (.ldc 7, 2) := by decide +kernel
theorem mz_f24 : decode (mj_c 91) 24 = .ok (.iload_n 1, 1) := by decide +kernel
theorem mz_f25 : decode (mj_c 91) 25 = .ok (.imul, 1) := by decide +kernel
theorem mz_f26 : decode (mj_c 91) 26 = .ok (.ixor, 1) := by decide +kernel
theorem mz_f27 : decode (mj_c 91) 27 = .ok (.istore_n 3, 1) := by decide +kernel
theorem mz_f28 : decode (mj_c 91) 28 = .ok (.iload_n 3, 1) := by decide +kernel
theorem mz_f29 : decode (mj_c 91) 29 = .ok (.ldc 8, 2) := by decide +kernel
theorem mz_f31 : decode (mj_c 91) 31 = .ok (.iand, 1) := by decide +kernel
theorem mz_f32 : decode (mj_c 91) 32 = .ok (.iload_n 2, 1) := by decide +kernel
theorem mz_f33 : decode (mj_c 91) 33 = .ok (.irem, 1) := by decide +kernel
theorem mz_f34 : decode (mj_c 91) 34 = .ok (.ireturn, 1) := by decide +kernel
theorem mz_rem {x b : Int32} (h0 : 0 ≤ x.toInt) (hb : 0 < b.toInt) : x - x / b * b = nI (x.toNatClampNeg % b.toNatClampNeg) := by
  have e1 := mj_toN h0
  have e2 := mj_toN (show 0 ≤ b.toInt by omega)
  have hx := fb_rng x
  have hbb := fb_rng b
  have c1 : x.toNatClampNeg < 2 ^ 31 := by rw [mj_clN]; omega
  have c2 : 0 < b.toNatClampNeg := by rw [mj_clN]; omega
  have c3 : b.toNatClampNeg < 2 ^ 31 := by rw [mj_clN]; omega
  generalize x.toNatClampNeg = n at *
  generalize b.toNatClampNeg = d at *
  rw [e1, e2]
  exact pk_rem (by omega) (by omega) (by omega)
set_option maxHeartbeats 4000000 in
theorem sp91 {M : mj_M} {K : mj_K} {k b : Int32} (hk : 0 ≤ k.toInt) (hb : 0 < b.toInt) (hK : ∀ v : Int32, 0 ≤ v.toInt → v.toInt < b.toInt → K 0 v M) : mj_Cm 91 1 [.ref 999, .int k, .int b] M K := by
  have hbn : ¬ b = 0 := by
    intro e
    rw [e] at hb
    exact absurd hb (by decide)
  have hldc : ∀ ls st, mj_W 9 91 1 31 ls (.int 2147483647 :: st) M 0 K → mj_W 9 91 1 29 ls st M 0 K := by
    intro ls st h p l e s m args below meth c D cA ad C H locs lsA hl hP hS
    obtain ⟨hx, -, hb0, hml, hown, hts, -⟩ := id C
    have hown' : s.vm.findClass "CrushLoadLaw" = some m.cls := hown
    exact lv_ldc hx hb0 hown' (hts _ mz_k8) mz_f29 (h p l e s m args below meth c D cA ad C H locs lsA hl hP hS)
  have h27 : ∀ x : Int32, mj_W 9 91 1 27 [some (.ref 999), some (.int k), some (.int b), none] [.int x] M 0 K := by
    intro x
    refine mj_r_istore_n (j := 3) (by decide) mz_f27 ?_
    refine mj_r_iload_n (j := 3) (x := x) mz_f28 rfl ?_
    refine hldc _ _ ?_
    refine mj_r_iand mz_f31 ?_
    refine mj_r_iload_n (j := 2) (x := b) mz_f32 rfl ?_
    refine mj_r_irem mz_f33 hbn ?_
    refine mj_r_iret rfl (Nat.zero_le _) mz_f34 ?_
    have p0 := mz_pos x
    have e := mz_rem p0 hb
    rw [e]
    have hb9 := fb_rng b
    have c2 : 0 < b.toNatClampNeg := by rw [mj_clN]; omega
    have c3 : (b.toNatClampNeg : Int) = b.toInt := mj_tn b (by omega)
    have hm := Nat.mod_lt (x &&& 2147483647).toNatClampNeg c2
    have ht : (nI ((x &&& 2147483647).toNatClampNeg % b.toNatClampNeg)).toInt = ((x &&& 2147483647).toNatClampNeg % b.toNatClampNeg : Nat) := nI_toInt (by omega)
    exact hK _ (by omega) (by omega)
  refine mj_en rfl rfl rfl ?_
  intro p l e s m args below meth c D cA ad C H locs lsA hl hP hS
  obtain ⟨hx, -, hb0, hml, hown, hts, hret, hlk, htab, hinj, hK0, hX⟩ := id C
  obtain ⟨L, xs, hL, hXs, hbl, hA⟩ := hX.2 rfl
  have hown' : s.vm.findClass "CrushLoadLaw" = some m.cls := hown
  have l0 := (hl.2.2.2 0 (.ref 999) rfl).2
  have l1 := (hl.2.2.2 1 (.int k) rfl).2
  refine lv_aload_n hx hb0 mz_f0 rfl l0 ?_
  refine va_slen hx hb0 hXs hbl hA hS mz_f1 ?_
  refine lv_if_ne (tgt := 16) hx hb0 mz_f2 (by decide) (fun hc => ?_) (fun hc => ?_)
  · have hL0 : 0 < L := by
      rcases Nat.eq_zero_or_pos L with z | z
      · rw [z] at hc; exact absurd rfl hc
      · exact z
    refine lv_aload_n hx hb0 mz_f16 rfl l0 ?_
    refine lv_iload_n hx hb0 mz_f17 rfl l1 ?_
    refine lv_aload_n hx hb0 mz_f18 rfl l0 ?_
    refine va_slen hx hb0 hXs hbl hA hS mz_f19 ?_
    refine lv_irem hx hb0 mz_f20 hc ?_
    have eL : (Int32.ofNat L) = nI L := rfl
    have tL : (nI L).toInt = L := nI_toInt (by omega)
    have e9 := mz_rem hk (show 0 < (nI L).toInt by omega)
    rw [eL, e9]
    have cL : (nI L).toNatClampNeg = L := nI_clamp (by omega)
    rw [cL]
    have hm := Nat.mod_lt k.toNatClampNeg hL0
    refine va_sld hx hb0 hXs hbl hA hS (vp_in_nI hm (by omega)) mz_f21 ?_
    refine lv_ldc hx hb0 hown' (hts _ mz_k7) mz_f22 ?_
    refine lv_iload_n hx hb0 mz_f24 rfl l1 ?_
    refine lv_imul hx hb0 mz_f25 ?_
    refine lv_ixor hx hb0 mz_f26 ?_
    exact h27 _ p l e s m args below meth c D cA ad C H locs lsA hl hP hS
  · refine lv_sipush hx hb0 mz_f5 rfl ?_
    refine lv_iload_n hx hb0 mz_f8 rfl l1 ?_
    refine lv_imul hx hb0 mz_f9 ?_
    refine lv_bipush hx hb0 mz_f10 rfl ?_
    refine lv_iadd hx hb0 mz_f12 ?_
    refine lv_goto (tgt := 27) hx hb0 mz_f13 (by decide) ?_
    exact h27 _ p l e s m args below meth c D cA ad C H locs lsA hl hP hS
