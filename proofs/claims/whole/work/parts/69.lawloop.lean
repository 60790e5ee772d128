-- the law's loop (written by wip/whole/gen/mk69.py)
section LLE
variable {p : Program} {l : Launch} {e : Env} {s : State} {m : MethodId} {below : List Frame} {meth : Method} {c : Code} {b L : Nat} {xs : Nat → Int32} {D : va_G} {cA : Nat → ClassId} {cL : ClassId} {ad1 ad2 : Nat → Nat} {ao : Nat}
theorem ll_p_23 : decode code 23 = .ok (.iload 4, 2) := by decide +kernel
theorem ll_p_25 : decode code 25 = .ok (.aload_n 0, 1) := by decide +kernel
theorem ll_p_26 : decode code 26 = .ok (.arraylength, 1) := by decide +kernel
theorem ll_p_27 : decode code 27 = .ok (.bipush 6, 2) := by decide +kernel
theorem ll_p_29 : decode code 29 = .ok (.isub, 1) := by decide +kernel
theorem ll_p_30 : decode code 30 = .ok (.if_icmp .gt 1397, 3) := by decide +kernel
theorem ll_p_33 : decode code 33 = .ok (.aload_n 0, 1) := by decide +kernel
theorem ll_p_34 : decode code 34 = .ok (.iload 4, 2) := by decide +kernel
theorem ll_p_36 : decode code 36 = .ok (.iaload, 1) := by decide +kernel
theorem ll_p_37 : decode code 37 = .ok (.bipush 31, 2) := by decide +kernel
theorem ll_p_39 : decode code 39 = .ok (.iand, 1) := by decide +kernel
theorem ll_p_40 : decode code 40 = .ok (.tableswitch 1381 0 19 #[96, 164, 268, 359, 372, 435, 526, 594, 730, 834, 847, 903, 916, 984, 1052, 1120, 1188, 1256, 1269, 1325], 96) := by decide +kernel
theorem ll_p_1421 : decode code 1421 = .ok (.iinc 4 6, 3) := by decide +kernel
theorem ll_p_1424 : decode code 1424 = .ok (.goto (-1401), 3) := by decide +kernel
theorem ll_p_1427 : decode code 1427 = .ok (.iconst 1, 1) := by decide +kernel
theorem ll_p_1428 : decode code 1428 = .ok (.ireturn, 1) := by decide +kernel
theorem ll_20 {P : Nat → Prop} (h0 : P 0) (h1 : P 1) (h2 : P 2) (h3 : P 3) (h4 : P 4) (h5 : P 5) (h6 : P 6) (h7 : P 7) (h8 : P 8) (h9 : P 9) (h10 : P 10) (h11 : P 11) (h12 : P 12) (h13 : P 13) (h14 : P 14) (h15 : P 15) (h16 : P 16) (h17 : P 17) (h18 : P 18) (h19 : P 19) : ∀ j, j < 20 → P j
  | 0, _ => h0
  | 1, _ => h1
  | 2, _ => h2
  | 3, _ => h3
  | 4, _ => h4
  | 5, _ => h5
  | 6, _ => h6
  | 7, _ => h7
  | 8, _ => h8
  | 9, _ => h9
  | 10, _ => h10
  | 11, _ => h11
  | 12, _ => h12
  | 13, _ => h13
  | 14, _ => h14
  | 15, _ => h15
  | 16, _ => h16
  | 17, _ => h17
  | 18, _ => h18
  | 19, _ => h19
  | n + 20, h => absurd h (by omega)
theorem ll_sub6 {L : Nat} (h : L ≤ 3072) : (nI L - 6).toInt = (L : Int) - 6 := by
  have h1 : (nI L).toInt = (L : Int) := nI_toInt (by omega)
  have h2 : (6 : Int32).toInt = 6 := by decide
  rw [Int32.toInt_sub, h1, h2, fb_bmod (by omega) (by omega)]
set_option maxHeartbeats 4000000 in
theorem ll_sw (L : Nat) (C : ll_C p l s m meth c b L xs D cA cL ad1 ad2 ao) {i cn sn : Nat} {Z M1 X : mj_M} {o : Int64} {x : Int32} (hI : mj_Ia Z) (hb : (Z 0 5).toInt + 100 ≤ 1000000) (hc : mk_CL Z M1) (hi : i + 6 ≤ L) (hcn : cn + 10 ≤ 601024) (hsn : sn + 60 ≤ 7293034) (h : ll_G p l e s m below meth c b D cA cL ad1 ad2 ao i cn sn Z) : ll_W p l e s m below meth c b D cA cL ad1 ad2 ao 40 i [] [.int x] M1 (mj_mm Z X) o cn sn := by
  have C0 := C
  obtain ⟨⟨hx, hlt, hb0, hml, hr, hlk, hown, hts, hX, hbl, hL⟩, -, -⟩ := id C
  intro H locs lsA f hf hl hP1 hP2 hS
  by_cases hout : x.toInt < 0 ∨ 19 < x.toInt
  · refine lv_tableOut (tgt := 1421) hx hb0 ll_p_40 hout (by decide) ?_
    exact ll_widen (by omega) (by omega) (h Z M1 X o hI hc (by omega)) H locs lsA f hf hl hP1 hP2 hS
  · have h1 : ¬ x.toInt < 0 := fun z => hout (Or.inl z)
    have h2 : ¬ 19 < x.toInt := fun z => hout (Or.inr z)
    have hb60 : (Z 0 5).toInt + 60 ≤ 1000000 := by omega
    obtain ⟨j, hj⟩ : ∃ j : Nat, (x.toInt - 0).toNat = j := ⟨_, rfl⟩
    have hj20 : j < 20 := by omega
    revert hj
    refine ll_20 (P := fun j => (x.toInt - 0).toNat = j → W p l e room_1 s m #[Value.ref b] below meth c H locs cn sn (lw_Z below #[Value.ref b] s) (F0 m 40 lsA [.int x])) ?_ ?_ ?_ ?_ ?_ ?_ ?_ ?_ ?_ ?_ ?_ ?_ ?_ ?_ ?_ ?_ ?_ ?_ ?_ ?_ j hj20
    · intro hj
      exact lv_tableIn (tgt := 136) (off := 96) hx hb0 ll_p_40 h1 h2 (by rw [hj]; rfl) (by decide) (ll_c_room L C0 hI hc hi hcn hsn h H locs lsA f hf hl hP1 hP2 hS)
    · intro hj
      exact lv_tableIn (tgt := 204) (off := 164) hx hb0 ll_p_40 h1 h2 (by rw [hj]; rfl) (by decide) (ll_c_link L C0 hI hc hi hcn hsn h H locs lsA f hf hl hP1 hP2 hS)
    · intro hj
      exact lv_tableIn (tgt := 308) (off := 268) hx hb0 ll_p_40 h1 h2 (by rw [hj]; rfl) (by decide) (ll_c_close L C0 hI hc hi hcn hsn h H locs lsA f hf hl hP1 hP2 hS)
    · intro hj
      exact lv_tableIn (tgt := 399) (off := 359) hx hb0 ll_p_40 h1 h2 (by rw [hj]; rfl) (by decide) (ll_c_announce L C0 hI hc hi hcn hsn h H locs lsA f hf hl hP1 hP2 hS)
    · intro hj
      exact lv_tableIn (tgt := 412) (off := 372) hx hb0 ll_p_40 h1 h2 (by rw [hj]; rfl) (by decide) (ll_c_turn L C0 hI hc hi hcn hsn h H locs lsA f hf hl hP1 hP2 hS)
    · intro hj
      exact lv_tableIn (tgt := 475) (off := 435) hx hb0 ll_p_40 h1 h2 (by rw [hj]; rfl) (by decide) (ll_c_stop L C0 hI hc hi hcn hsn h H locs lsA f hf hl hP1 hP2 hS)
    · intro hj
      exact lv_tableIn (tgt := 566) (off := 526) hx hb0 ll_p_40 h1 h2 (by rw [hj]; rfl) (by decide) (ll_c_meter L C0 hI hc hi hcn hsn h H locs lsA f hf hl hP1 hP2 hS)
    · intro hj
      exact lv_tableIn (tgt := 634) (off := 594) hx hb0 ll_p_40 h1 h2 (by rw [hj]; rfl) (by decide) (ll_c_enter L C0 hI hc hi hcn hsn h H locs lsA f hf hl hP1 hP2 hS)
    · intro hj
      exact lv_tableIn (tgt := 770) (off := 730) hx hb0 ll_p_40 h1 h2 (by rw [hj]; rfl) (by decide) (ll_c_train L C0 hI hc hi hcn hsn h H locs lsA f hf hl hP1 hP2 hS)
    · intro hj
      exact lv_tableIn (tgt := 874) (off := 834) hx hb0 ll_p_40 h1 h2 (by rw [hj]; rfl) (by decide) (ll_c_clear L C0 hI hc hi hcn hsn h H locs lsA f hf hl hP1 hP2 hS)
    · intro hj
      exact lv_tableIn (tgt := 887) (off := 847) hx hb0 ll_p_40 h1 h2 (by rw [hj]; rfl) (by decide) (ll_c_pass L C0 hI hb60 hc hi hcn hsn h H locs lsA f hf hl hP1 hP2 hS)
    · intro hj
      exact lv_tableIn (tgt := 943) (off := 903) hx hb0 ll_p_40 h1 h2 (by rw [hj]; rfl) (by decide) (ll_c_now L C0 hI hc hi hcn hsn h H locs lsA f hf hl hP1 hP2 hS)
    · intro hj
      exact lv_tableIn (tgt := 956) (off := 916) hx hb0 ll_p_40 h1 h2 (by rw [hj]; rfl) (by decide) (ll_c_ofRoom L C0 hI hc hi hcn hsn h H locs lsA f hf hl hP1 hP2 hS)
    · intro hj
      exact lv_tableIn (tgt := 1024) (off := 984) hx hb0 ll_p_40 h1 h2 (by rw [hj]; rfl) (by decide) (ll_c_ofLink L C0 hI hc hi hcn hsn h H locs lsA f hf hl hP1 hP2 hS)
    · intro hj
      exact lv_tableIn (tgt := 1092) (off := 1052) hx hb0 ll_p_40 h1 h2 (by rw [hj]; rfl) (by decide) (ll_c_person L C0 hI hc hi hcn hsn h H locs lsA f hf hl hP1 hP2 hS)
    · intro hj
      exact lv_tableIn (tgt := 1160) (off := 1120) hx hb0 ll_p_40 h1 h2 (by rw [hj]; rfl) (by decide) (ll_c_ofTrain L C0 hI hc hi hcn hsn h H locs lsA f hf hl hP1 hP2 hS)
    · intro hj
      exact lv_tableIn (tgt := 1228) (off := 1188) hx hb0 ll_p_40 h1 h2 (by rw [hj]; rfl) (by decide) (ll_c_foretell L C0 hI hb60 hc hi hcn hsn h H locs lsA f hf hl hP1 hP2 hS)
    · intro hj
      exact lv_tableIn (tgt := 1296) (off := 1256) hx hb0 ll_p_40 h1 h2 (by rw [hj]; rfl) (by decide) (ll_c_clears L C0 hI hb hc hi hcn hsn h H locs lsA f hf hl hP1 hP2 hS)
    · intro hj
      exact lv_tableIn (tgt := 1309) (off := 1269) hx hb0 ll_p_40 h1 h2 (by rw [hj]; rfl) (by decide) (ll_c_alone L C0 hI hc hi hcn hsn h H locs lsA f hf hl hP1 hP2 hS)
    · intro hj
      exact lv_tableIn (tgt := 1365) (off := 1325) hx hb0 ll_p_40 h1 h2 (by rw [hj]; rfl) (by decide) (ll_c_aloneAnew L C0 hI hc hi hcn hsn h H locs lsA f hf hl hP1 hP2 hS)
set_option maxHeartbeats 4000000 in
theorem ll_loop (L : Nat) (C : ll_C p l s m meth c b L xs D cA cL ad1 ad2 ao) : ∀ (n i : Nat), L < i + 6 * n → i ≤ L + 6 → ∀ (Z M1 X : mj_M) (o : Int64) (cn sn : Nat), mj_Ia Z → mk_CL Z M1 → (Z 0 5).toInt ≤ 10 * i → cn ≤ 100 + 2 * i → sn ≤ 8000 + 10 * i → ll_W p l e s m below meth c b D cA cL ad1 ad2 ao 23 i [] [] M1 (mj_mm Z X) o cn sn := by
  have C0 := C
  obtain ⟨⟨hx, hlt, hb, hml, hr, hlk, hown, hts, hX, hbl, hL⟩, -, -⟩ := id C
  have hbA : ¬ (fun q : Nat => s.heap.size ≤ q) b := Nat.not_le.mpr hbl
  have hs6 := ll_sub6 hL
  intro n
  induction n with
  | zero =>
    intro i hn hi Z M1 X o cn sn hI hc hsec hcn hsn H locs lsA f hf hl hP1 hP2 hS
    have hni : (nI i).toInt = (i : Int) := nI_toInt (by omega)
    refine lv_iload hx hb ll_p_23 (lv_at hl 4 rfl) ?_
    refine lv_aload_n hx hb ll_p_25 rfl (lv_at hl 0 rfl) ?_
    refine va_slen hx hb hX hbl hbA hS ll_p_26 ?_
    refine lv_bipush (v := 6) hx hb ll_p_27 (by decide) ?_
    refine lv_isub hx hb ll_p_29 ?_
    refine lv_icmp_gt (tgt := 1427) hx hb ll_p_30 (by decide) (fun _ => ?_) (fun z => ?_)
    · refine lv_iconst (v := 1) hx hb ll_p_1427 (by decide) ?_
      refine va_forget hS.2.2 (W.widen (k := 601024) (n := 7293034) (by omega) (by omega) ?_)
      exact lw_ret hx hb hr hlk ll_p_1428
    · exfalso
      apply z
      rw [mj_lt]
      show (nI L - 6).toInt < (nI i).toInt
      rw [hs6, hni]; omega
  | succ n ih =>
    intro i hn hi Z M1 X o cn sn hI hc hsec hcn hsn H locs lsA f hf hl hP1 hP2 hS
    have hni : (nI i).toInt = (i : Int) := nI_toInt (by omega)
    refine lv_iload hx hb ll_p_23 (lv_at hl 4 rfl) ?_
    refine lv_aload_n hx hb ll_p_25 rfl (lv_at hl 0 rfl) ?_
    refine va_slen hx hb hX hbl hbA hS ll_p_26 ?_
    refine lv_bipush (v := 6) hx hb ll_p_27 (by decide) ?_
    refine lv_isub hx hb ll_p_29 ?_
    refine lv_icmp_gt (tgt := 1427) hx hb ll_p_30 (by decide) (fun _ => ?_) (fun z => ?_)
    · refine lv_iconst (v := 1) hx hb ll_p_1427 (by decide) ?_
      refine va_forget hS.2.2 (W.widen (k := 601024) (n := 7293034) (by omega) (by omega) ?_)
      exact lw_ret hx hb hr hlk ll_p_1428
    · have hi6 : i + 6 ≤ L := by
        rcases Nat.lt_or_ge L (i + 6) with q | q
        · exfalso
          apply z
          rw [mj_lt]
          show (nI L - 6).toInt < (nI i).toInt
          rw [hs6, hni]; omega
        · exact q
      refine lv_aload_n hx hb ll_p_33 rfl (lv_at hl 0 rfl) ?_
      refine lv_iload hx hb ll_p_34 (lv_at hl 4 rfl) ?_
      refine va_sld hx hb hX hbl hbA hS (vp_in_nI (by omega) (by omega)) ll_p_36 ?_
      refine lv_bipush (v := 31) hx hb ll_p_37 (by decide) ?_
      refine lv_iand hx hb ll_p_39 ?_
      refine ll_sw L C0 hI (by omega) hc hi6 (by omega) (by omega) ?_ H locs lsA f hf hl hP1 hP2 hS
      intro Z' M1' X' o' hI' hc' hs' H locs lsA f hf hl hP1 hP2 hS
      refine lv_iinc (v := nI (i + 6)) (k := 4) (lv' := (4, .int (nI (i + 6))) :: [(0, .ref b), (1, .ref (ad1 0)), (2, .ref (ad2 0)), (3, .ref ao)]) hx hb ll_p_1421 hl rfl (nI_add i 6) (by decide) rfl (fun ls2 hl2 => ?_)
      refine lv_goto (tgt := 23) hx hb ll_p_1424 (by decide) ?_
      exact ih (i + 6) (by omega) (by omega) Z' M1' X' o' (cn + 10) (sn + 60) hI' hc' (by omega) (by omega) (by omega) H locs ls2 f hf (lv_sub hl2 [1, 2, 3, 4, 0] rfl) hP1 hP2 hS
end LLE
