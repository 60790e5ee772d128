-- the twenty cases of the law (written by wip/whole/gen/mk68.py)
section LLD
variable {p : Program} {l : Launch} {e : Env} {s : State} {m : MethodId} {below : List Frame} {meth : Method} {c : Code} {b L : Nat} {xs : Nat → Int32} {D : va_G} {cA : Nat → ClassId} {cL : ClassId} {ad1 ad2 : Nat → Nat} {ao : Nat} {M1 M2 Z X : mj_M} {o : Int64} {pc cn sn i : Nat}
theorem ll_ini : Cond.initialized RL ∈ mj_G := mj_inG (List.mem_of_getElem? (i := 58) (by decide +kernel)) rfl
theorem ll_m_room : Cond.methodLink RL 78 (mj_y 100) ∈ mj_G := mj_inG (List.mem_of_getElem? (i := 908) (by decide +kernel)) rfl
theorem ll_h_room : Cond.methodLink RL 73 yL_room ∈ mj_G := mj_inG (List.mem_of_getElem? (i := 583) (by decide +kernel)) rfl
theorem ll_s_room : Cond.static yL_room ∈ mj_G := mj_inG (List.mem_of_getElem? (i := 584) (by decide +kernel)) rfl
set_option maxRecDepth 100000 in
theorem ll_d_room : ll_dC false [false, false] 73 78 136 = true := by decide +kernel
set_option maxHeartbeats 4000000 in
set_option maxRecDepth 100000 in
theorem ll_c_room (L : Nat) (C : ll_C p l s m meth c b L xs D cA cL ad1 ad2 ao) (hI : mj_Ia Z) (hc : mk_CL Z M1) (hi : i + 6 ≤ L) (hcn : cn + 10 ≤ 601024) (hsn : sn + 60 ≤ 7293034) (h : ll_G p l e s m below meth c b D cA cL ad1 ad2 ao i cn sn Z) : ll_W p l e s m below meth c b D cA cL ad1 ad2 ao 136 i [] [] M1 (mj_mm Z X) o cn sn := by
  refine ll_case b L C false (ks := [false, false]) (hidx := 73) (midx := 78) (kc := 63) (dc := 6) (km := 100) (dm := 2) (y := yL_room) (al := [(2, 1), (3, 2), (0, 0)]) ll_d_room (by decide) hi (wsh := lh_w_room) rfl lh_c_room ll_h_room ll_s_room ll_ini (by decide +kernel) (by decide +kernel) (by decide) (by decide) (by decide) (fun Kc KK h1 h2 h3 => lh_room h1 h2 (fun e' M' hk => ?_)) ll_m_room (by decide) (by decide +kernel) rfl (fun z => by cases z) rfl rfl (by decide) rfl (fun cd hm => ?_) (fun e' hm => ?_) (la_room hI hc) hcn hsn h
  · obtain ⟨cd, hm, ho⟩ := h3 e' M' hk
    simp only [List.mem_cons, Prod.mk.injEq, List.not_mem_nil, or_false] at hm
    rcases hm with ⟨z, rfl⟩ | ⟨z, rfl⟩ | ⟨z, -⟩
    · exact Or.inl ⟨by omega, ho⟩
    · exact Or.inr (⟨by omega, ho⟩)
    · exact absurd z (Nat.succ_ne_zero _)
  · simp only [List.mem_cons, Prod.mk.injEq, List.not_mem_nil, or_false] at hm
    rcases hm with ⟨z, z2⟩ | ⟨z, z2⟩ | ⟨z, z2⟩
    · exact absurd z (by decide)
    · exact absurd z (by decide)
    · exact z2
  · simp only [List.mem_cons, Prod.mk.injEq, List.not_mem_nil, or_false] at hm
    rcases hm with ⟨z, z2⟩ | ⟨z, z2⟩ | ⟨z, z2⟩
    · exact absurd z2 (by decide)
    · exact absurd z2 (by decide)
    · exact z
theorem ll_m_link : Cond.methodLink RL 86 (mj_y 101) ∈ mj_G := mj_inG (List.mem_of_getElem? (i := 919) (by decide +kernel)) rfl
theorem ll_h_link : Cond.methodLink RL 83 yL_link ∈ mj_G := mj_inG (List.mem_of_getElem? (i := 686) (by decide +kernel)) rfl
theorem ll_s_link : Cond.static yL_link ∈ mj_G := mj_inG (List.mem_of_getElem? (i := 687) (by decide +kernel)) rfl
set_option maxRecDepth 100000 in
theorem ll_d_link : ll_dC false [false, false, false, false, false] 83 86 204 = true := by decide +kernel
set_option maxHeartbeats 4000000 in
set_option maxRecDepth 100000 in
theorem ll_c_link (L : Nat) (C : ll_C p l s m meth c b L xs D cA cL ad1 ad2 ao) (hI : mj_Ia Z) (hc : mk_CL Z M1) (hi : i + 6 ≤ L) (hcn : cn + 10 ≤ 601024) (hsn : sn + 60 ≤ 7293034) (h : ll_G p l e s m below meth c b D cA cL ad1 ad2 ao i cn sn Z) : ll_W p l e s m below meth c b D cA cL ad1 ad2 ao 204 i [] [] M1 (mj_mm Z X) o cn sn := by
  refine ll_case b L C false (ks := [false, false, false, false, false]) (hidx := 83) (midx := 86) (kc := 64) (dc := 6) (km := 101) (dm := 3) (y := yL_link) (al := [(1, 1), (2, 2), (3, 3), (0, 0)]) ll_d_link (by decide) hi (wsh := lh_w_link) rfl lh_c_link ll_h_link ll_s_link ll_ini (by decide +kernel) (by decide +kernel) (by decide) (by decide) (by decide) (fun Kc KK h1 h2 h3 => lh_link h1 h2 (fun e' M' hk => ?_)) ll_m_link (by decide) (by decide +kernel) rfl (fun z => by cases z) rfl rfl (by decide) rfl (fun cd hm => ?_) (fun e' hm => ?_) (la_link hI hc) hcn hsn h
  · obtain ⟨cd, hm, ho⟩ := h3 e' M' hk
    simp only [List.mem_cons, Prod.mk.injEq, List.not_mem_nil, or_false] at hm
    rcases hm with ⟨z, rfl⟩ | ⟨z, rfl⟩ | ⟨z, rfl⟩ | ⟨z, -⟩
    · exact Or.inl ⟨by omega, ho⟩
    · exact Or.inr (Or.inl ⟨by omega, ho⟩)
    · exact Or.inr (Or.inr (⟨by omega, ho⟩))
    · exact absurd z (Nat.succ_ne_zero _)
  · simp only [List.mem_cons, Prod.mk.injEq, List.not_mem_nil, or_false] at hm
    rcases hm with ⟨z, z2⟩ | ⟨z, z2⟩ | ⟨z, z2⟩ | ⟨z, z2⟩
    · exact absurd z (by decide)
    · exact absurd z (by decide)
    · exact absurd z (by decide)
    · exact z2
  · simp only [List.mem_cons, Prod.mk.injEq, List.not_mem_nil, or_false] at hm
    rcases hm with ⟨z, z2⟩ | ⟨z, z2⟩ | ⟨z, z2⟩ | ⟨z, z2⟩
    · exact absurd z2 (by decide)
    · exact absurd z2 (by decide)
    · exact absurd z2 (by decide)
    · exact z
theorem ll_m_close : Cond.methodLink RL 90 (mj_y 102) ∈ mj_G := mj_inG (List.mem_of_getElem? (i := 927) (by decide +kernel)) rfl
theorem ll_h_close : Cond.methodLink RL 87 yL_close ∈ mj_G := mj_inG (List.mem_of_getElem? (i := 723) (by decide +kernel)) rfl
theorem ll_s_close : Cond.static yL_close ∈ mj_G := mj_inG (List.mem_of_getElem? (i := 724) (by decide +kernel)) rfl
set_option maxRecDepth 100000 in
theorem ll_d_close : ll_dC true [false, true] 87 90 308 = true := by decide +kernel
set_option maxHeartbeats 4000000 in
set_option maxRecDepth 100000 in
theorem ll_c_close (L : Nat) (C : ll_C p l s m meth c b L xs D cA cL ad1 ad2 ao) (hI : mj_Ia Z) (hc : mk_CL Z M1) (hi : i + 6 ≤ L) (hcn : cn + 10 ≤ 601024) (hsn : sn + 60 ≤ 7293034) (h : ll_G p l e s m below meth c b D cA cL ad1 ad2 ao i cn sn Z) : ll_W p l e s m below meth c b D cA cL ad1 ad2 ao 308 i [] [] M1 (mj_mm Z X) o cn sn := by
  refine ll_case b L C true (ks := [false, true]) (hidx := 87) (midx := 90) (kc := 65) (dc := 6) (km := 102) (dm := 3) (y := yL_close) (al := [(1, 1), (0, 0)]) ll_d_close (by decide) hi (wsh := lh_w_close) rfl lh_c_close ll_h_close ll_s_close ll_ini (by decide +kernel) (by decide +kernel) (by decide) (by decide) (by decide) (fun Kc KK h1 h2 h3 => lh_close h1 h2 (fun e' M' hk => ?_)) ll_m_close (by decide) (by decide +kernel) rfl (fun z => by cases z) rfl rfl (by decide) rfl (fun cd hm => ?_) (fun e' hm => ?_) (la_close hI hc) hcn hsn h
  · obtain ⟨cd, hm, ho⟩ := h3 e' M' hk
    simp only [List.mem_cons, Prod.mk.injEq, List.not_mem_nil, or_false] at hm
    rcases hm with ⟨z, rfl⟩ | ⟨z, -⟩
    · exact ⟨by omega, ho⟩
    · exact absurd z (Nat.succ_ne_zero _)
  · simp only [List.mem_cons, Prod.mk.injEq, List.not_mem_nil, or_false] at hm
    rcases hm with ⟨z, z2⟩ | ⟨z, z2⟩
    · exact absurd z (by decide)
    · exact z2
  · simp only [List.mem_cons, Prod.mk.injEq, List.not_mem_nil, or_false] at hm
    rcases hm with ⟨z, z2⟩ | ⟨z, z2⟩
    · exact absurd z2 (by decide)
    · exact z
theorem ll_m_announce : Cond.methodLink RL 94 (mj_y 103) ∈ mj_G := mj_inG (List.mem_of_getElem? (i := 939) (by decide +kernel)) rfl
theorem ll_q_announce_399 : decode code 399 = .ok (.aload_n 1, 1) := by decide +kernel
theorem ll_q_announce_400 : decode code 400 = .ok (.invokevirtual 91, 3) := by decide +kernel
theorem ll_q_announce_403 : decode code 403 = .ok (.aload_n 2, 1) := by decide +kernel
theorem ll_q_announce_404 : decode code 404 = .ok (.invokevirtual 94, 3) := by decide +kernel
theorem ll_q_announce_407 : decode code 407 = .ok (.if_icmp .eq 1014, 3) := by decide +kernel
theorem ll_h_announce : Cond.methodLink RL 91 (mj_y 66) ∈ mj_G := mj_inG (List.mem_of_getElem? (i := 336) (by decide +kernel)) rfl
set_option maxHeartbeats 4000000 in
set_option maxRecDepth 100000 in
theorem ll_c_announce (L : Nat) (C : ll_C p l s m meth c b L xs D cA cL ad1 ad2 ao) (hI : mj_Ia Z) (hc : mk_CL Z M1) (hi : i + 6 ≤ L) (hcn : cn + 10 ≤ 601024) (hsn : sn + 60 ≤ 7293034) (h : ll_G p l e s m below meth c b D cA cL ad1 ad2 ao i cn sn Z) : ll_W p l e s m below meth c b D cA cL ad1 ad2 ao 399 i [] [] M1 (mj_mm Z X) o cn sn :=
  ll_dir b L C (kc := 66) (dc := 6) (km := 103) (dm := 2) ll_q_announce_399 ll_q_announce_400 ll_q_announce_403 ll_q_announce_404 ll_q_announce_407 (by decide) ll_h_announce (by decide) (by decide +kernel) rfl (fun z => by cases z) rfl rfl (by decide) rfl ll_m_announce (by decide) (by decide +kernel) rfl (fun z => by cases z) rfl rfl (by decide) rfl (la_direct_ann hI hc) hcn hsn h
theorem ll_m_turn : Cond.methodLink RL 98 (mj_y 105) ∈ mj_G := mj_inG (List.mem_of_getElem? (i := 943) (by decide +kernel)) rfl
theorem ll_h_turn : Cond.methodLink RL 95 yL_turn ∈ mj_G := mj_inG (List.mem_of_getElem? (i := 736) (by decide +kernel)) rfl
theorem ll_s_turn : Cond.static yL_turn ∈ mj_G := mj_inG (List.mem_of_getElem? (i := 737) (by decide +kernel)) rfl
set_option maxRecDepth 100000 in
theorem ll_d_turn : ll_dC true [false] 95 98 412 = true := by decide +kernel
set_option maxHeartbeats 4000000 in
set_option maxRecDepth 100000 in
theorem ll_c_turn (L : Nat) (C : ll_C p l s m meth c b L xs D cA cL ad1 ad2 ao) (hI : mj_Ia Z) (hc : mk_CL Z M1) (hi : i + 6 ≤ L) (hcn : cn + 10 ≤ 601024) (hsn : sn + 60 ≤ 7293034) (h : ll_G p l e s m below meth c b D cA cL ad1 ad2 ao i cn sn Z) : ll_W p l e s m below meth c b D cA cL ad1 ad2 ao 412 i [] [] M1 (mj_mm Z X) o cn sn := by
  refine ll_case b L C true (ks := [false]) (hidx := 95) (midx := 98) (kc := 67) (dc := 6) (km := 105) (dm := 4) (y := yL_turn) (al := [(1, 1), (2, 2), (0, 0)]) ll_d_turn (by decide) hi (wsh := lh_w_turn) rfl lh_c_turn ll_h_turn ll_s_turn ll_ini (by decide +kernel) (by decide +kernel) (by decide) (by decide) (by decide) (fun Kc KK h1 h2 h3 => lh_turn h1 h2 (fun e' M' hk => ?_)) ll_m_turn (by decide) (by decide +kernel) rfl (fun z => by cases z) rfl rfl (by decide) rfl (fun cd hm => ?_) (fun e' hm => ?_) (la_turn hI hc) hcn hsn h
  · obtain ⟨cd, hm, ho⟩ := h3 e' M' hk
    simp only [List.mem_cons, Prod.mk.injEq, List.not_mem_nil, or_false] at hm
    rcases hm with ⟨z, rfl⟩ | ⟨z, rfl⟩ | ⟨z, -⟩
    · exact Or.inl ⟨by omega, ho⟩
    · exact Or.inr (⟨by omega, ho⟩)
    · exact absurd z (Nat.succ_ne_zero _)
  · simp only [List.mem_cons, Prod.mk.injEq, List.not_mem_nil, or_false] at hm
    rcases hm with ⟨z, z2⟩ | ⟨z, z2⟩ | ⟨z, z2⟩
    · exact absurd z (by decide)
    · exact absurd z (by decide)
    · exact z2
  · simp only [List.mem_cons, Prod.mk.injEq, List.not_mem_nil, or_false] at hm
    rcases hm with ⟨z, z2⟩ | ⟨z, z2⟩ | ⟨z, z2⟩
    · exact absurd z2 (by decide)
    · exact absurd z2 (by decide)
    · exact z
theorem ll_m_stop : Cond.methodLink RL 101 (mj_y 106) ∈ mj_G := mj_inG (List.mem_of_getElem? (i := 951) (by decide +kernel)) rfl
theorem ll_h_stop : Cond.methodLink RL 99 yL_stop ∈ mj_G := mj_inG (List.mem_of_getElem? (i := 743) (by decide +kernel)) rfl
theorem ll_s_stop : Cond.static yL_stop ∈ mj_G := mj_inG (List.mem_of_getElem? (i := 744) (by decide +kernel)) rfl
set_option maxRecDepth 100000 in
theorem ll_d_stop : ll_dC true [false, true] 99 101 475 = true := by decide +kernel
set_option maxHeartbeats 4000000 in
set_option maxRecDepth 100000 in
theorem ll_c_stop (L : Nat) (C : ll_C p l s m meth c b L xs D cA cL ad1 ad2 ao) (hI : mj_Ia Z) (hc : mk_CL Z M1) (hi : i + 6 ≤ L) (hcn : cn + 10 ≤ 601024) (hsn : sn + 60 ≤ 7293034) (h : ll_G p l e s m below meth c b D cA cL ad1 ad2 ao i cn sn Z) : ll_W p l e s m below meth c b D cA cL ad1 ad2 ao 475 i [] [] M1 (mj_mm Z X) o cn sn := by
  refine ll_case b L C true (ks := [false, true]) (hidx := 99) (midx := 101) (kc := 68) (dc := 6) (km := 106) (dm := 4) (y := yL_stop) (al := [(1, 1), (2, 2), (0, 0)]) ll_d_stop (by decide) hi (wsh := lh_w_stop) rfl lh_c_stop ll_h_stop ll_s_stop ll_ini (by decide +kernel) (by decide +kernel) (by decide) (by decide) (by decide) (fun Kc KK h1 h2 h3 => lh_stop h1 h2 (fun e' M' hk => ?_)) ll_m_stop (by decide) (by decide +kernel) rfl (fun z => by cases z) rfl rfl (by decide) rfl (fun cd hm => ?_) (fun e' hm => ?_) (la_stop hI hc) hcn hsn h
  · obtain ⟨cd, hm, ho⟩ := h3 e' M' hk
    simp only [List.mem_cons, Prod.mk.injEq, List.not_mem_nil, or_false] at hm
    rcases hm with ⟨z, rfl⟩ | ⟨z, rfl⟩ | ⟨z, -⟩
    · exact Or.inl ⟨by omega, ho⟩
    · exact Or.inr (⟨by omega, ho⟩)
    · exact absurd z (Nat.succ_ne_zero _)
  · simp only [List.mem_cons, Prod.mk.injEq, List.not_mem_nil, or_false] at hm
    rcases hm with ⟨z, z2⟩ | ⟨z, z2⟩ | ⟨z, z2⟩
    · exact absurd z (by decide)
    · exact absurd z (by decide)
    · exact z2
  · simp only [List.mem_cons, Prod.mk.injEq, List.not_mem_nil, or_false] at hm
    rcases hm with ⟨z, z2⟩ | ⟨z, z2⟩ | ⟨z, z2⟩
    · exact absurd z2 (by decide)
    · exact absurd z2 (by decide)
    · exact z
theorem ll_m_meter : Cond.methodLink RL 104 (mj_y 107) ∈ mj_G := mj_inG (List.mem_of_getElem? (i := 955) (by decide +kernel)) rfl
theorem ll_h_meter : Cond.methodLink RL 102 yL_meter ∈ mj_G := mj_inG (List.mem_of_getElem? (i := 750) (by decide +kernel)) rfl
theorem ll_s_meter : Cond.static yL_meter ∈ mj_G := mj_inG (List.mem_of_getElem? (i := 751) (by decide +kernel)) rfl
set_option maxRecDepth 100000 in
theorem ll_d_meter : ll_dC false [false, false] 102 104 566 = true := by decide +kernel
set_option maxHeartbeats 4000000 in
set_option maxRecDepth 100000 in
theorem ll_c_meter (L : Nat) (C : ll_C p l s m meth c b L xs D cA cL ad1 ad2 ao) (hI : mj_Ia Z) (hc : mk_CL Z M1) (hi : i + 6 ≤ L) (hcn : cn + 10 ≤ 601024) (hsn : sn + 60 ≤ 7293034) (h : ll_G p l e s m below meth c b D cA cL ad1 ad2 ao i cn sn Z) : ll_W p l e s m below meth c b D cA cL ad1 ad2 ao 566 i [] [] M1 (mj_mm Z X) o cn sn := by
  refine ll_case b L C false (ks := [false, false]) (hidx := 102) (midx := 104) (kc := 69) (dc := 3) (km := 107) (dm := 3) (y := yL_meter) (al := [(1, 1), (2, 2), (0, 0)]) ll_d_meter (by decide) hi (wsh := lh_w_meter) rfl lh_c_meter ll_h_meter ll_s_meter ll_ini (by decide +kernel) (by decide +kernel) (by decide) (by decide) (by decide) (fun Kc KK h1 h2 h3 => lh_meter h1 h2 (fun e' M' hk => ?_)) ll_m_meter (by decide) (by decide +kernel) rfl (fun z => by cases z) rfl rfl (by decide) rfl (fun cd hm => ?_) (fun e' hm => ?_) (la_meter hI hc) hcn hsn h
  · obtain ⟨cd, hm, ho⟩ := h3 e' M' hk
    simp only [List.mem_cons, Prod.mk.injEq, List.not_mem_nil, or_false] at hm
    rcases hm with ⟨z, rfl⟩ | ⟨z, rfl⟩ | ⟨z, -⟩
    · exact Or.inl ⟨by omega, ho⟩
    · exact Or.inr (⟨by omega, ho⟩)
    · exact absurd z (Nat.succ_ne_zero _)
  · simp only [List.mem_cons, Prod.mk.injEq, List.not_mem_nil, or_false] at hm
    rcases hm with ⟨z, z2⟩ | ⟨z, z2⟩ | ⟨z, z2⟩
    · exact absurd z (by decide)
    · exact absurd z (by decide)
    · exact z2
  · simp only [List.mem_cons, Prod.mk.injEq, List.not_mem_nil, or_false] at hm
    rcases hm with ⟨z, z2⟩ | ⟨z, z2⟩ | ⟨z, z2⟩
    · exact absurd z2 (by decide)
    · exact absurd z2 (by decide)
    · exact z
theorem ll_m_enter : Cond.methodLink RL 108 (mj_y 119) ∈ mj_G := mj_inG (List.mem_of_getElem? (i := 959) (by decide +kernel)) rfl
theorem ll_h_enter : Cond.methodLink RL 105 yL_enter ∈ mj_G := mj_inG (List.mem_of_getElem? (i := 757) (by decide +kernel)) rfl
theorem ll_s_enter : Cond.static yL_enter ∈ mj_G := mj_inG (List.mem_of_getElem? (i := 758) (by decide +kernel)) rfl
set_option maxRecDepth 100000 in
theorem ll_d_enter : ll_dC false [false, false, true, true, false] 105 108 634 = true := by decide +kernel
set_option maxHeartbeats 4000000 in
set_option maxRecDepth 100000 in
theorem ll_c_enter (L : Nat) (C : ll_C p l s m meth c b L xs D cA cL ad1 ad2 ao) (hI : mj_Ia Z) (hc : mk_CL Z M1) (hi : i + 6 ≤ L) (hcn : cn + 10 ≤ 601024) (hsn : sn + 60 ≤ 7293034) (h : ll_G p l e s m below meth c b D cA cL ad1 ad2 ao i cn sn Z) : ll_W p l e s m below meth c b D cA cL ad1 ad2 ao 634 i [] [] M1 (mj_mm Z X) o cn sn := by
  refine ll_case b L C false (ks := [false, false, true, true, false]) (hidx := 105) (midx := 108) (kc := 70) (dc := 5) (km := 119) (dm := 5) (y := yL_enter) (al := [(1, 1), (2, 2), (3, 3), (0, 0)]) ll_d_enter (by decide) hi (wsh := lh_w_enter) rfl lh_c_enter ll_h_enter ll_s_enter ll_ini (by decide +kernel) (by decide +kernel) (by decide) (by decide) (by decide) (fun Kc KK h1 h2 h3 => lh_enter h1 h2 (fun e' M' hk => ?_)) ll_m_enter (by decide) (by decide +kernel) rfl (fun z => by cases z) rfl rfl (by decide) rfl (fun cd hm => ?_) (fun e' hm => ?_) (la_enter hI hc) hcn hsn h
  · obtain ⟨cd, hm, ho⟩ := h3 e' M' hk
    simp only [List.mem_cons, Prod.mk.injEq, List.not_mem_nil, or_false] at hm
    rcases hm with ⟨z, rfl⟩ | ⟨z, rfl⟩ | ⟨z, rfl⟩ | ⟨z, -⟩
    · exact Or.inl ⟨by omega, ho⟩
    · exact Or.inr (Or.inl ⟨by omega, ho⟩)
    · exact Or.inr (Or.inr (⟨by omega, ho⟩))
    · exact absurd z (Nat.succ_ne_zero _)
  · simp only [List.mem_cons, Prod.mk.injEq, List.not_mem_nil, or_false] at hm
    rcases hm with ⟨z, z2⟩ | ⟨z, z2⟩ | ⟨z, z2⟩ | ⟨z, z2⟩
    · exact absurd z (by decide)
    · exact absurd z (by decide)
    · exact absurd z (by decide)
    · exact z2
  · simp only [List.mem_cons, Prod.mk.injEq, List.not_mem_nil, or_false] at hm
    rcases hm with ⟨z, z2⟩ | ⟨z, z2⟩ | ⟨z, z2⟩ | ⟨z, z2⟩
    · exact absurd z2 (by decide)
    · exact absurd z2 (by decide)
    · exact absurd z2 (by decide)
    · exact z
theorem ll_m_train : Cond.methodLink RL 111 (mj_y 122) ∈ mj_G := mj_inG (List.mem_of_getElem? (i := 983) (by decide +kernel)) rfl
theorem ll_h_train : Cond.methodLink RL 109 yL_train ∈ mj_G := mj_inG (List.mem_of_getElem? (i := 773) (by decide +kernel)) rfl
theorem ll_s_train : Cond.static yL_train ∈ mj_G := mj_inG (List.mem_of_getElem? (i := 774) (by decide +kernel)) rfl
set_option maxRecDepth 100000 in
theorem ll_d_train : ll_dC false [false, false, false, false, false] 109 111 770 = true := by decide +kernel
set_option maxHeartbeats 4000000 in
set_option maxRecDepth 100000 in
theorem ll_c_train (L : Nat) (C : ll_C p l s m meth c b L xs D cA cL ad1 ad2 ao) (hI : mj_Ia Z) (hc : mk_CL Z M1) (hi : i + 6 ≤ L) (hcn : cn + 10 ≤ 601024) (hsn : sn + 60 ≤ 7293034) (h : ll_G p l e s m below meth c b D cA cL ad1 ad2 ao i cn sn Z) : ll_W p l e s m below meth c b D cA cL ad1 ad2 ao 770 i [] [] M1 (mj_mm Z X) o cn sn := by
  refine ll_case b L C false (ks := [false, false, false, false, false]) (hidx := 109) (midx := 111) (kc := 71) (dc := 6) (km := 122) (dm := 5) (y := yL_train) (al := [(1, 1), (2, 2), (3, 3), (0, 0)]) ll_d_train (by decide) hi (wsh := lh_w_train) rfl lh_c_train ll_h_train ll_s_train ll_ini (by decide +kernel) (by decide +kernel) (by decide) (by decide) (by decide) (fun Kc KK h1 h2 h3 => lh_train h1 h2 (fun e' M' hk => ?_)) ll_m_train (by decide) (by decide +kernel) rfl (fun z => by cases z) rfl rfl (by decide) rfl (fun cd hm => ?_) (fun e' hm => ?_) (la_train hI hc) hcn hsn h
  · obtain ⟨cd, hm, ho⟩ := h3 e' M' hk
    simp only [List.mem_cons, Prod.mk.injEq, List.not_mem_nil, or_false] at hm
    rcases hm with ⟨z, rfl⟩ | ⟨z, rfl⟩ | ⟨z, rfl⟩ | ⟨z, -⟩
    · exact Or.inl ⟨by omega, ho⟩
    · exact Or.inr (Or.inl ⟨by omega, ho⟩)
    · exact Or.inr (Or.inr (⟨by omega, ho⟩))
    · exact absurd z (Nat.succ_ne_zero _)
  · simp only [List.mem_cons, Prod.mk.injEq, List.not_mem_nil, or_false] at hm
    rcases hm with ⟨z, z2⟩ | ⟨z, z2⟩ | ⟨z, z2⟩ | ⟨z, z2⟩
    · exact absurd z (by decide)
    · exact absurd z (by decide)
    · exact absurd z (by decide)
    · exact z2
  · simp only [List.mem_cons, Prod.mk.injEq, List.not_mem_nil, or_false] at hm
    rcases hm with ⟨z, z2⟩ | ⟨z, z2⟩ | ⟨z, z2⟩ | ⟨z, z2⟩
    · exact absurd z2 (by decide)
    · exact absurd z2 (by decide)
    · exact absurd z2 (by decide)
    · exact z
theorem ll_m_clear : Cond.methodLink RL 115 (mj_y 124) ∈ mj_G := mj_inG (List.mem_of_getElem? (i := 1003) (by decide +kernel)) rfl
theorem ll_q_clear_874 : decode code 874 = .ok (.aload_n 1, 1) := by decide +kernel
theorem ll_q_clear_875 : decode code 875 = .ok (.invokevirtual 112, 3) := by decide +kernel
theorem ll_q_clear_878 : decode code 878 = .ok (.aload_n 2, 1) := by decide +kernel
theorem ll_q_clear_879 : decode code 879 = .ok (.invokevirtual 115, 3) := by decide +kernel
theorem ll_q_clear_882 : decode code 882 = .ok (.if_icmp .eq 539, 3) := by decide +kernel
theorem ll_h_clear : Cond.methodLink RL 112 (mj_y 72) ∈ mj_G := mj_inG (List.mem_of_getElem? (i := 398) (by decide +kernel)) rfl
set_option maxHeartbeats 4000000 in
set_option maxRecDepth 100000 in
theorem ll_c_clear (L : Nat) (C : ll_C p l s m meth c b L xs D cA cL ad1 ad2 ao) (hI : mj_Ia Z) (hc : mk_CL Z M1) (hi : i + 6 ≤ L) (hcn : cn + 10 ≤ 601024) (hsn : sn + 60 ≤ 7293034) (h : ll_G p l e s m below meth c b D cA cL ad1 ad2 ao i cn sn Z) : ll_W p l e s m below meth c b D cA cL ad1 ad2 ao 874 i [] [] M1 (mj_mm Z X) o cn sn :=
  ll_dir b L C (kc := 72) (dc := 7) (km := 124) (dm := 5) ll_q_clear_874 ll_q_clear_875 ll_q_clear_878 ll_q_clear_879 ll_q_clear_882 (by decide) ll_h_clear (by decide) (by decide +kernel) rfl (fun z => by cases z) rfl rfl (by decide) rfl ll_m_clear (by decide) (by decide +kernel) rfl (fun z => by cases z) rfl rfl (by decide) rfl (la_direct_clear hI hc) hcn hsn h
theorem ll_m_pass : Cond.methodLink RL 118 (mj_y 135) ∈ mj_G := mj_inG (List.mem_of_getElem? (i := 1023) (by decide +kernel)) rfl
theorem ll_h_pass : Cond.methodLink RL 116 yL_pass ∈ mj_G := mj_inG (List.mem_of_getElem? (i := 794) (by decide +kernel)) rfl
theorem ll_s_pass : Cond.static yL_pass ∈ mj_G := mj_inG (List.mem_of_getElem? (i := 795) (by decide +kernel)) rfl
set_option maxRecDepth 100000 in
theorem ll_d_pass : ll_dC false [false] 116 118 887 = true := by decide +kernel
set_option maxHeartbeats 4000000 in
set_option maxRecDepth 100000 in
theorem ll_c_pass (L : Nat) (C : ll_C p l s m meth c b L xs D cA cL ad1 ad2 ao) (hI : mj_Ia Z) (hb : (Z 0 5).toInt + 60 ≤ 1000000) (hc : mk_CL Z M1) (hi : i + 6 ≤ L) (hcn : cn + 10 ≤ 601024) (hsn : sn + 60 ≤ 7293034) (h : ll_G p l e s m below meth c b D cA cL ad1 ad2 ao i cn sn Z) : ll_W p l e s m below meth c b D cA cL ad1 ad2 ao 887 i [] [] M1 (mj_mm Z X) o cn sn := by
  refine ll_case b L C false (ks := [false]) (hidx := 116) (midx := 118) (kc := 73) (dc := 7) (km := 135) (dm := 6) (y := yL_pass) (al := [(2, 1), (0, 0)]) ll_d_pass (by decide) hi (wsh := lh_w_pass) rfl lh_c_pass ll_h_pass ll_s_pass ll_ini (by decide +kernel) (by decide +kernel) (by decide) (by decide) (by decide) (fun Kc KK h1 h2 h3 => lh_pass h1 h2 (fun e' M' hk => ?_)) ll_m_pass (by decide) (by decide +kernel) rfl (fun z => by cases z) rfl rfl (by decide) rfl (fun cd hm => ?_) (fun e' hm => ?_) (la_pass hI hb hc) hcn hsn h
  · obtain ⟨cd, hm, ho⟩ := h3 e' M' hk
    simp only [List.mem_cons, Prod.mk.injEq, List.not_mem_nil, or_false] at hm
    rcases hm with ⟨z, rfl⟩ | ⟨z, -⟩
    · exact ⟨by omega, ho⟩
    · exact absurd z (Nat.succ_ne_zero _)
  · simp only [List.mem_cons, Prod.mk.injEq, List.not_mem_nil, or_false] at hm
    rcases hm with ⟨z, z2⟩ | ⟨z, z2⟩
    · exact absurd z (by decide)
    · exact z2
  · simp only [List.mem_cons, Prod.mk.injEq, List.not_mem_nil, or_false] at hm
    rcases hm with ⟨z, z2⟩ | ⟨z, z2⟩
    · exact absurd z2 (by decide)
    · exact z
theorem ll_m_now : Cond.methodLink RL 122 (mj_y 136) ∈ mj_G := mj_inG (List.mem_of_getElem? (i := 1079) (by decide +kernel)) rfl
theorem ll_q_now_943 : decode code 943 = .ok (.aload_n 1, 1) := by decide +kernel
theorem ll_q_now_944 : decode code 944 = .ok (.invokevirtual 119, 3) := by decide +kernel
theorem ll_q_now_947 : decode code 947 = .ok (.aload_n 2, 1) := by decide +kernel
theorem ll_q_now_948 : decode code 948 = .ok (.invokevirtual 122, 3) := by decide +kernel
theorem ll_q_now_951 : decode code 951 = .ok (.if_icmp .eq 470, 3) := by decide +kernel
theorem ll_h_now : Cond.methodLink RL 119 (mj_y 74) ∈ mj_G := mj_inG (List.mem_of_getElem? (i := 439) (by decide +kernel)) rfl
set_option maxHeartbeats 4000000 in
set_option maxRecDepth 100000 in
theorem ll_c_now (L : Nat) (C : ll_C p l s m meth c b L xs D cA cL ad1 ad2 ao) (hI : mj_Ia Z) (hc : mk_CL Z M1) (hi : i + 6 ≤ L) (hcn : cn + 10 ≤ 601024) (hsn : sn + 60 ≤ 7293034) (h : ll_G p l e s m below meth c b D cA cL ad1 ad2 ao i cn sn Z) : ll_W p l e s m below meth c b D cA cL ad1 ad2 ao 943 i [] [] M1 (mj_mm Z X) o cn sn :=
  ll_dir b L C (kc := 74) (dc := 1) (km := 136) (dm := 1) ll_q_now_943 ll_q_now_944 ll_q_now_947 ll_q_now_948 ll_q_now_951 (by decide) ll_h_now (by decide) (by decide +kernel) rfl (fun z => by cases z) rfl rfl (by decide) rfl ll_m_now (by decide) (by decide +kernel) rfl (fun z => by cases z) rfl rfl (by decide) rfl (la_direct_now hI hc) hcn hsn h
theorem ll_m_ofRoom : Cond.methodLink RL 125 (mj_y 137) ∈ mj_G := mj_inG (List.mem_of_getElem? (i := 1083) (by decide +kernel)) rfl
theorem ll_h_ofRoom : Cond.methodLink RL 123 yL_ofRoom ∈ mj_G := mj_inG (List.mem_of_getElem? (i := 801) (by decide +kernel)) rfl
theorem ll_s_ofRoom : Cond.static yL_ofRoom ∈ mj_G := mj_inG (List.mem_of_getElem? (i := 802) (by decide +kernel)) rfl
set_option maxRecDepth 100000 in
theorem ll_d_ofRoom : ll_dC false [false, false] 123 125 956 = true := by decide +kernel
set_option maxHeartbeats 4000000 in
set_option maxRecDepth 100000 in
theorem ll_c_ofRoom (L : Nat) (C : ll_C p l s m meth c b L xs D cA cL ad1 ad2 ao) (hI : mj_Ia Z) (hc : mk_CL Z M1) (hi : i + 6 ≤ L) (hcn : cn + 10 ≤ 601024) (hsn : sn + 60 ≤ 7293034) (h : ll_G p l e s m below meth c b D cA cL ad1 ad2 ao i cn sn Z) : ll_W p l e s m below meth c b D cA cL ad1 ad2 ao 956 i [] [] M1 (mj_mm Z X) o cn sn := by
  refine ll_case b L C false (ks := [false, false]) (hidx := 123) (midx := 125) (kc := 75) (dc := 3) (km := 137) (dm := 3) (y := yL_ofRoom) (al := [(1, 1), (2, 2), (0, 0)]) ll_d_ofRoom (by decide) hi (wsh := lh_w_ofRoom) rfl lh_c_ofRoom ll_h_ofRoom ll_s_ofRoom ll_ini (by decide +kernel) (by decide +kernel) (by decide) (by decide) (by decide) (fun Kc KK h1 h2 h3 => lh_ofRoom h1 h2 (fun e' M' hk => ?_)) ll_m_ofRoom (by decide) (by decide +kernel) rfl (fun z => by cases z) rfl rfl (by decide) rfl (fun cd hm => ?_) (fun e' hm => ?_) (la_ofRoom hI hc) hcn hsn h
  · obtain ⟨cd, hm, ho⟩ := h3 e' M' hk
    simp only [List.mem_cons, Prod.mk.injEq, List.not_mem_nil, or_false] at hm
    rcases hm with ⟨z, rfl⟩ | ⟨z, rfl⟩ | ⟨z, -⟩
    · exact Or.inl ⟨by omega, ho⟩
    · exact Or.inr (⟨by omega, ho⟩)
    · exact absurd z (Nat.succ_ne_zero _)
  · simp only [List.mem_cons, Prod.mk.injEq, List.not_mem_nil, or_false] at hm
    rcases hm with ⟨z, z2⟩ | ⟨z, z2⟩ | ⟨z, z2⟩
    · exact absurd z (by decide)
    · exact absurd z (by decide)
    · exact z2
  · simp only [List.mem_cons, Prod.mk.injEq, List.not_mem_nil, or_false] at hm
    rcases hm with ⟨z, z2⟩ | ⟨z, z2⟩ | ⟨z, z2⟩
    · exact absurd z2 (by decide)
    · exact absurd z2 (by decide)
    · exact z
theorem ll_m_ofLink : Cond.methodLink RL 128 (mj_y 138) ∈ mj_G := mj_inG (List.mem_of_getElem? (i := 1087) (by decide +kernel)) rfl
theorem ll_h_ofLink : Cond.methodLink RL 126 yL_ofLink ∈ mj_G := mj_inG (List.mem_of_getElem? (i := 809) (by decide +kernel)) rfl
theorem ll_s_ofLink : Cond.static yL_ofLink ∈ mj_G := mj_inG (List.mem_of_getElem? (i := 810) (by decide +kernel)) rfl
set_option maxRecDepth 100000 in
theorem ll_d_ofLink : ll_dC false [false, false] 126 128 1024 = true := by decide +kernel
set_option maxHeartbeats 4000000 in
set_option maxRecDepth 100000 in
theorem ll_c_ofLink (L : Nat) (C : ll_C p l s m meth c b L xs D cA cL ad1 ad2 ao) (hI : mj_Ia Z) (hc : mk_CL Z M1) (hi : i + 6 ≤ L) (hcn : cn + 10 ≤ 601024) (hsn : sn + 60 ≤ 7293034) (h : ll_G p l e s m below meth c b D cA cL ad1 ad2 ao i cn sn Z) : ll_W p l e s m below meth c b D cA cL ad1 ad2 ao 1024 i [] [] M1 (mj_mm Z X) o cn sn := by
  refine ll_case b L C false (ks := [false, false]) (hidx := 126) (midx := 128) (kc := 76) (dc := 5) (km := 138) (dm := 5) (y := yL_ofLink) (al := [(1, 1), (2, 2), (0, 0)]) ll_d_ofLink (by decide) hi (wsh := lh_w_ofLink) rfl lh_c_ofLink ll_h_ofLink ll_s_ofLink ll_ini (by decide +kernel) (by decide +kernel) (by decide) (by decide) (by decide) (fun Kc KK h1 h2 h3 => lh_ofLink h1 h2 (fun e' M' hk => ?_)) ll_m_ofLink (by decide) (by decide +kernel) rfl (fun z => by cases z) rfl rfl (by decide) rfl (fun cd hm => ?_) (fun e' hm => ?_) (la_ofLink hI hc) hcn hsn h
  · obtain ⟨cd, hm, ho⟩ := h3 e' M' hk
    simp only [List.mem_cons, Prod.mk.injEq, List.not_mem_nil, or_false] at hm
    rcases hm with ⟨z, rfl⟩ | ⟨z, rfl⟩ | ⟨z, -⟩
    · exact Or.inl ⟨by omega, ho⟩
    · exact Or.inr (⟨by omega, ho⟩)
    · exact absurd z (Nat.succ_ne_zero _)
  · simp only [List.mem_cons, Prod.mk.injEq, List.not_mem_nil, or_false] at hm
    rcases hm with ⟨z, z2⟩ | ⟨z, z2⟩ | ⟨z, z2⟩
    · exact absurd z (by decide)
    · exact absurd z (by decide)
    · exact z2
  · simp only [List.mem_cons, Prod.mk.injEq, List.not_mem_nil, or_false] at hm
    rcases hm with ⟨z, z2⟩ | ⟨z, z2⟩ | ⟨z, z2⟩
    · exact absurd z2 (by decide)
    · exact absurd z2 (by decide)
    · exact z
theorem ll_m_person : Cond.methodLink RL 131 (mj_y 139) ∈ mj_G := mj_inG (List.mem_of_getElem? (i := 1091) (by decide +kernel)) rfl
theorem ll_h_person : Cond.methodLink RL 129 yL_person ∈ mj_G := mj_inG (List.mem_of_getElem? (i := 821) (by decide +kernel)) rfl
theorem ll_s_person : Cond.static yL_person ∈ mj_G := mj_inG (List.mem_of_getElem? (i := 822) (by decide +kernel)) rfl
set_option maxRecDepth 100000 in
theorem ll_d_person : ll_dC false [false, false] 129 131 1092 = true := by decide +kernel
set_option maxHeartbeats 4000000 in
set_option maxRecDepth 100000 in
theorem ll_c_person (L : Nat) (C : ll_C p l s m meth c b L xs D cA cL ad1 ad2 ao) (hI : mj_Ia Z) (hc : mk_CL Z M1) (hi : i + 6 ≤ L) (hcn : cn + 10 ≤ 601024) (hsn : sn + 60 ≤ 7293034) (h : ll_G p l e s m below meth c b D cA cL ad1 ad2 ao i cn sn Z) : ll_W p l e s m below meth c b D cA cL ad1 ad2 ao 1092 i [] [] M1 (mj_mm Z X) o cn sn := by
  refine ll_case b L C false (ks := [false, false]) (hidx := 129) (midx := 131) (kc := 77) (dc := 4) (km := 139) (dm := 5) (y := yL_person) (al := [(1, 1), (2, 2), (0, 0)]) ll_d_person (by decide) hi (wsh := lh_w_person) rfl lh_c_person ll_h_person ll_s_person ll_ini (by decide +kernel) (by decide +kernel) (by decide) (by decide) (by decide) (fun Kc KK h1 h2 h3 => lh_person h1 h2 (fun e' M' hk => ?_)) ll_m_person (by decide) (by decide +kernel) rfl (fun z => by cases z) rfl rfl (by decide) rfl (fun cd hm => ?_) (fun e' hm => ?_) (la_person hI hc) hcn hsn h
  · obtain ⟨cd, hm, ho⟩ := h3 e' M' hk
    simp only [List.mem_cons, Prod.mk.injEq, List.not_mem_nil, or_false] at hm
    rcases hm with ⟨z, rfl⟩ | ⟨z, rfl⟩ | ⟨z, -⟩
    · exact Or.inl ⟨by omega, ho⟩
    · exact Or.inr (⟨by omega, ho⟩)
    · exact absurd z (Nat.succ_ne_zero _)
  · simp only [List.mem_cons, Prod.mk.injEq, List.not_mem_nil, or_false] at hm
    rcases hm with ⟨z, z2⟩ | ⟨z, z2⟩ | ⟨z, z2⟩
    · exact absurd z (by decide)
    · exact absurd z (by decide)
    · exact z2
  · simp only [List.mem_cons, Prod.mk.injEq, List.not_mem_nil, or_false] at hm
    rcases hm with ⟨z, z2⟩ | ⟨z, z2⟩ | ⟨z, z2⟩
    · exact absurd z2 (by decide)
    · exact absurd z2 (by decide)
    · exact z
theorem ll_m_ofTrain : Cond.methodLink RL 134 (mj_y 140) ∈ mj_G := mj_inG (List.mem_of_getElem? (i := 1099) (by decide +kernel)) rfl
theorem ll_h_ofTrain : Cond.methodLink RL 132 yL_ofTrain ∈ mj_G := mj_inG (List.mem_of_getElem? (i := 836) (by decide +kernel)) rfl
theorem ll_s_ofTrain : Cond.static yL_ofTrain ∈ mj_G := mj_inG (List.mem_of_getElem? (i := 837) (by decide +kernel)) rfl
set_option maxRecDepth 100000 in
theorem ll_d_ofTrain : ll_dC false [false, false] 132 134 1160 = true := by decide +kernel
set_option maxHeartbeats 4000000 in
set_option maxRecDepth 100000 in
theorem ll_c_ofTrain (L : Nat) (C : ll_C p l s m meth c b L xs D cA cL ad1 ad2 ao) (hI : mj_Ia Z) (hc : mk_CL Z M1) (hi : i + 6 ≤ L) (hcn : cn + 10 ≤ 601024) (hsn : sn + 60 ≤ 7293034) (h : ll_G p l e s m below meth c b D cA cL ad1 ad2 ao i cn sn Z) : ll_W p l e s m below meth c b D cA cL ad1 ad2 ao 1160 i [] [] M1 (mj_mm Z X) o cn sn := by
  refine ll_case b L C false (ks := [false, false]) (hidx := 132) (midx := 134) (kc := 78) (dc := 3) (km := 140) (dm := 2) (y := yL_ofTrain) (al := [(1, 1), (2, 2), (0, 0)]) ll_d_ofTrain (by decide) hi (wsh := lh_w_ofTrain) rfl lh_c_ofTrain ll_h_ofTrain ll_s_ofTrain ll_ini (by decide +kernel) (by decide +kernel) (by decide) (by decide) (by decide) (fun Kc KK h1 h2 h3 => lh_ofTrain h1 h2 (fun e' M' hk => ?_)) ll_m_ofTrain (by decide) (by decide +kernel) rfl (fun z => by cases z) rfl rfl (by decide) rfl (fun cd hm => ?_) (fun e' hm => ?_) (la_ofTrain hI hc) hcn hsn h
  · obtain ⟨cd, hm, ho⟩ := h3 e' M' hk
    simp only [List.mem_cons, Prod.mk.injEq, List.not_mem_nil, or_false] at hm
    rcases hm with ⟨z, rfl⟩ | ⟨z, rfl⟩ | ⟨z, -⟩
    · exact Or.inl ⟨by omega, ho⟩
    · exact Or.inr (⟨by omega, ho⟩)
    · exact absurd z (Nat.succ_ne_zero _)
  · simp only [List.mem_cons, Prod.mk.injEq, List.not_mem_nil, or_false] at hm
    rcases hm with ⟨z, z2⟩ | ⟨z, z2⟩ | ⟨z, z2⟩
    · exact absurd z (by decide)
    · exact absurd z (by decide)
    · exact z2
  · simp only [List.mem_cons, Prod.mk.injEq, List.not_mem_nil, or_false] at hm
    rcases hm with ⟨z, z2⟩ | ⟨z, z2⟩ | ⟨z, z2⟩
    · exact absurd z2 (by decide)
    · exact absurd z2 (by decide)
    · exact z
theorem ll_m_foretell : Cond.methodLink RL 137 (mj_y 142) ∈ mj_G := mj_inG (List.mem_of_getElem? (i := 1103) (by decide +kernel)) rfl
theorem ll_h_foretell : Cond.methodLink RL 135 yL_foretell ∈ mj_G := mj_inG (List.mem_of_getElem? (i := 850) (by decide +kernel)) rfl
theorem ll_s_foretell : Cond.static yL_foretell ∈ mj_G := mj_inG (List.mem_of_getElem? (i := 851) (by decide +kernel)) rfl
set_option maxRecDepth 100000 in
theorem ll_d_foretell : ll_dC false [false, false] 135 137 1228 = true := by decide +kernel
set_option maxHeartbeats 4000000 in
set_option maxRecDepth 100000 in
theorem ll_c_foretell (L : Nat) (C : ll_C p l s m meth c b L xs D cA cL ad1 ad2 ao) (hI : mj_Ia Z) (hb : (Z 0 5).toInt + 60 ≤ 1000000) (hc : mk_CL Z M1) (hi : i + 6 ≤ L) (hcn : cn + 10 ≤ 601024) (hsn : sn + 60 ≤ 7293034) (h : ll_G p l e s m below meth c b D cA cL ad1 ad2 ao i cn sn Z) : ll_W p l e s m below meth c b D cA cL ad1 ad2 ao 1228 i [] [] M1 (mj_mm Z X) o cn sn := by
  refine ll_case b L C false (ks := [false, false]) (hidx := 135) (midx := 137) (kc := 79) (dc := 7) (km := 142) (dm := 6) (y := yL_foretell) (al := [(1, 1), (2, 2), (0, 0)]) ll_d_foretell (by decide) hi (wsh := lh_w_foretell) rfl lh_c_foretell ll_h_foretell ll_s_foretell ll_ini (by decide +kernel) (by decide +kernel) (by decide) (by decide) (by decide) (fun Kc KK h1 h2 h3 => lh_foretell h1 h2 (fun e' M' hk => ?_)) ll_m_foretell (by decide) (by decide +kernel) rfl (fun z => by cases z) rfl rfl (by decide) rfl (fun cd hm => ?_) (fun e' hm => ?_) (la_fore hI hb hc) hcn hsn h
  · obtain ⟨cd, hm, ho⟩ := h3 e' M' hk
    simp only [List.mem_cons, Prod.mk.injEq, List.not_mem_nil, or_false] at hm
    rcases hm with ⟨z, rfl⟩ | ⟨z, rfl⟩ | ⟨z, -⟩
    · exact Or.inl ⟨by omega, ho⟩
    · exact Or.inr (⟨by omega, ho⟩)
    · exact absurd z (Nat.succ_ne_zero _)
  · simp only [List.mem_cons, Prod.mk.injEq, List.not_mem_nil, or_false] at hm
    rcases hm with ⟨z, z2⟩ | ⟨z, z2⟩ | ⟨z, z2⟩
    · exact absurd z (by decide)
    · exact absurd z (by decide)
    · exact z2
  · simp only [List.mem_cons, Prod.mk.injEq, List.not_mem_nil, or_false] at hm
    rcases hm with ⟨z, z2⟩ | ⟨z, z2⟩ | ⟨z, z2⟩
    · exact absurd z2 (by decide)
    · exact absurd z2 (by decide)
    · exact z
theorem ll_m_clears : Cond.methodLink RL 141 (mj_y 144) ∈ mj_G := mj_inG (List.mem_of_getElem? (i := 1110) (by decide +kernel)) rfl
theorem ll_q_clears_1296 : decode code 1296 = .ok (.aload_n 1, 1) := by decide +kernel
theorem ll_q_clears_1297 : decode code 1297 = .ok (.invokevirtual 138, 3) := by decide +kernel
theorem ll_q_clears_1300 : decode code 1300 = .ok (.aload_n 2, 1) := by decide +kernel
theorem ll_q_clears_1301 : decode code 1301 = .ok (.invokevirtual 141, 3) := by decide +kernel
theorem ll_q_clears_1304 : decode code 1304 = .ok (.if_icmp .eq 117, 3) := by decide +kernel
theorem ll_h_clears : Cond.methodLink RL 138 (mj_y 80) ∈ mj_G := mj_inG (List.mem_of_getElem? (i := 443) (by decide +kernel)) rfl
set_option maxHeartbeats 4000000 in
set_option maxRecDepth 100000 in
theorem ll_c_clears (L : Nat) (C : ll_C p l s m meth c b L xs D cA cL ad1 ad2 ao) (hI : mj_Ia Z) (hb : (Z 0 5).toInt + 100 ≤ 1000000) (hc : mk_CL Z M1) (hi : i + 6 ≤ L) (hcn : cn + 10 ≤ 601024) (hsn : sn + 60 ≤ 7293034) (h : ll_G p l e s m below meth c b D cA cL ad1 ad2 ao i cn sn Z) : ll_W p l e s m below meth c b D cA cL ad1 ad2 ao 1296 i [] [] M1 (mj_mm Z X) o cn sn :=
  ll_dir b L C (kc := 80) (dc := 7) (km := 144) (dm := 6) ll_q_clears_1296 ll_q_clears_1297 ll_q_clears_1300 ll_q_clears_1301 ll_q_clears_1304 (by decide) ll_h_clears (by decide) (by decide +kernel) rfl (fun z => by cases z) rfl rfl (by decide) rfl ll_m_clears (by decide) (by decide +kernel) rfl (fun z => by cases z) rfl rfl (by decide) rfl (la_direct_clears hI hb hc) hcn hsn h
theorem ll_m_alone : Cond.methodLink RL 144 (mj_y 145) ∈ mj_G := mj_inG (List.mem_of_getElem? (i := 1118) (by decide +kernel)) rfl
theorem ll_h_alone : Cond.methodLink RL 142 yL_alone ∈ mj_G := mj_inG (List.mem_of_getElem? (i := 857) (by decide +kernel)) rfl
theorem ll_s_alone : Cond.static yL_alone ∈ mj_G := mj_inG (List.mem_of_getElem? (i := 858) (by decide +kernel)) rfl
set_option maxRecDepth 100000 in
theorem ll_d_alone : ll_dC false [false] 142 144 1309 = true := by decide +kernel
set_option maxHeartbeats 4000000 in
set_option maxRecDepth 100000 in
theorem ll_c_alone (L : Nat) (C : ll_C p l s m meth c b L xs D cA cL ad1 ad2 ao) (hI : mj_Ia Z) (hc : mk_CL Z M1) (hi : i + 6 ≤ L) (hcn : cn + 10 ≤ 601024) (hsn : sn + 60 ≤ 7293034) (h : ll_G p l e s m below meth c b D cA cL ad1 ad2 ao i cn sn Z) : ll_W p l e s m below meth c b D cA cL ad1 ad2 ao 1309 i [] [] M1 (mj_mm Z X) o cn sn := by
  refine ll_case b L C false (ks := [false]) (hidx := 142) (midx := 144) (kc := 81) (dc := 4) (km := 145) (dm := 4) (y := yL_alone) (al := [(1, 1), (0, 0)]) ll_d_alone (by decide) hi (wsh := lh_w_alone) rfl lh_c_alone ll_h_alone ll_s_alone ll_ini (by decide +kernel) (by decide +kernel) (by decide) (by decide) (by decide) (fun Kc KK h1 h2 h3 => lh_alone h1 h2 (fun e' M' hk => ?_)) ll_m_alone (by decide) (by decide +kernel) rfl (fun z => by cases z) rfl rfl (by decide) rfl (fun cd hm => ?_) (fun e' hm => ?_) (la_alone hI hc) hcn hsn h
  · obtain ⟨cd, hm, ho⟩ := h3 e' M' hk
    simp only [List.mem_cons, Prod.mk.injEq, List.not_mem_nil, or_false] at hm
    rcases hm with ⟨z, rfl⟩ | ⟨z, -⟩
    · exact ⟨by omega, ho⟩
    · exact absurd z (Nat.succ_ne_zero _)
  · simp only [List.mem_cons, Prod.mk.injEq, List.not_mem_nil, or_false] at hm
    rcases hm with ⟨z, z2⟩ | ⟨z, z2⟩
    · exact absurd z (by decide)
    · exact z2
  · simp only [List.mem_cons, Prod.mk.injEq, List.not_mem_nil, or_false] at hm
    rcases hm with ⟨z, z2⟩ | ⟨z, z2⟩
    · exact absurd z2 (by decide)
    · exact z
theorem ll_m_aloneAnew : Cond.methodLink RL 147 (mj_y 146) ∈ mj_G := mj_inG (List.mem_of_getElem? (i := 1122) (by decide +kernel)) rfl
theorem ll_h_aloneAnew : Cond.methodLink RL 145 yL_aloneAnew ∈ mj_G := mj_inG (List.mem_of_getElem? (i := 868) (by decide +kernel)) rfl
theorem ll_s_aloneAnew : Cond.static yL_aloneAnew ∈ mj_G := mj_inG (List.mem_of_getElem? (i := 869) (by decide +kernel)) rfl
set_option maxRecDepth 100000 in
theorem ll_d_aloneAnew : ll_dC false [false] 145 147 1365 = true := by decide +kernel
set_option maxHeartbeats 4000000 in
set_option maxRecDepth 100000 in
theorem ll_c_aloneAnew (L : Nat) (C : ll_C p l s m meth c b L xs D cA cL ad1 ad2 ao) (hI : mj_Ia Z) (hc : mk_CL Z M1) (hi : i + 6 ≤ L) (hcn : cn + 10 ≤ 601024) (hsn : sn + 60 ≤ 7293034) (h : ll_G p l e s m below meth c b D cA cL ad1 ad2 ao i cn sn Z) : ll_W p l e s m below meth c b D cA cL ad1 ad2 ao 1365 i [] [] M1 (mj_mm Z X) o cn sn := by
  refine ll_case b L C false (ks := [false]) (hidx := 145) (midx := 147) (kc := 82) (dc := 16) (km := 146) (dm := 5) (y := yL_aloneAnew) (al := [(1, 1), (0, 0)]) ll_d_aloneAnew (by decide) hi (wsh := lh_w_aloneAnew) rfl lh_c_aloneAnew ll_h_aloneAnew ll_s_aloneAnew ll_ini (by decide +kernel) (by decide +kernel) (by decide) (by decide) (by decide) (fun Kc KK h1 h2 h3 => lh_aloneAnew h1 h2 (fun e' M' hk => ?_)) ll_m_aloneAnew (by decide) (by decide +kernel) rfl (fun z => by cases z) rfl rfl (by decide) rfl (fun cd hm => ?_) (fun e' hm => ?_) (la_aloneA hI hc) hcn hsn h
  · obtain ⟨cd, hm, ho⟩ := h3 e' M' hk
    simp only [List.mem_cons, Prod.mk.injEq, List.not_mem_nil, or_false] at hm
    rcases hm with ⟨z, rfl⟩ | ⟨z, -⟩
    · exact ⟨by omega, ho⟩
    · exact absurd z (Nat.succ_ne_zero _)
  · simp only [List.mem_cons, Prod.mk.injEq, List.not_mem_nil, or_false] at hm
    rcases hm with ⟨z, z2⟩ | ⟨z, z2⟩
    · exact absurd z (by decide)
    · exact z2
  · simp only [List.mem_cons, Prod.mk.injEq, List.not_mem_nil, or_false] at hm
    rcases hm with ⟨z, z2⟩ | ⟨z, z2⟩
    · exact absurd z2 (by decide)
    · exact z
end LLD
