-- branches, switches, Math, a constant, throws
section MJ
variable {lv k d pc cn : Nat} {ls : List (Option Value)} {st rest : List Value} {M : mj_M} {K : mj_K}
theorem mj_r_if_eq {off : Int} {tgt : Nat} {x : Int32} (hd : decode (mj_c k) pc = .ok (.ifCond .eq off, 3)) (ht : (pc : Int) + off = (tgt : Int)) (kt : x = 0 → mj_W lv k d tgt ls st M cn K) (kf : ¬ x = 0 → mj_W lv k d (pc + 3) ls st M cn K) : mj_W lv k d pc ls (.int x :: st) M cn K := by
  intro p l e s m args below meth c D cA ad C H locs lsA hl hP hS
  obtain ⟨hx, -, hb, -⟩ := id C
  exact lv_if_eq hx hb hd ht (fun q => kt q p l e s m args below meth c D cA ad C H locs lsA hl hP hS) (fun q => kf q p l e s m args below meth c D cA ad C H locs lsA hl hP hS)
theorem mj_r_icmp_eq {off : Int} {tgt : Nat} {x y : Int32} (hd : decode (mj_c k) pc = .ok (.if_icmp .eq off, 3)) (ht : (pc : Int) + off = (tgt : Int)) (kt : x = y → mj_W lv k d tgt ls st M cn K) (kf : ¬ x = y → mj_W lv k d (pc + 3) ls st M cn K) : mj_W lv k d pc ls (.int y :: .int x :: st) M cn K := by
  intro p l e s m args below meth c D cA ad C H locs lsA hl hP hS
  obtain ⟨hx, -, hb, -⟩ := id C
  exact lv_icmp_eq hx hb hd ht (fun q => kt q p l e s m args below meth c D cA ad C H locs lsA hl hP hS) (fun q => kf q p l e s m args below meth c D cA ad C H locs lsA hl hP hS)
theorem mj_r_if_ne {off : Int} {tgt : Nat} {x : Int32} (hd : decode (mj_c k) pc = .ok (.ifCond .ne off, 3)) (ht : (pc : Int) + off = (tgt : Int)) (kt : ¬ x = 0 → mj_W lv k d tgt ls st M cn K) (kf : x = 0 → mj_W lv k d (pc + 3) ls st M cn K) : mj_W lv k d pc ls (.int x :: st) M cn K := by
  intro p l e s m args below meth c D cA ad C H locs lsA hl hP hS
  obtain ⟨hx, -, hb, -⟩ := id C
  exact lv_if_ne hx hb hd ht (fun q => kt q p l e s m args below meth c D cA ad C H locs lsA hl hP hS) (fun q => kf q p l e s m args below meth c D cA ad C H locs lsA hl hP hS)
theorem mj_r_icmp_ne {off : Int} {tgt : Nat} {x y : Int32} (hd : decode (mj_c k) pc = .ok (.if_icmp .ne off, 3)) (ht : (pc : Int) + off = (tgt : Int)) (kt : ¬ x = y → mj_W lv k d tgt ls st M cn K) (kf : x = y → mj_W lv k d (pc + 3) ls st M cn K) : mj_W lv k d pc ls (.int y :: .int x :: st) M cn K := by
  intro p l e s m args below meth c D cA ad C H locs lsA hl hP hS
  obtain ⟨hx, -, hb, -⟩ := id C
  exact lv_icmp_ne hx hb hd ht (fun q => kt q p l e s m args below meth c D cA ad C H locs lsA hl hP hS) (fun q => kf q p l e s m args below meth c D cA ad C H locs lsA hl hP hS)
theorem mj_r_if_lt {off : Int} {tgt : Nat} {x : Int32} (hd : decode (mj_c k) pc = .ok (.ifCond .lt off, 3)) (ht : (pc : Int) + off = (tgt : Int)) (kt : x < 0 → mj_W lv k d tgt ls st M cn K) (kf : ¬ x < 0 → mj_W lv k d (pc + 3) ls st M cn K) : mj_W lv k d pc ls (.int x :: st) M cn K := by
  intro p l e s m args below meth c D cA ad C H locs lsA hl hP hS
  obtain ⟨hx, -, hb, -⟩ := id C
  exact lv_if_lt hx hb hd ht (fun q => kt q p l e s m args below meth c D cA ad C H locs lsA hl hP hS) (fun q => kf q p l e s m args below meth c D cA ad C H locs lsA hl hP hS)
theorem mj_r_icmp_lt {off : Int} {tgt : Nat} {x y : Int32} (hd : decode (mj_c k) pc = .ok (.if_icmp .lt off, 3)) (ht : (pc : Int) + off = (tgt : Int)) (kt : x < y → mj_W lv k d tgt ls st M cn K) (kf : ¬ x < y → mj_W lv k d (pc + 3) ls st M cn K) : mj_W lv k d pc ls (.int y :: .int x :: st) M cn K := by
  intro p l e s m args below meth c D cA ad C H locs lsA hl hP hS
  obtain ⟨hx, -, hb, -⟩ := id C
  exact lv_icmp_lt hx hb hd ht (fun q => kt q p l e s m args below meth c D cA ad C H locs lsA hl hP hS) (fun q => kf q p l e s m args below meth c D cA ad C H locs lsA hl hP hS)
theorem mj_r_if_ge {off : Int} {tgt : Nat} {x : Int32} (hd : decode (mj_c k) pc = .ok (.ifCond .ge off, 3)) (ht : (pc : Int) + off = (tgt : Int)) (kt : 0 ≤ x → mj_W lv k d tgt ls st M cn K) (kf : ¬ 0 ≤ x → mj_W lv k d (pc + 3) ls st M cn K) : mj_W lv k d pc ls (.int x :: st) M cn K := by
  intro p l e s m args below meth c D cA ad C H locs lsA hl hP hS
  obtain ⟨hx, -, hb, -⟩ := id C
  exact lv_if_ge hx hb hd ht (fun q => kt q p l e s m args below meth c D cA ad C H locs lsA hl hP hS) (fun q => kf q p l e s m args below meth c D cA ad C H locs lsA hl hP hS)
theorem mj_r_icmp_ge {off : Int} {tgt : Nat} {x y : Int32} (hd : decode (mj_c k) pc = .ok (.if_icmp .ge off, 3)) (ht : (pc : Int) + off = (tgt : Int)) (kt : y ≤ x → mj_W lv k d tgt ls st M cn K) (kf : ¬ y ≤ x → mj_W lv k d (pc + 3) ls st M cn K) : mj_W lv k d pc ls (.int y :: .int x :: st) M cn K := by
  intro p l e s m args below meth c D cA ad C H locs lsA hl hP hS
  obtain ⟨hx, -, hb, -⟩ := id C
  exact lv_icmp_ge hx hb hd ht (fun q => kt q p l e s m args below meth c D cA ad C H locs lsA hl hP hS) (fun q => kf q p l e s m args below meth c D cA ad C H locs lsA hl hP hS)
theorem mj_r_if_gt {off : Int} {tgt : Nat} {x : Int32} (hd : decode (mj_c k) pc = .ok (.ifCond .gt off, 3)) (ht : (pc : Int) + off = (tgt : Int)) (kt : 0 < x → mj_W lv k d tgt ls st M cn K) (kf : ¬ 0 < x → mj_W lv k d (pc + 3) ls st M cn K) : mj_W lv k d pc ls (.int x :: st) M cn K := by
  intro p l e s m args below meth c D cA ad C H locs lsA hl hP hS
  obtain ⟨hx, -, hb, -⟩ := id C
  exact lv_if_gt hx hb hd ht (fun q => kt q p l e s m args below meth c D cA ad C H locs lsA hl hP hS) (fun q => kf q p l e s m args below meth c D cA ad C H locs lsA hl hP hS)
theorem mj_r_icmp_gt {off : Int} {tgt : Nat} {x y : Int32} (hd : decode (mj_c k) pc = .ok (.if_icmp .gt off, 3)) (ht : (pc : Int) + off = (tgt : Int)) (kt : y < x → mj_W lv k d tgt ls st M cn K) (kf : ¬ y < x → mj_W lv k d (pc + 3) ls st M cn K) : mj_W lv k d pc ls (.int y :: .int x :: st) M cn K := by
  intro p l e s m args below meth c D cA ad C H locs lsA hl hP hS
  obtain ⟨hx, -, hb, -⟩ := id C
  exact lv_icmp_gt hx hb hd ht (fun q => kt q p l e s m args below meth c D cA ad C H locs lsA hl hP hS) (fun q => kf q p l e s m args below meth c D cA ad C H locs lsA hl hP hS)
theorem mj_r_if_le {off : Int} {tgt : Nat} {x : Int32} (hd : decode (mj_c k) pc = .ok (.ifCond .le off, 3)) (ht : (pc : Int) + off = (tgt : Int)) (kt : x ≤ 0 → mj_W lv k d tgt ls st M cn K) (kf : ¬ x ≤ 0 → mj_W lv k d (pc + 3) ls st M cn K) : mj_W lv k d pc ls (.int x :: st) M cn K := by
  intro p l e s m args below meth c D cA ad C H locs lsA hl hP hS
  obtain ⟨hx, -, hb, -⟩ := id C
  exact lv_if_le hx hb hd ht (fun q => kt q p l e s m args below meth c D cA ad C H locs lsA hl hP hS) (fun q => kf q p l e s m args below meth c D cA ad C H locs lsA hl hP hS)
theorem mj_r_icmp_le {off : Int} {tgt : Nat} {x y : Int32} (hd : decode (mj_c k) pc = .ok (.if_icmp .le off, 3)) (ht : (pc : Int) + off = (tgt : Int)) (kt : x ≤ y → mj_W lv k d tgt ls st M cn K) (kf : ¬ x ≤ y → mj_W lv k d (pc + 3) ls st M cn K) : mj_W lv k d pc ls (.int y :: .int x :: st) M cn K := by
  intro p l e s m args below meth c D cA ad C H locs lsA hl hP hS
  obtain ⟨hx, -, hb, -⟩ := id C
  exact lv_icmp_le hx hb hd ht (fun q => kt q p l e s m args below meth c D cA ad C H locs lsA hl hP hS) (fun q => kf q p l e s m args below meth c D cA ad C H locs lsA hl hP hS)
theorem mj_r_tabOut {dflt lo hi : Int} {offs : Array Int} {len tgt : Nat} {x : Int32} (hd : decode (mj_c k) pc = .ok (.tableswitch dflt lo hi offs, len)) (hq : x.toInt < lo ∨ hi < x.toInt) (ht : (pc : Int) + dflt = (tgt : Int)) (h : mj_W lv k d tgt ls st M cn K) : mj_W lv k d pc ls (.int x :: st) M cn K := by
  intro p l e s m args below meth c D cA ad C H locs lsA hl hP hS
  obtain ⟨hx, -, hb, -⟩ := id C
  exact lv_tableOut hx hb hd hq ht (h p l e s m args below meth c D cA ad C H locs lsA hl hP hS)
theorem mj_r_tabIn {dflt lo hi off : Int} {offs : Array Int} {len tgt : Nat} {x : Int32} (hd : decode (mj_c k) pc = .ok (.tableswitch dflt lo hi offs, len)) (h1 : ¬ x.toInt < lo) (h2 : ¬ hi < x.toInt) (ho : offs[(x.toInt - lo).toNat]? = some off) (ht : (pc : Int) + off = (tgt : Int)) (h : mj_W lv k d tgt ls st M cn K) : mj_W lv k d pc ls (.int x :: st) M cn K := by
  intro p l e s m args below meth c D cA ad C H locs lsA hl hP hS
  obtain ⟨hx, -, hb, -⟩ := id C
  exact lv_tableIn hx hb hd h1 h2 ho ht (h p l e s m args below meth c D cA ad C H locs lsA hl hP hS)
-- Math.min, Math.max: class, pool entry
def mj_MN : List (Nat × Nat) := [(2, 39), (3, 130), (5, 22)]
def mj_MX : List (Nat × Nat) := [(2, 45)]
theorem mj_inMN {e : Nat × Nat} (h : e ∈ mj_MN) : Cond.methodLink (mj_R e.1) e.2 Lib.Math.min.name ∈ mj_G := by
  refine mj_inG (mj_memp [674, 601, 426] (ws := mj_MN.map (fun e => Cond.methodLink (mj_R e.1) e.2 Lib.Math.min.name)) (by decide +kernel) (List.mem_map.mpr ⟨e, h, rfl⟩)) rfl
theorem mj_inMX {e : Nat × Nat} (h : e ∈ mj_MX) : Cond.methodLink (mj_R e.1) e.2 Lib.Math.max.name ∈ mj_G := by
  refine mj_inG (mj_memp [675] (ws := mj_MX.map (fun e => Cond.methodLink (mj_R e.1) e.2 Lib.Math.max.name)) (by decide +kernel) (List.mem_map.mpr ⟨e, h, rfl⟩)) rfl
theorem mj_inMs : Cond.static Lib.Math.min.name ∈ mj_G := mj_inG (List.mem_of_getElem? (i := 427) (by decide +kernel)) rfl
theorem mj_inMs2 : Cond.static Lib.Math.max.name ∈ mj_G := mj_inG (List.mem_of_getElem? (i := 676) (by decide +kernel)) rfl
theorem mj_inMi : Cond.initialized "java/lang/Math" ∈ mj_G := mj_inG (List.mem_of_getElem? (i := 39) (by decide +kernel)) rfl
theorem mj_inMc : Cond.code Lib.Math.min.name Lib.Math.min.code 2 (some .int) ∈ mj_G := mj_inG (List.mem_of_getElem? (i := 428) (by decide +kernel)) rfl
theorem mj_inMc2 : Cond.code Lib.Math.max.name Lib.Math.max.code 2 (some .int) ∈ mj_G := mj_inG (List.mem_of_getElem? (i := 677) (by decide +kernel)) rfl
theorem mj_r_min {idx : Nat} {x y : Int32} (hmm : (mj_oc k, idx) ∈ mj_MN) (hmc : cn ≤ mj_mc k) (hst : st.length ≤ 4) (hd : decode (mj_c k) pc = .ok (.invokestatic idx, 3)) (h : mj_W lv k d (pc + 3) ls (.int (if y < x then y else x) :: st) M cn K) : mj_W lv k d pc ls (.int y :: .int x :: st) M cn K := by
  intro p l e s m args below meth c D cA ad C H locs lsA hl hP hS
  obtain ⟨hx, -, hb, hml, hown, hts, -⟩ := id C
  refine va_mmin hx hb (hml.trans hl.1.symm) hown (hts _ (mj_inMN hmm)) (hts _ mj_inMs) (hts _ mj_inMi) (hts _ mj_inMc) ?_ ?_ hmc ?_ hd (h p l e s m args below meth c D cA ad C H locs lsA hl hP hS)
  · show 1 ≤ 2 * d + 20; omega
  · have := mj_sum4 ad hst
    show _ + 13 ≤ 40 * d + 300; omega
  · show 64 * cn ≤ 64 * mj_mc k; omega
theorem mj_r_max {idx : Nat} {x y : Int32} (hmm : (mj_oc k, idx) ∈ mj_MX) (hmc : cn ≤ mj_mc k) (hst : st.length ≤ 4) (hd : decode (mj_c k) pc = .ok (.invokestatic idx, 3)) (h : mj_W lv k d (pc + 3) ls (.int (if x < y then y else x) :: st) M cn K) : mj_W lv k d pc ls (.int y :: .int x :: st) M cn K := by
  intro p l e s m args below meth c D cA ad C H locs lsA hl hP hS
  obtain ⟨hx, -, hb, hml, hown, hts, -⟩ := id C
  refine va_mmax hx hb (hml.trans hl.1.symm) hown (hts _ (mj_inMX hmm)) (hts _ mj_inMs2) (hts _ mj_inMi) (hts _ mj_inMc2) ?_ ?_ hmc ?_ hd (h p l e s m args below meth c D cA ad C H locs lsA hl hP hS)
  · show 1 ≤ 2 * d + 20; omega
  · have := mj_sum4 ad hst
    show _ + 13 ≤ 40 * d + 300; omega
  · show 64 * cn ≤ 64 * mj_mc k; omega
theorem mj_inK : Cond.constant "CrushLoadLaw" 132 1000000000 ∈ mj_G := mj_inG (List.mem_of_getElem? (i := 472) (by decide +kernel)) rfl
theorem mj_r_ldc (ho : mj_oc k = 7) (hd : decode (mj_c k) pc = .ok (.ldc 132, 2)) (h : mj_W lv k d (pc + 2) ls (.int 1000000000 :: st) M cn K) : mj_W lv k d pc ls st M cn K := by
  intro p l e s m args below meth c D cA ad C H locs lsA hl hP hS
  obtain ⟨hx, -, hb, hml, hown, hts, -⟩ := id C
  have hown' : s.vm.findClass "CrushLoadLaw" = some m.cls := by rw [← hown]; show _ = s.vm.findClass (mj_R (mj_oc k)); rw [ho]; rfl
  exact lv_ldc hx hb hown' (hts _ mj_inK) hd (h p l e s m args below meth c D cA ad C H locs lsA hl hP hS)
-- throws
def mj_nms : List String := ["java/lang/RuntimeException", "java/lang/Exception"]
def mj_okX (ik ic e : Nat) : Bool := decide (Bundle.fit (mj_E e) = true) && decide (Cond.classLink RX6 ik (mj_E e) ∈ lw_tbl) && decide (Cond.initialized (mj_E e) ∈ lw_tbl) && (vx_atS RX6 ic (mj_E e) mj_nms).all (fun w => (goodWord w && decide (w ∈ lw_tbl)) || decide (w = .castable (mj_E e) (mj_E e)) || mj_dc.any (fun y => decide (w = .declares y)))
set_option maxRecDepth 100000 in
theorem mj_okX1 : mj_okX 209 213 1 = true := by decide +kernel
set_option maxRecDepth 100000 in
theorem mj_okX2 : mj_okX 218 222 2 = true := by decide +kernel
set_option maxRecDepth 100000 in
theorem mj_okX0 : mj_okX 226 230 0 = true := by decide +kernel
set_option maxRecDepth 100000 in
theorem mj_nmsok : ∀ n ∈ mj_nms, Bundle.fit n = true := by decide +kernel
theorem mj_r_throw {ik is ic e : Nat} {tx : String} (he : e < 3) (hlv : lv = 2) (ho : mj_oc k = 6) (hok : mj_okX ik ic e = true) (htx : (is, tx) ∈ mj_tx) (hmc : cn + 1 ≤ mj_mc k) (hst : st.length ≤ 4) (d0 : decode (mj_c k) pc = .ok (.new ik, 3)) (d3 : decode (mj_c k) (pc + 3) = .ok (.dup, 1)) (d4 : decode (mj_c k) (pc + 4) = .ok (.ldc is, 2)) (d6 : decode (mj_c k) (pc + 6) = .ok (.invokespecial ic, 3)) (d9 : decode (mj_c k) (pc + 9) = .ok (.athrow, 1)) (h : K (e + 1) 0 M) : mj_W lv k d pc ls st M cn K := by
  intro p l e9 s m args below meth c D cA ad C H locs lsA hl hP hS
  obtain ⟨hx, hlt, hb, hml, hown, hts, hret, hlk, htab, hinj, hK, hX⟩ := id C
  obtain ⟨hU, hN, hstr, hcast, hdcl⟩ := hX.1 (Or.inl hlv)
  obtain ⟨sa, hsa⟩ := hstr _ htx
  have hown' : s.vm.findClass RX6 = some m.cls := by rw [← hown]; show _ = s.vm.findClass (mj_R (mj_oc k)); rw [ho]; rfl
  simp only [mj_okX, Bool.and_eq_true, decide_eq_true_eq] at hok
  obtain ⟨⟨⟨o1, o2⟩, o3⟩, o4⟩ := hok
  have o4' : ∀ w ∈ vx_atS RX6 ic (mj_E e) mj_nms, (goodWord w = true ∧ w ∈ lw_tbl) ∨ w = .castable (mj_E e) (mj_E e) ∨ ∃ y ∈ mj_dc, w = .declares y := by
    intro w hw
    have h1 := List.all_eq_true.mp o4 w hw
    simp only [Bool.or_eq_true, Bool.and_eq_true, decide_eq_true_eq, List.any_eq_true] at h1
    rcases h1 with (h1 | h1) | h1
    · exact Or.inl h1
    · exact Or.inr (Or.inl h1)
    · exact Or.inr (Or.inr h1)
  refine vx_throwS (names := mj_nms) (cls := mj_E e) (text := tx) (sa := sa) (A := mj_A ad (mj_Sh lv).length s.heap.size) hx hb hlt hown' o1 mj_nmsok (hts _ (mj_inG o2 rfl)) (hts _ (mj_inG o3 rfl)) hsa ?_ ?_ hU hN hS (hl.1.trans hml.symm) d0 d3 d4 d6 d9 (fun x hx => (htab x hx).elim) ?_ ?_ ?_ ?_ hlk ?_ (fun z hz => hS.2.2 z hz) hmc ?_
  · intro w hw
    rcases o4' w hw with ⟨g, hm⟩ | rfl | ⟨y, hy, rfl⟩
    · exact hts _ (mj_inG hm g)
    · exact va_tabs rfl rfl (hcast e he)
    · exact va_tabs rfl rfl (hdcl y hy)
  · intro w hw
    rcases List.mem_cons.mp hw with rfl | hw
    · rfl
    · rcases List.mem_cons.mp hw with rfl | hw
      · rfl
      · rcases o4' w hw with ⟨g, hm⟩ | rfl | ⟨y, hy, rfl⟩
        · unfold vx_ot; rw [g, Bool.or_true]
        · rfl
        · rfl
  · show 2 + 3 < 2 * d + 20; omega
  · have := mj_sum4 ad hst
    show _ + (13 * (2 + 1) + 43) ≤ 40 * d + 300; omega
  · exact hmc
  · show 64 * cn + 6 ≤ 64 * mj_mc k; omega
  · intro t hal hz hk
    refine ⟨(e, M), h, ⟨rfl, ?_⟩, ?_⟩
    · exact hP.kept (fun q x hq => hk _ (hP q x hq).lt)
    · refine ⟨Nat.le_trans hS.1 hz, fun q hq hA => ?_⟩
      rw [hk q (Nat.lt_of_lt_of_le hq hS.1)]
      exact hS.2.1 q hq hA
  · show 64 * cn + 6 ≤ 64 * mj_mc k; omega
end MJ
