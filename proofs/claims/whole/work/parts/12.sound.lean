section MJ
variable {lv k d pc cn : Nat} {ls : List (Option Value)} {st rest : List Value} {M : mj_M} {K : mj_K}
theorem mj_s_mono {i : Instr} {a : List Nat} {Φ Ψ : List (Option Value) → List Value → mj_M → Prop} (hm : ∀ ls st M, Φ ls st M → Ψ ls st M) (h : mj_s lv i a ls st M Φ) : mj_s lv i a ls st M Ψ := by
  unfold mj_s at h ⊢
  repeat' split at h
  all_goals first
    | exact hm _ _ _ h
    | exact ⟨h.1, hm _ _ _ h.2⟩
    | exact h.elim
    | (simp only [Bool.cond_eq_ite] at h ⊢
       split at h <;> rename_i hb <;> first
         | (rw [if_pos hb]; exact hm _ _ _ h)
         | (rw [if_pos hb]; exact ⟨h.1, hm _ _ _ h.2⟩)
         | exact h.elim)
theorem mj_cond_ok {i : Instr} {tgt len : Nat} (hd : decode (mj_c k) pc = .ok (i, 3)) (ht : (pc : Int) + mj_off i = (tgt : Int)) (h : mj_cond i st (fun r => mj_W lv k d tgt ls r M cn K) (fun r => mj_W lv k d (pc + 3) ls r M cn K)) : mj_W lv k d pc ls st M cn K := by
  cases i
  case ifCond c off =>
    simp only [mj_cond] at h
    split at h
    · cases c
      · exact mj_r_if_eq hd ht h.1 h.2
      · exact mj_r_if_ne hd ht h.1 h.2
      · exact mj_r_if_lt hd ht h.1 h.2
      · exact mj_r_if_ge hd ht h.1 h.2
      · exact mj_r_if_gt hd ht h.1 h.2
      · exact mj_r_if_le hd ht h.1 h.2
    · exact h.elim
  case if_icmp c off =>
    simp only [mj_cond] at h
    split at h
    · cases c
      · exact mj_r_icmp_eq hd ht h.1 h.2
      · exact mj_r_icmp_ne hd ht h.1 h.2
      · exact mj_r_icmp_lt hd ht h.1 h.2
      · exact mj_r_icmp_ge hd ht h.1 h.2
      · exact mj_r_icmp_gt hd ht h.1 h.2
      · exact mj_r_icmp_le hd ht h.1 h.2
    · exact h.elim
  all_goals exact False.elim h
theorem mj_split {α : Type} (st : List α) (n : Nat) : st = (st.take n).reverse.reverse ++ st.drop n := by
  rw [List.reverse_reverse, List.take_append_drop]
theorem mj_tab_ok {t0 len : Nat} {ts : List Nat} {x : Int32} {df lo hi : Int} {offs : Array Int} (hd : decode (mj_c k) pc = .ok (.tableswitch df lo hi offs, len)) (h1 : lo = 0) (h2 : hi + 1 = (ts.length : Int)) (h3 : (pc : Int) + df = (t0 : Int)) (h4 : offs.toList.map (fun o => (pc : Int) + o) = ts.map (fun t : Nat => (t : Int))) (h : (x.toInt < 0 ∨ (ts.length : Int) ≤ x.toInt → mj_W lv k d t0 ls st M cn K) ∧ mj_sw x (fun t => mj_W lv k d t ls st M cn K) 0 ts) : mj_W lv k d pc ls (.int x :: st) M cn K := by
  subst h1
  by_cases hout : x.toInt < 0 ∨ (ts.length : Int) ≤ x.toInt
  · exact mj_r_tabOut hd (by omega) h3 (h.1 hout)
  · have hin : 0 ≤ x.toInt ∧ x.toInt < (ts.length : Int) := by omega
    obtain ⟨i, hi⟩ : ∃ i : Nat, x.toInt = (i : Int) := ⟨x.toInt.toNat, by omega⟩
    have hil : i < ts.length := by omega
    obtain ⟨t, ht⟩ : ∃ t, ts[i]? = some t := ⟨_, List.getElem?_eq_getElem hil⟩
    have h5 : (offs.toList.map (fun o => (pc : Int) + o))[i]? = some (t : Int) := by rw [h4, List.getElem?_map, ht]; rfl
    rw [List.getElem?_map] at h5
    cases ho : offs.toList[i]? with
    | none => rw [ho] at h5; cases h5
    | some off =>
      rw [ho] at h5
      have h6 : (pc : Int) + off = (t : Int) := Option.some.inj h5
      refine mj_r_tabIn hd (by omega) (by omega) (off := off) ?_ h6 (mj_sw_at ts 0 i t h.2 ht (by rw [hi]; simp))
      rw [hi, Int.sub_zero, Int.toNat_natCast, ← Array.getElem?_toList]
      exact ho
theorem mj_wok_of {j x : Nat} (h : mj_WN.contains (lv, mj_lv j, x) = true) : mj_wok lv (mj_lv j) x = true := mj_WN_ok _ (List.contains_iff_mem.mp h)
set_option maxHeartbeats 4000000 in
theorem mj_t_ok {kd len : Nat} {a : List Nat} {i : Instr} (hht : mj_ht k ≤ d) (hd : decode (mj_c k) pc = .ok (i, len)) (hlen : mj_tl kd len = true) (hok : mj_tok lv k kd a i pc = true) (h : mj_t lv k d kd a i pc ls st M cn K) : mj_W lv k d pc ls st M cn K := by
  unfold mj_t at h
  split at h
  · -- 1
    split at h
    · simp only [mj_tok, decide_eq_true_eq] at hok
      simp only [mj_tl, decide_eq_true_eq] at hlen
      subst hlen
      exact mj_cond_ok hd hok h (len := 0)
    · exact h.elim
  · -- 2
    split at h
    · cases i <;> simp only [mj_tok, Bool.false_eq_true] at hok
      simp only [decide_eq_true_eq] at hok
      simp only [mj_tl, decide_eq_true_eq] at hlen
      subst hlen
      exact mj_r_goto hd hok h
    · exact h.elim
  · -- 3
    simp only [mj_tok, Bool.and_eq_true, decide_eq_true_eq] at hok
    simp only [mj_tl, decide_eq_true_eq] at hlen
    obtain ⟨rfl, hr⟩ := hok
    subst hlen
    split at h
    · cases hb : Nat.ble cn (mj_mc k) with
      | false => rw [hb] at h; exact h.elim
      | true =>
        rw [hb] at h
        exact mj_r_iret hr (Nat.le_of_ble_eq_true hb) hd h
    · exact h.elim
  · -- 12
    simp only [mj_tok, Bool.and_eq_true, decide_eq_true_eq] at hok
    simp only [mj_tl, decide_eq_true_eq] at hlen
    obtain ⟨rfl, hr⟩ := hok
    subst hlen
    split at h
    · cases hb : Nat.ble cn (mj_mc k) with
      | false => rw [hb] at h; exact h.elim
      | true =>
        rw [hb] at h
        exact mj_r_zret hr (Nat.le_of_ble_eq_true hb) hd h
    · exact h.elim
  · -- 4
    simp only [mj_tok, Bool.and_eq_true, decide_eq_true_eq] at hok
    simp only [mj_tl, decide_eq_true_eq] at hlen
    obtain ⟨rfl, hr⟩ := hok
    subst hlen
    split at h
    · cases hb : Nat.ble cn (mj_mc k) with
      | false => rw [hb] at h; exact h.elim
      | true =>
        rw [hb] at h
        exact mj_r_vret hr (Nat.le_of_ble_eq_true hb) hd h
    · exact h.elim
  · -- 5
    split at h
    · rename_i j n dj
      cases i <;> simp only [mj_tok, Bool.false_eq_true] at hok
      rename_i idx
      simp only [Bool.and_eq_true, decide_eq_true_eq, List.contains_iff_mem] at hok
      obtain ⟨⟨⟨⟨⟨o1, o2⟩, o3⟩, o4⟩, o5⟩, o6⟩ := hok
      simp only [mj_tl, decide_eq_true_eq] at hlen
      subst hlen
      split at h
      · rename_i x as hst
        split at h
        · rename_i ci fs hsh
          generalize hb : (Nat.beq ci (mj_oc j) && (Nat.beq as.length n && (Nat.ble (cn + mj_mc j) (mj_mc k) && Nat.ble (st.drop (n + 1)).length 4))) = b at h
          cases b with
          | false => exact h.elim
          | true =>
            simp only [Bool.and_eq_true] at hb
            obtain ⟨b1, b2, b3, b4⟩ := hb
            obtain rfl := Nat.eq_of_beq_eq_true b1
            have e : st = as.reverse ++ .ref x :: st.drop (n + 1) := by
              have e1 := mj_split st (n + 1)
              rw [hst] at e1
              rw [List.reverse_cons, List.append_assoc] at e1
              exact e1
            rw [e]
            exact mj_r_callV hd o1 o2 o3 o4 hsh ((Nat.eq_of_beq_eq_true b2).trans o5) (by omega) (Nat.le_of_ble_eq_true b3) (Nat.le_of_ble_eq_true b4) h
        · exact h.elim
      · exact h.elim
    · exact h.elim
  · -- 6
    split at h
    · rename_i j n dj y
      cases i <;> simp only [mj_tok, Bool.false_eq_true] at hok
      rename_i idx
      simp only [Bool.and_eq_true, decide_eq_true_eq, List.contains_iff_mem] at hok
      obtain ⟨⟨⟨⟨⟨o1, o2⟩, o3⟩, o4⟩, o5⟩, o6⟩ := hok
      simp only [mj_tl, decide_eq_true_eq] at hlen
      subst hlen
      split at h
      · rename_i x as hst
        split at h
        · rename_i ci fs hsh
          generalize hb : (Nat.beq ci (mj_oc j) && (Nat.beq as.length n && (Nat.ble (cn + mj_mc j) (mj_mc k) && (Nat.ble (st.drop (n + 1)).length 4 && (Nat.ble y x && (mj_WN.contains (lv, mj_lv j, x - y) && as.all (fun v => match v with | .int _ => true | _ => false))))))) = b at h
          cases b with
          | false => exact h.elim
          | true =>
            simp only [Bool.and_eq_true] at hb
            obtain ⟨b1, b2, b3, b4, b5, b6, b7⟩ := hb
            obtain rfl := Nat.eq_of_beq_eq_true b1
            have e : st = as.reverse ++ .ref x :: st.drop (n + 1) := by
              have e1 := mj_split st (n + 1)
              rw [hst] at e1
              rw [List.reverse_cons, List.append_assoc] at e1
              exact e1
            have b5' := Nat.le_of_ble_eq_true b5
            have exy : x = (x - y) + y := (Nat.sub_add_cancel b5').symm
            rw [e]
            have hcall := mj_r_callW (x := y) (o := x - y) hd o1 o2 o3 o4 (mj_wok_of b6) (by rw [← exy]; exact hsh) ((Nat.eq_of_beq_eq_true b2).trans o5) (fun v hv => by
              have h7 := List.all_eq_true.mp b7 v hv
              cases v <;> simp at h7
              exact ⟨_, rfl⟩) (dj := dj) (by omega) (Nat.le_of_ble_eq_true b3) (Nat.le_of_ble_eq_true b4) h
            rw [← exy] at hcall
            exact hcall
        · exact h.elim
      · exact h.elim
    · exact h.elim
  · -- 7
    split at h
    · rename_i j n dj
      cases i <;> simp only [mj_tok, Bool.false_eq_true] at hok
      rename_i idx
      simp only [Bool.and_eq_true, decide_eq_true_eq, List.contains_iff_mem] at hok
      obtain ⟨⟨⟨⟨⟨⟨o1, o2⟩, o3⟩, o4⟩, o5⟩, o6⟩, o7⟩ := hok
      simp only [mj_tl, decide_eq_true_eq] at hlen
      subst hlen
      generalize hb : (Nat.beq (st.take n).length n && (Nat.ble (cn + mj_mc j) (mj_mc k) && Nat.ble (st.drop n).length 4)) = b at h
      cases b with
      | false => exact h.elim
      | true =>
        simp only [Bool.and_eq_true] at hb
        obtain ⟨b1, b2, b3⟩ := hb
        have e := mj_split st n
        rw [e]
        exact mj_r_callS hd o1 o2 o3 o5 o4 (by rw [List.length_reverse]; exact (Nat.eq_of_beq_eq_true b1).trans o6) (by omega) (Nat.le_of_ble_eq_true b2) (Nat.le_of_ble_eq_true b3) h
    · exact h.elim
  · -- 14
    split at h
    · rename_i j n
      cases i <;> simp only [mj_tok, Bool.false_eq_true] at hok
      rename_i idx
      simp only [Bool.and_eq_true, decide_eq_true_eq, List.contains_iff_mem] at hok
      obtain ⟨⟨⟨⟨⟨⟨o1, o2⟩, o3⟩, o4⟩, o5⟩, o6⟩, o7⟩ := hok
      simp only [mj_tl, decide_eq_true_eq] at hlen
      subst hlen
      generalize hb : (Nat.beq (st.take n).length n && (Nat.ble (cn + mj_mc j) (mj_mc k) && Nat.ble (st.drop n).length 4)) = b at h
      cases b with
      | false => exact h.elim
      | true =>
        simp only [Bool.and_eq_true] at hb
        obtain ⟨b1, b2, b3⟩ := hb
        have e := mj_split st n
        rw [e]
        exact mj_r_callS hd o1 o2 o3 o5 o4 (by rw [List.length_reverse]; exact (Nat.eq_of_beq_eq_true b1).trans o6) (by omega) (Nat.le_of_ble_eq_true b2) (Nat.le_of_ble_eq_true b3) h
    · exact h.elim
  · -- 8
    split at h
    · rename_i e is ic
      cases i <;> simp only [mj_tok, Bool.false_eq_true] at hok
      rename_i ik
      simp only [Bool.and_eq_true, decide_eq_true_eq, List.any_eq_true] at hok
      obtain ⟨⟨⟨⟨⟨⟨⟨o1, o2⟩, o3⟩, o4⟩, o5⟩, o6⟩, o7⟩, o8⟩ := hok
      simp only [mj_tl, decide_eq_true_eq] at hlen
      subst hlen
      generalize hb : (Nat.ble (cn + 1) (mj_mc k) && Nat.ble st.length 4) = b at h
      cases b with
      | false => exact h.elim
      | true =>
        simp only [Bool.and_eq_true] at hb
        obtain ⟨b1, b2⟩ := hb
        obtain ⟨⟨is', tx⟩, htx, rfl⟩ := o4
        have hx : e < 3 ∧ mj_okX ik ic e = true := by
          rcases o3 with ⟨rfl, rfl, rfl⟩ | ⟨rfl, rfl, rfl⟩ | ⟨rfl, rfl, rfl⟩
          · exact ⟨by decide, mj_okX1⟩
          · exact ⟨by decide, mj_okX2⟩
          · exact ⟨by decide, mj_okX0⟩
        exact mj_r_throw hx.1 o1 o2 hx.2 htx (Nat.le_of_ble_eq_true b1) (Nat.le_of_ble_eq_true b2) hd o5 o6 o7 o8 h
    · exact h.elim
  · -- 9
    split at h
    · rename_i t0 ts
      cases i <;> simp only [mj_tok, Bool.false_eq_true] at hok
      simp only [Bool.and_eq_true, decide_eq_true_eq] at hok
      obtain ⟨⟨⟨o1, o2⟩, o3⟩, o4⟩ := hok
      split at h
      · exact mj_tab_ok hd o1 o2 o3 o4 h
      · exact h.elim
    · exact h.elim
  · exact h.elim
set_option maxHeartbeats 4000000 in
/-- A BLOCK, run at once -/
theorem mj_go_ok (hht : mj_ht k ≤ d) : ∀ (b : List mj_I) (pc : Nat) (ls : List (Option Value)) (st : List Value) (M : mj_M) (cn : Nat) (K : mj_K), mj_ok lv k pc b = true → mj_go lv k d b pc ls st M cn K → mj_W lv k d pc ls st M cn K
  | [], pc, ls, st, M, cn, K, _, h => h
  | (i, len, kd, a) :: r, pc, ls, st, M, cn, K, hok, h => by
    unfold mj_ok at hok
    rw [Bool.and_eq_true, decide_eq_true_eq] at hok
    obtain ⟨hd, hok⟩ := hok
    unfold mj_go at h
    split at h
    · -- 0
      simp only [Bool.and_eq_true, decide_eq_true_eq] at hok
      obtain ⟨⟨o1, o2⟩, o3⟩ := hok
      subst o1
      refine mj_s_ok hd o2 ?_
      exact mj_s_mono (fun ls st M h2 => mj_go_ok hht r _ ls st M cn K o3 h2) h
    · -- 10
      simp only [Bool.and_eq_true, decide_eq_true_eq] at hok
      obtain ⟨⟨o1, rfl⟩, o3⟩ := hok
      cases i <;> simp only [Bool.false_eq_true] at o1
      split at h
      · rename_i y x s
        generalize hb : (Nat.ble cn (mj_mc k) && Nat.ble s.length 4) = b at h
        cases b with
        | false => exact h.elim
        | true =>
          simp only [Bool.and_eq_true] at hb
          exact mj_r_min (List.contains_iff_mem.mp o1) (Nat.le_of_ble_eq_true hb.1) (Nat.le_of_ble_eq_true hb.2) hd (mj_go_ok hht r _ _ _ M cn K o3 h)
      · exact h.elim
    · -- 11
      simp only [Bool.and_eq_true, decide_eq_true_eq] at hok
      obtain ⟨⟨o1, rfl⟩, o3⟩ := hok
      cases i <;> simp only [Bool.false_eq_true] at o1
      split at h
      · rename_i y x s
        generalize hb : (Nat.ble cn (mj_mc k) && Nat.ble s.length 4) = b at h
        cases b with
        | false => exact h.elim
        | true =>
          simp only [Bool.and_eq_true] at hb
          exact mj_r_max (List.contains_iff_mem.mp o1) (Nat.le_of_ble_eq_true hb.1) (Nat.le_of_ble_eq_true hb.2) hd (mj_go_ok hht r _ _ _ M cn K o3 h)
      · exact h.elim
    · rename_i h0 h10 h11
      have hok' : (mj_tl kd len && mj_tok lv k kd a i pc) = true := by
        split at hok
        · exact absurd rfl (h0 · )
        · exact absurd rfl (h10 · )
        · exact absurd rfl (h11 · )
        · exact hok
      rw [Bool.and_eq_true] at hok'
      exact mj_t_ok hht hd hok'.1 hok'.2 h
end MJ
