-- the law's calls
section LLB
variable {p : Program} {l : Launch} {e : Env} {s : State} {m : MethodId} {below : List Frame} {meth : Method} {c : Code} {b L : Nat} {xs : Nat → Int32} {D : va_G} {cA : Nat → ClassId} {cL : ClassId} {ad1 ad2 : Nat → Nat} {ao : Nat} {M1 M2 : mj_M} {o : Int64} {pc cn sn i : Nat} {st : List Value} {tl : List (Nat × Value)}
theorem ll_w2 {H H1 : Heap} (h : va_P D mj_cl (mj_w cA ad2 M2 (mj_Sh 1)) H) (hk : ∀ j, j < 6 → ad2 j < H.size → H1[ad2 j]? = H[ad2 j]?) : va_P D mj_cl (mj_w cA ad2 M2 (mj_Sh 1)) H1 := by
  intro k x hx
  have hl := (List.getElem?_eq_some_iff.mp hx).1
  rw [mj_w_len, mj_len1] at hl
  have h1 := h k x hx
  have hx1 : x.1 = ad2 k := by
    rw [mj_w_get] at hx
    cases hq : (mj_Sh 1)[k]? with
    | none => rw [hq] at hx; cases hx
    | some d => rw [hq] at hx; cases hx; rfl
  refine h1.kept ?_
  rw [hx1]
  exact hk k hl (by rw [← hx1]; exact h1.lt)
theorem ll_w1 {H H1 : Heap} {f : Nat → Int64} (h : va_P D mj_cl (lh_ws cA ad1 M1 ao cL f) H) (hk : ∀ q, q < H.size → ((∃ j, j < 81 ∧ q = ad1 j) ∨ q = ao) → H1[q]? = H[q]?) : va_P D mj_cl (lh_ws cA ad1 M1 ao cL f) H1 := by
  intro k x hx
  have h1 := h k x hx
  refine h1.kept (hk _ h1.lt ?_)
  rcases lh_cut hx with ⟨h2, -, h3⟩ | ⟨-, h2⟩
  · exact Or.inl ⟨k, h2, h3⟩
  · rw [h2]; exact Or.inr rfl
set_option maxHeartbeats 4000000 in
theorem ll_H (b L : Nat) (C : ll_C p l s m meth c b L xs D cA cL ad1 ad2 ao) {hidx nL kc dc : Nat} {y : MethodName} {bh : ByteArray} {hh : List (Nat × Nat × Nat × Nat)} {wsh : List Cond} {as : List Value} {KK : Int32 → mj_M → Int64 → Prop} (hw : wsh = .codeWith y bh nL (some .int) hh :: mj_G) (hcw : Cond.codeWith y bh nL (some .int) hh ∈ mj_G) (hlink : Cond.methodLink RL hidx y ∈ mj_G) (hstat : Cond.static y ∈ mj_G) (hini : Cond.initialized y.cls ∈ mj_G) (hyd : y.cls ≠ "java/lang/invoke/MethodHandle" ∧ y.cls ≠ "java/lang/invoke/VarHandle") (hn : (parseMethodDescriptor y.desc).map (fun d => d.parameters.length) = some (as.length + 2)) (hnL : nL ≤ 8) (hdc : dc ≤ 16) (hM : lh_Cm y wsh kc dc as M1 KK) (hmc : mj_mc kc ≤ 10) (hcn : cn + 10 ≤ 601024) (hsn : sn + 60 ≤ 7293034) (hd : decode code pc = .ok (.invokestatic hidx, 3)) (kk : ∀ r M' o', KK r M' o' → ll_W p l e s m below meth c b D cA cL ad1 ad2 ao (pc + 3) i tl [.int r] M' M2 o' (cn + mj_mc kc) (sn + 6 * mj_mc kc)) : ll_W p l e s m below meth c b D cA cL ad1 ad2 ao pc i tl (.ref ao :: (as.reverse ++ [.ref (ad1 0)])) M1 M2 o cn sn := by
  intro H locs lsA f hf hl hP1 hP2 hS
  obtain ⟨⟨hx, hlt, hb, hml, hr, hlk, hown, hts, hX0, hbl, hL⟩, ⟨hK, hX, hN⟩, hi1, hi2, h12, h2o, hg1, hg2, hgo⟩ := id C
  have hAA : ∀ q, lh_A ad1 ao H.size q → (fun q : Nat => s.heap.size ≤ q) q := by
    intro q hq
    rcases hq with ⟨k, hk, e1⟩ | e1 | hq
    · show s.heap.size ≤ q; rw [e1]; exact hg1 k hk
    · show s.heap.size ≤ q; rw [e1]; exact hgo
    · exact Nat.le_trans hS.1 hq
  have hgood : GoodIn mj_G (va_wsS RL hidx y wsh) := by
    intro w hw2
    unfold va_wsS at hw2
    simp only [List.cons_append, List.nil_append, List.mem_cons] at hw2
    rcases hw2 with rfl | rfl | rfl | hw2
    · exact mj_good hlink
    · exact mj_good hstat
    · exact mj_good hini
    · rw [hw] at hw2
      rcases List.mem_cons.mp hw2 with rfl | hw2
      · exact mj_good hcw
      · exact mj_good hw2
  have hrun := vx_runSX (p := p) (e := e) (R := room_1) (below := below) (meth := meth) (H := H) (locs := locs) (cells := cn) (slots := sn) (g := F0 m pc lsA (.ref ao :: (as.reverse ++ [.ref (ad1 0)]))) (rest := []) (As := .ref (ad1 0) :: (as ++ [.ref ao])) (nL := 7) ⟨hx, hb, hml, hown, hts⟩ (hM l D cA cL ad1 ao f H.size hlt hi1) (vx_cwSW (as.length + 2) hts hgood hw rfl rfl ⟨hyd.1, hyd.2, hn⟩ ⟨by show 2 * dc + 21 + 1 ≤ 2048; omega, by show 8 + (nL + 11) + (40 * dc + 340) ≤ 84000; omega⟩) ⟨lh_blind, fun U hU hW => by
      refine ⟨rfl, by rw [hU], by rw [hU]; exact hP1, va_K.moved hW.alike hK, ?_, lh_N.moved hW.alike hN⟩
      have h1 := mj_X.warm hW hX
      rw [hU]
      exact h1.kept hS.2.1 hAA⟩ rfl (by simp) hl.1 (by simp [F0]) (by show 2 * 0 + 0 ≤ 8; omega) hd ⟨by show cn + mj_mc kc ≤ 601024; omega, by show sn + 6 * mj_mc kc ≤ 7293034; omega⟩
  refine vx_calli (a := (Value.ref (ad1 0) :: (as ++ [.ref ao])).toArray) hrun hS (fun q _ h => hAA q h) hAA (fun q _ h => hAA q h) (fun E ce q9 u t H1 locs1 ht hal hp => hp.elim) (fun v u t H1 locs1 ht hal hp hB hz hk hS1 => ?_)
  have hB' : va_P D mj_cl (lh_ws cA ad1 u.1 ao cL u.2) H1 := by rw [← ht]; exact hB
  refine kk v u.1 (u.2 0) hp H1 locs1 lsA u.2 rfl hl hB' (ll_w2 hP2 (fun j hj hlt2 => hk _ hlt2 (fun hA => ?_))) hS1
  rcases hA with ⟨k, hk2, e1⟩ | e1 | hA
  · exact h12 k j hk2 hj e1.symm
  · exact h2o j hj e1
  · exact absurd (Nat.lt_of_lt_of_le hlt2 hA) (Nat.lt_irrefl _)
theorem ll_K7 : (mj_Sh 1)[0]? = some (.inl (7, [some 1, some 2, some 3, some 4, some 5, none])) := rfl
set_option maxHeartbeats 4000000 in
theorem ll_M (b L : Nat) (C : ll_C p l s m meth c b L xs D cA cL ad1 ad2 ao) {idx k d : Nat} {as rest : List Value} {Km : mj_K} (hlink : Cond.methodLink RL idx (mj_y k) ∈ mj_G) (hk : k < mj_N) (hV : k ∈ mj_kV) (hlv : mj_lv k = 1) (hr : mj_r k ≠ none) (hoc : mj_oc k = 7) (hn : as.length = mj_ar k) (hst : st = as.reverse ++ .ref (ad2 0) :: rest) (hint : as.map (mj_tr ad2) = as) (hrest : (rest.map fun v => v.category).sum ≤ 8) (hdd : d ≤ 16) (hmc : mj_mc k = 0) (hcn : cn ≤ 601024) (hsn : sn ≤ 7293034) (hd : decode code pc = .ok (.invokevirtual idx, 3)) (h : mj_Cm k d (.ref 0 :: as) M2 Km) (hx9 : ∀ e' M', ¬ Km (e' + 1) 0 M') (kk : ∀ v M', Km 0 v M' → ll_W p l e s m below meth c b D cA cL ad1 ad2 ao (pc + 3) i tl (.int v :: rest) M1 M' o cn sn) : ll_W p l e s m below meth c b D cA cL ad1 ad2 ao pc i tl st M1 M2 o cn sn := by
  intro H locs lsA f hf hl hP1 hP2 hS
  obtain ⟨⟨hx, hlt, hb, hml, hr0, hlk, hown, hts, hX0, hbl, hL⟩, ⟨hK, hX, hN⟩, hi1, hi2, h12, h2o, hg1, hg2, hgo⟩ := id C
  obtain ⟨-, -, -, -, -, -, hn12, -⟩ := mj_yof hk
  have hAA : ∀ q, mj_A ad2 (mj_Sh 1).length H.size q → (fun q : Nat => s.heap.size ≤ q) q := by
    intro q hq
    rcases hq with ⟨k, hk, e1⟩ | hq
    · show s.heap.size ≤ q; rw [e1]; exact hg2 k (by rw [mj_len1] at hk; exact hk)
    · exact Nat.le_trans hS.1 hq
  have hK2 : va_K D mj_cl (mj_tys cA) s := hK.sub [0, 1] rfl
  refine lh_run (k := k) (d := d) (as := as) (rest := rest) (ad := ad2) (lv := 1) (nl := 7) (c1 := cn) (s1 := sn) (A0 := fun q : Nat => s.heap.size ≤ q) hx hb hml hl.1 hts hown hlt (by rw [mj_len1]; exact hi2) hK2 (fun z => absurd z (by decide)) hP2 hS hAA hlink hk hV hlv hr (by rw [hoc]; exact ll_K7) hn (by rw [hint]; exact hst) hrest (by show 2 * d + 20 + 1 ≤ 2048; omega) (by show 8 + (mj_n k + 11) + (40 * d + 300) ≤ 84000; omega) (by show cn + mj_mc k ≤ 601024; omega) (by show sn + 6 * mj_mc k ≤ 7293034; omega) (by omega) (by omega) hd h (fun v M' H1 locs1 hv hP9 hz hk9 hS1 => ?_) (fun e' M' ce q9 H1 locs1 hv => absurd hv (hx9 e' M'))
  refine kk v M' hv H1 locs1 lsA f hf hl (ll_w1 hP1 (fun q hq hz9 => hk9 q hq (fun hA => ?_))) hP9 hS1
  rcases hA with ⟨j, hj, e1⟩ | hA
  · rw [mj_len1] at hj
    rcases hz9 with ⟨j1, hj1, e2⟩ | e2
    · exact h12 j1 j hj1 hj (by rw [← e1, ← e2])
    · exact h2o j hj (by rw [← e1, ← e2])
  · exact absurd (Nat.lt_of_lt_of_le hq hA) (Nat.lt_irrefl _)
theorem ll_K6 : (mj_Sh 2)[0]? = some (.inl (6, [some 1, some 41])) := rfl
set_option maxHeartbeats 4000000 in
theorem ll_D (b L : Nat) (C : ll_C p l s m meth c b L xs D cA cL ad1 ad2 ao) {idx k d : Nat} {rest : List Value} {Km : mj_K} (hlink : Cond.methodLink RL idx (mj_y k) ∈ mj_G) (hk : k < mj_N) (hV : k ∈ mj_kV) (hlv : mj_lv k = 2) (hr : mj_r k ≠ none) (hoc : mj_oc k = 6) (hn : mj_ar k = 0) (hrest : (rest.map fun v => v.category).sum ≤ 8) (hdd : d ≤ 16) (hmc : mj_mc k = 0) (hcn : cn ≤ 601024) (hsn : sn ≤ 7293034) (hd : decode code pc = .ok (.invokevirtual idx, 3)) (h : mj_Cm k d [.ref 0] M1 Km) (hx9 : ∀ e' M', ¬ Km (e' + 1) 0 M') (kk : ∀ v M', Km 0 v M' → ll_W p l e s m below meth c b D cA cL ad1 ad2 ao (pc + 3) i tl (.int v :: rest) M' M2 o cn sn) : ll_W p l e s m below meth c b D cA cL ad1 ad2 ao pc i tl (.ref (ad1 0) :: rest) M1 M2 o cn sn := by
  intro H locs lsA f hf hl hP1 hP2 hS
  obtain ⟨⟨hx, hlt, hb, hml, hr0, hlk, hown, hts, hX0, hbl, hL⟩, ⟨hK, hX, hN⟩, hi1, hi2, h12, h2o, hg1, hg2, hgo⟩ := id C
  obtain ⟨-, -, -, -, -, -, hn12, -⟩ := mj_yof hk
  have hAA : ∀ q, mj_A ad1 (mj_Sh 2).length H.size q → (fun q : Nat => s.heap.size ≤ q) q := by
    intro q hq
    rcases hq with ⟨k, hk, e1⟩ | hq
    · show s.heap.size ≤ q; rw [e1]; exact hg1 k (by rw [mj_len2] at hk; exact hk)
    · exact Nat.le_trans hS.1 hq
  have hK2 : va_K D mj_cl (mj_tys cA) s := hK.sub [0, 1] rfl
  refine lh_run (k := k) (d := d) (as := []) (rest := rest) (ad := ad1) (lv := 2) (nl := 7) (c1 := cn) (s1 := sn) (A0 := fun q : Nat => s.heap.size ≤ q) hx hb hml hl.1 hts hown hlt (by rw [mj_len2]; exact hi1.1) hK2 hX (lh_P1 hP1) hS hAA hlink hk hV hlv hr (by rw [hoc]; exact ll_K6) hn.symm rfl hrest (by show 2 * d + 20 + 1 ≤ 2048; omega) (by show 8 + (mj_n k + 11) + (40 * d + 300) ≤ 84000; omega) (by show cn + mj_mc k ≤ 601024; omega) (by show sn + 6 * mj_mc k ≤ 7293034; omega) (by omega) (by omega) hd h (fun v M' H1 locs1 hv hP9 hz hk9 hS1 => ?_) (fun e' M' ce q9 H1 locs1 hv => absurd hv (hx9 e' M'))
  refine kk v M' hv H1 locs1 lsA f hf hl (lh_P2 hi1 hP1 hP9 hk9) (ll_w2 hP2 (fun j hj hlt2 => hk9 _ hlt2 (fun hA => ?_))) hS1
  rcases hA with ⟨k, hk2, e1⟩ | hA
  · exact h12 k j (by rw [mj_len2] at hk2; exact hk2) hj e1.symm
  · exact absurd (Nat.lt_of_lt_of_le hlt2 hA) (Nat.lt_irrefl _)
end LLB
