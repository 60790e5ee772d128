-- a call into a part of the world: the callee sees the cells o, o + 1, .. as 0, 1, ..
def mj_sh (o : Nat) : mj_D → mj_D
  | .inl (ci, fs) => .inl (ci, fs.map (fun q => q.map (fun x => o + x)))
  | .inr a => .inr a
def mj_wok (lv lv' o : Nat) : Bool := decide (o + (mj_Sh lv').length ≤ (mj_Sh lv).length) && (List.range (mj_Sh lv').length).all (fun q => decide ((mj_Sh lv)[o + q]? = ((mj_Sh lv')[q]?).map (mj_sh o)))
def mj_v (M : mj_M) (o : Nat) : mj_M := fun q => M (o + q)
def mj_mg (M : mj_M) (o n : Nat) (M' : mj_M) : mj_M := fun q => if o ≤ q ∧ q < o + n then M' (q - o) else M q
theorem mj_v_mg (M : mj_M) (o n : Nat) (M' : mj_M) {q : Nat} (h : q < n) : mj_v (mj_mg M o n M') o q = M' q := by
  simp only [mj_v, mj_mg]
  rw [if_pos ⟨by omega, by omega⟩, show o + q - o = q by omega]
theorem mj_mg_out (M : mj_M) (o n : Nat) (M' : mj_M) {q : Nat} (h : q < o ∨ o + n ≤ q) : mj_mg M o n M' q = M q := by
  simp only [mj_mg]
  rw [if_neg (by omega)]
theorem mj_f_sh (ad : Nat → Nat) (o : Nat) (f : Nat → Int32) : ∀ (fs : List (Option Nat)) (i : Nat), mj_f (fun q => ad (o + q)) f i fs = mj_f ad f i (fs.map (fun q => q.map (fun x => o + x)))
  | [], i => rfl
  | none :: l, i => by simp only [mj_f, List.map_cons, Option.map_none]; rw [mj_f_sh ad o f l (i + 1)]
  | some q :: l, i => by simp only [mj_f, List.map_cons, Option.map_some]; rw [mj_f_sh ad o f l (i + 1)]
theorem mj_e_sh (cA : Nat → ClassId) (ad : Nat → Nat) (M : mj_M) (o q : Nat) (d : mj_D) : mj_e cA (fun q => ad (o + q)) (mj_v M o) q d = mj_e cA ad M (o + q) (mj_sh o d) := by
  cases d with
  | inl x =>
    obtain ⟨ci, fs⟩ := x
    simp only [mj_e, mj_sh, mj_v]
    rw [mj_f_sh]
  | inr x => rfl
theorem mj_wok_at {lv lv' o : Nat} (h : mj_wok lv lv' o = true) : o + (mj_Sh lv').length ≤ (mj_Sh lv).length ∧ ∀ q, q < (mj_Sh lv').length → (mj_Sh lv)[o + q]? = ((mj_Sh lv')[q]?).map (mj_sh o) := by
  simp only [mj_wok, Bool.and_eq_true, decide_eq_true_eq] at h
  refine ⟨h.1, fun q hq => ?_⟩
  have := List.all_eq_true.mp h.2 q (List.mem_range.mpr hq)
  simpa using this
theorem mj_w_win {cA : Nat → ClassId} {ad : Nat → Nat} {M : mj_M} {lv lv' o : Nat} (h : mj_wok lv lv' o = true) {q : Nat} (hq : q < (mj_Sh lv').length) : (mj_w cA (fun q => ad (o + q)) (mj_v M o) (mj_Sh lv'))[q]? = (mj_w cA ad M (mj_Sh lv))[o + q]? := by
  obtain ⟨-, h2⟩ := mj_wok_at h
  rw [mj_w_get, mj_w_get, h2 q hq]
  cases hd : (mj_Sh lv')[q]? with
  | none => rfl
  | some d => simp only [Option.map_some]; rw [mj_e_sh]
theorem mj_P_win {D : va_G} {cA : Nat → ClassId} {ad : Nat → Nat} {M : mj_M} {lv lv' o : Nat} {H : Heap} (h : mj_wok lv lv' o = true) (hP : va_P D mj_cl (mj_w cA ad M (mj_Sh lv)) H) : va_P D mj_cl (mj_w cA (fun q => ad (o + q)) (mj_v M o) (mj_Sh lv')) H := by
  intro q x hx
  have hl := (List.getElem?_eq_some_iff.mp hx).1
  rw [mj_w_len] at hl
  rw [mj_w_win h hl] at hx
  exact hP _ _ hx
theorem mj_P_back {D : va_G} {cA : Nat → ClassId} {ad : Nat → Nat} {M M' : mj_M} {lv lv' o : Nat} {H H1 : Heap} (h : mj_wok lv lv' o = true) (hinj : mj_inj ad (mj_Sh lv).length) (hP : va_P D mj_cl (mj_w cA ad M (mj_Sh lv)) H) (hP1 : va_P D mj_cl (mj_w cA (fun q => ad (o + q)) M' (mj_Sh lv')) H1) (hk : ∀ q : Nat, q < H.size → ¬ mj_A (fun q => ad (o + q)) (mj_Sh lv').length H.size q → H1[q]? = H[q]?) : va_P D mj_cl (mj_w cA ad (mj_mg M o (mj_Sh lv').length M') (mj_Sh lv)) H1 := by
  obtain ⟨h1, h2⟩ := mj_wok_at h
  intro q x hx
  have hl := (List.getElem?_eq_some_iff.mp hx).1
  rw [mj_w_len] at hl
  by_cases hw : o ≤ q ∧ q < o + (mj_Sh lv').length
  · obtain ⟨i, rfl⟩ : ∃ i, q = o + i := ⟨q - o, by omega⟩
    have hi : i < (mj_Sh lv').length := by omega
    refine hP1 i x ?_
    rw [← hx, mj_w_get, mj_w_get, h2 i hi]
    cases hd : (mj_Sh lv')[i]? with
    | none => rfl
    | some d =>
      simp only [Option.map_some]
      congr 2
      rw [← mj_e_sh]
      cases d with
      | inl z => obtain ⟨ci, fs⟩ := z; simp only [mj_e]; rw [mj_v_mg _ _ _ _ hi]
      | inr z => obtain ⟨t, n⟩ := z; simp only [mj_e]; rw [mj_v_mg _ _ _ _ hi]
  · have hx0 : (mj_w cA ad M (mj_Sh lv))[q]? = some x := by
      rw [← hx, mj_w_get, mj_w_get]
      cases hd : (mj_Sh lv)[q]? with
      | none => rfl
      | some d =>
        simp only [Option.map_some]
        congr 2
        cases d with
        | inl z => obtain ⟨ci, fs⟩ := z; simp only [mj_e]; rw [mj_mg_out _ _ _ _ (by omega)]
        | inr z => obtain ⟨t, n⟩ := z; simp only [mj_e]; rw [mj_mg_out _ _ _ _ (by omega)]
    have hat := hP q x hx0
    have hx1 : x.1 = ad q := by
      rw [mj_w_get] at hx0
      cases hd : (mj_Sh lv)[q]? with
      | none => rw [hd] at hx0; cases hx0
      | some d => rw [hd] at hx0; cases hx0; rfl
    refine hat.kept (hk x.1 hat.lt (fun hA => ?_))
    rcases hA with ⟨i, hi, e⟩ | hA
    · rw [hx1] at e
      have := hinj q (o + i) hl (by omega) e
      omega
    · have := hat.lt
      omega
theorem mj_X.re {lv : Nat} {ad ad' : Nat → Nat} {A : Nat → Prop} {U : State} {H : Heap} (h : mj_X lv ad A U H) (h9 : lv ≠ 9) : mj_X lv ad' A U H := ⟨h.1, fun z => absurd z h9⟩
section MJ
variable {lv k d pc cn : Nat} {ls : List (Option Value)} {st rest : List Value} {M : mj_M} {K : mj_K}
def mj_k2 (lv k d pc : Nat) (ls : List (Option Value)) (rest : List Value) (M : mj_M) (o n cn : Nat) (r : Option FieldType) (K : mj_K) : mj_K := fun e v M' => match e with
  | 0 => mj_W lv k d pc ls (mj_pu r v rest) (mj_mg M o n M') cn K
  | e + 1 => K (e + 1) 0 (mj_mg M o n M')
theorem mj_r_callW {j dj idx x o : Nat} {fs : List (Option Nat)} {as : List Value} (hd : decode (mj_c k) pc = .ok (.invokevirtual idx, 3)) (hM : (mj_oc k, idx, j) ∈ mj_ML) (hj : j < mj_N) (hV : j ∈ mj_kV) (hlv2 : mj_lv j = 2 → lv = 2 ∨ lv = 9) (hlv9 : mj_lv j ≠ 9) (hwin : mj_wok lv (mj_lv j) o = true) (hsh : (mj_Sh lv)[o + x]? = some (.inl (mj_oc j, fs))) (hn : as.length = mj_ar j) (hint : ∀ v ∈ as, ∃ z, v = .int z) (hdj : dj + 1 ≤ d) (hmc : cn + mj_mc j ≤ mj_mc k) (hrest : rest.length ≤ 4)
    (h : mj_Cm j dj (.ref x :: as) (mj_v M o) (mj_k2 lv k d (pc + 3) ls rest M o (mj_Sh (mj_lv j)).length (cn + mj_mc j) (mj_r j) K)) : mj_W lv k d pc ls (as.reverse ++ .ref (o + x) :: rest) M cn K := by
  intro p l e s m args below meth c D cA ad C H locs lsA hl hP hS
  obtain ⟨hx, hlt, hb, hml, hown, hts, hret, hlk, htab, hinj, hK, hX⟩ := id C
  obtain ⟨y1, y2, y3, y4, y5, y6, y7, y8⟩ := mj_yof hj
  obtain ⟨w1, w2⟩ := mj_wok_at hwin
  have hinj' : mj_inj (fun q => ad (o + q)) (mj_Sh (mj_lv j)).length := fun a b ha hb e => by
    have := hinj (o + a) (o + b) (by omega) (by omega) e
    omega
  have hM1 := h l D cA (fun q => ad (o + q)) H.size hlt hinj'
  have hA : ∀ q, q < H.size → mj_A (fun q => ad (o + q)) (mj_Sh (mj_lv j)).length H.size q → mj_A ad (mj_Sh lv).length s.heap.size q := by
    intro q _ hq
    rcases hq with ⟨i, hi, e⟩ | hq
    · exact Or.inl ⟨o + i, by omega, e⟩
    · exact Or.inr (Nat.le_trans hS.1 hq)
  have hf : ∀ q, mj_A (fun q => ad (o + q)) (mj_Sh (mj_lv j)).length H.size q → mj_A ad (mj_Sh lv).length s.heap.size q := by
    intro q hq
    rcases hq with ⟨i, hi, e⟩ | hq
    · exact Or.inl ⟨o + i, by omega, e⟩
    · exact Or.inr (Nat.le_trans hS.1 hq)
  have htr : as.map (mj_tr (fun q => ad (o + q))) = as.map (mj_tr ad) := by
    apply List.map_congr_left
    intro v hv
    obtain ⟨z, rfl⟩ := hint v hv
    rfl
  have hr : vx_Run p l e (mj_rm k d) s m args below meth c H locs cn (64 * cn) (mj_mc j) (64 * mj_mc j) (F0 m pc lsA ((as.reverse ++ Value.ref (o + x) :: rest).map (mj_tr ad))) (rest.map (mj_tr ad)) (mj_Q (mj_r j) D cA (fun q => ad (o + q)) (mj_Sh (mj_lv j)) (mj_k2 lv k d (pc + 3) ls rest M o (mj_Sh (mj_lv j)).length (cn + mj_mc j) (mj_r j) K) (mj_A (fun q => ad (o + q)) (mj_Sh (mj_lv j)).length H.size) (Value.ref (ad (o + x)) :: as.map (mj_tr ad)).toArray) (mj_XC D cA (fun q => ad (o + q)) (mj_Sh (mj_lv j)) (mj_k2 lv k d (pc + 3) ls rest M o (mj_Sh (mj_lv j)).length (cn + mj_mc j) (mj_r j) K) (mj_A (fun q => ad (o + q)) (mj_Sh (mj_lv j)).length H.size)) (mj_A (fun q => ad (o + q)) (mj_Sh (mj_lv j)).length H.size) := by
    refine vx_runV (As := as.map (mj_tr ad)) ⟨hx, hb, hml, hown, hts⟩ hM1 (cwV (mj_ar j) hts (mj_goodV hM hj hV) rfl rfl rfl ⟨y2, y3, y4, y5⟩ ⟨?_, ?_⟩) ⟨mj_blind, ?_, fun U hU hW => ?_⟩ rfl (by simpa using hn) hl.1 ?_ ?_ hd ⟨hmc, ?_⟩
    · show 2 * dj + 20 + 1 ≤ 2 * d + 20; omega
    · show 8 + (mj_n j + 11) + (40 * dj + 300) ≤ 40 * d + 300; omega
    · rw [show mj_o j = (mj_q (mj_oc j)).1 from mj_R_q (mj_kV7 hV)]
      exact va_recv (cl := mj_cl) (q := mj_q (mj_oc j)) hK hP (mj_cl_q (mj_kV7 hV)) (mj_w_some hsh)
    · refine ⟨by rw [List.map_cons, htr]; rfl, by rw [hU], by rw [hU]; exact mj_P_win hwin hP, va_K.moved hW.alike hK, ?_⟩
      by_cases h2 : mj_lv j = 2
      · have h1 := mj_X.warm hW hX
        rw [hU]
        exact h1.kept (lv' := mj_lv j) (ad' := fun q => if q = 999 then ad 999 else ad (o + q)) hS.2.1 hS.1 (B := mj_A (fun q => ad (o + q)) (mj_Sh (mj_lv j)).length H.size) hf hlv2 (fun z => absurd z hlv9) rfl |>.re hlv9
      · exact mj_X.of h2 hlv9
    · simp [F0, mj_tr]
    · show 2 * 0 + _ ≤ 8
      rw [Nat.mul_zero, Nat.zero_add]
      exact mj_sum4 ad hrest
    · show 64 * cn + 64 * mj_mc j ≤ 64 * mj_mc k; omega
  have e6 : 64 * cn + 64 * mj_mc j = 64 * (cn + mj_mc j) := by omega
  have kx : ∀ (E : String) (ce : Cell) (q9 : Addr) (u : Nat × mj_M) (t : State) (H1 : Heap) (locs1 : List Loc), t.heap = H1 → s.vm.Alike t.vm → (mj_k2 lv k d (pc + 3) ls rest M o (mj_Sh (mj_lv j)).length (cn + mj_mc j) (mj_r j) K) (u.1 + 1) 0 u.2 → (E = mj_E u.1 ∧ mj_B D cA (fun q => ad (o + q)) (mj_Sh (mj_lv j)) u.2 t) → H.size ≤ H1.size → (∀ q : Nat, q < H.size → ¬ mj_A (fun q => ad (o + q)) (mj_Sh (mj_lv j)).length H.size q → H1[q]? = H[q]?) → va_S (mj_A ad (mj_Sh lv).length s.heap.size) s.heap H1 locs1 → H1[q9]? = some ce → ce.vm = .none → s.vm.findClass E = some ce.cls → vx_W p l e (mj_rm k d) s m args below meth c H1 locs1 (cn + mj_mc j) (64 * cn + 64 * mj_mc j) (vx_MQ below (mj_Q (mj_r k) D cA ad (mj_Sh lv) K (mj_A ad (mj_Sh lv).length s.heap.size)) (mj_XC D cA ad (mj_Sh lv) K (mj_A ad (mj_Sh lv).length s.heap.size)) args s (mj_mc k) (64 * mj_mc k) (mj_A ad (mj_Sh lv).length s.heap.size)) (F0 m pc lsA (rest.map (mj_tr ad))) q9 := by
    intro E ce q9 u t H1 locs1 ht hal hp hBu hz hk hS1 hce hcv hcl
    obtain ⟨hE, hB⟩ := hBu
    refine vx_out (fun x hx => (htab x hx).elim) hlk hce hcv hcl (fun t2 ht2 hal2 => ⟨(u.1, mj_mg M o (mj_Sh (mj_lv j)).length u.2), hp, ⟨hE, ?_⟩, hS1.F ht2⟩) (fun z hz => hS1.2.2 z hz) hmc (by omega)
    show va_P _ _ _ _
    rw [ht2]
    exact mj_P_back hwin hinj hP (by rw [← ht]; exact hB) hk
  cases hrj : mj_r j with
  | none =>
    rw [hrj] at hr kx
    refine vx_callv (a := (Value.ref (ad (o + x)) :: as.map (mj_tr ad)).toArray) hr hS hA hf hA kx (fun u t H1 locs1 ht hal hp hB hz hk hS1 => ?_)
    rw [e6]
    have hp' : mj_W lv k d (pc + 3) ls rest (mj_mg M o (mj_Sh (mj_lv j)).length u) (cn + mj_mc j) K := hp
    exact hp' p l e s m args below meth c D cA ad C H1 locs1 lsA hl (mj_P_back hwin hinj hP (by rw [← ht]; exact hB) hk) hS1
  | some r =>
    rw [hrj] at hr kx
    refine vx_calli (a := (Value.ref (ad (o + x)) :: as.map (mj_tr ad)).toArray) hr hS hA hf hA kx (fun v u t H1 locs1 ht hal hp hB hz hk hS1 => ?_)
    rw [e6]
    have hp' : mj_W lv k d (pc + 3) ls (.int v :: rest) (mj_mg M o (mj_Sh (mj_lv j)).length u) (cn + mj_mc j) K := hp
    exact hp' p l e s m args below meth c D cA ad C H1 locs1 lsA hl (mj_P_back hwin hinj hP (by rw [← ht]; exact hB) hk) hS1
def mj_sv_ (o : Nat) : Value → Value
  | .ref x => .ref (o + x)
  | v => v
theorem mj_r_callSW {j dj idx o : Nat} {as : List Value} (hd : decode (mj_c k) pc = .ok (.invokestatic idx, 3)) (hM : (mj_oc k, idx, j) ∈ mj_ML) (hj : j < mj_N) (hV : j ∈ mj_kS) (ho : mj_oc j = mj_oc k) (hlv2 : mj_lv j = 2 → lv = 2 ∨ lv = 9) (hlv9 : mj_lv j ≠ 9) (hwin : mj_wok lv (mj_lv j) o = true) (hn : as.length = mj_ar j) (hdj : dj + 1 ≤ d) (hmc : cn + mj_mc j ≤ mj_mc k) (hrest : rest.length ≤ 4)
    (h : mj_Cm j dj as (mj_v M o) (mj_k2 lv k d (pc + 3) ls rest M o (mj_Sh (mj_lv j)).length (cn + mj_mc j) (mj_r j) K)) : mj_W lv k d pc ls ((as.map (mj_sv_ o)).reverse ++ rest) M cn K := by
  intro p l e s m args below meth c D cA ad C H locs lsA hl hP hS
  obtain ⟨hx, hlt, hb, hml, hown, hts, hret, hlk, htab, hinj, hK, hX⟩ := id C
  obtain ⟨y1, y2, y3, y4, y5, y6, y7, y8⟩ := mj_yof hj
  obtain ⟨w1, w2⟩ := mj_wok_at hwin
  have hinj' : mj_inj (fun q => ad (o + q)) (mj_Sh (mj_lv j)).length := fun a b ha hb e => by
    have := hinj (o + a) (o + b) (by omega) (by omega) e
    omega
  have hM1 := h l D cA (fun q => ad (o + q)) H.size hlt hinj'
  have hA : ∀ q, q < H.size → mj_A (fun q => ad (o + q)) (mj_Sh (mj_lv j)).length H.size q → mj_A ad (mj_Sh lv).length s.heap.size q := by
    intro q _ hq
    rcases hq with ⟨i, hi, e⟩ | hq
    · exact Or.inl ⟨o + i, by omega, e⟩
    · exact Or.inr (Nat.le_trans hS.1 hq)
  have hf : ∀ q, mj_A (fun q => ad (o + q)) (mj_Sh (mj_lv j)).length H.size q → mj_A ad (mj_Sh lv).length s.heap.size q := by
    intro q hq
    rcases hq with ⟨i, hi, e⟩ | hq
    · exact Or.inl ⟨o + i, by omega, e⟩
    · exact Or.inr (Nat.le_trans hS.1 hq)
  have htr : (as.map (mj_sv_ o)).map (mj_tr ad) = as.map (mj_tr (fun q => ad (o + q))) := by
    rw [List.map_map]
    apply List.map_congr_left
    intro v _
    cases v <;> rfl
  have hr : vx_Run p l e (mj_rm k d) s m args below meth c H locs cn (64 * cn) (mj_mc j) (64 * mj_mc j) (F0 m pc lsA ((((as.map (mj_sv_ o)).reverse ++ rest)).map (mj_tr ad))) (rest.map (mj_tr ad)) (mj_Q (mj_r j) D cA (fun q => ad (o + q)) (mj_Sh (mj_lv j)) (mj_k2 lv k d (pc + 3) ls rest M o (mj_Sh (mj_lv j)).length (cn + mj_mc j) (mj_r j) K) (mj_A (fun q => ad (o + q)) (mj_Sh (mj_lv j)).length H.size) (as.map (mj_tr (fun q => ad (o + q)))).toArray) (mj_XC D cA (fun q => ad (o + q)) (mj_Sh (mj_lv j)) (mj_k2 lv k d (pc + 3) ls rest M o (mj_Sh (mj_lv j)).length (cn + mj_mc j) (mj_r j) K) (mj_A (fun q => ad (o + q)) (mj_Sh (mj_lv j)).length H.size)) (mj_A (fun q => ad (o + q)) (mj_Sh (mj_lv j)).length H.size) := by
    refine vx_runS (As := as.map (mj_tr (fun q => ad (o + q)))) ⟨hx, hb, hml, hown, hts⟩ hM1 (cwS (mj_ar j) hts (mj_goodS hM hj hV ho) rfl rfl rfl ⟨?_, y3, y4, y5⟩ ⟨?_, ?_⟩) ⟨mj_blind, fun U hU hW => ?_⟩ rfl (by simpa using hn) hl.1 ?_ ?_ hd ⟨hmc, ?_⟩
    · rw [y2]; show mj_R (mj_oc j) = mj_R (mj_oc k); rw [ho]
    · show 2 * dj + 20 + 1 ≤ 2 * d + 20; omega
    · show 8 + (mj_n j + 11) + (40 * dj + 300) ≤ 40 * d + 300; omega
    · refine ⟨rfl, by rw [hU], by rw [hU]; exact mj_P_win hwin hP, va_K.moved hW.alike hK, ?_⟩
      by_cases h2 : mj_lv j = 2
      · have h1 := mj_X.warm hW hX
        rw [hU]
        exact h1.kept (lv' := mj_lv j) (ad' := fun q => if q = 999 then ad 999 else ad (o + q)) hS.2.1 hS.1 (B := mj_A (fun q => ad (o + q)) (mj_Sh (mj_lv j)).length H.size) hf hlv2 (fun z => absurd z hlv9) rfl |>.re hlv9
      · exact mj_X.of h2 hlv9
    · simp only [F0, List.map_append, List.map_reverse, htr]
    · show 2 * 0 + _ ≤ 8
      rw [Nat.mul_zero, Nat.zero_add]
      exact mj_sum4 ad hrest
    · show 64 * cn + 64 * mj_mc j ≤ 64 * mj_mc k; omega
  have e6 : 64 * cn + 64 * mj_mc j = 64 * (cn + mj_mc j) := by omega
  have kx : ∀ (E : String) (ce : Cell) (q9 : Addr) (u : Nat × mj_M) (t : State) (H1 : Heap) (locs1 : List Loc), t.heap = H1 → s.vm.Alike t.vm → (mj_k2 lv k d (pc + 3) ls rest M o (mj_Sh (mj_lv j)).length (cn + mj_mc j) (mj_r j) K) (u.1 + 1) 0 u.2 → (E = mj_E u.1 ∧ mj_B D cA (fun q => ad (o + q)) (mj_Sh (mj_lv j)) u.2 t) → H.size ≤ H1.size → (∀ q : Nat, q < H.size → ¬ mj_A (fun q => ad (o + q)) (mj_Sh (mj_lv j)).length H.size q → H1[q]? = H[q]?) → va_S (mj_A ad (mj_Sh lv).length s.heap.size) s.heap H1 locs1 → H1[q9]? = some ce → ce.vm = .none → s.vm.findClass E = some ce.cls → vx_W p l e (mj_rm k d) s m args below meth c H1 locs1 (cn + mj_mc j) (64 * cn + 64 * mj_mc j) (vx_MQ below (mj_Q (mj_r k) D cA ad (mj_Sh lv) K (mj_A ad (mj_Sh lv).length s.heap.size)) (mj_XC D cA ad (mj_Sh lv) K (mj_A ad (mj_Sh lv).length s.heap.size)) args s (mj_mc k) (64 * mj_mc k) (mj_A ad (mj_Sh lv).length s.heap.size)) (F0 m pc lsA (rest.map (mj_tr ad))) q9 := by
    intro E ce q9 u t H1 locs1 ht hal hp hBu hz hk hS1 hce hcv hcl
    obtain ⟨hE, hB⟩ := hBu
    refine vx_out (fun x hx => (htab x hx).elim) hlk hce hcv hcl (fun t2 ht2 hal2 => ⟨(u.1, mj_mg M o (mj_Sh (mj_lv j)).length u.2), hp, ⟨hE, ?_⟩, hS1.F ht2⟩) (fun z hz => hS1.2.2 z hz) hmc (by omega)
    show va_P _ _ _ _
    rw [ht2]
    exact mj_P_back hwin hinj hP (by rw [← ht]; exact hB) hk
  cases hrj : mj_r j with
  | none =>
    rw [hrj] at hr kx
    refine vx_callv (a := (as.map (mj_tr (fun q => ad (o + q)))).toArray) hr hS hA hf hA kx (fun u t H1 locs1 ht hal hp hB hz hk hS1 => ?_)
    rw [e6]
    have hp' : mj_W lv k d (pc + 3) ls rest (mj_mg M o (mj_Sh (mj_lv j)).length u) (cn + mj_mc j) K := hp
    exact hp' p l e s m args below meth c D cA ad C H1 locs1 lsA hl (mj_P_back hwin hinj hP (by rw [← ht]; exact hB) hk) hS1
  | some r =>
    rw [hrj] at hr kx
    refine vx_calli (a := (as.map (mj_tr (fun q => ad (o + q)))).toArray) hr hS hA hf hA kx (fun v u t H1 locs1 ht hal hp hB hz hk hS1 => ?_)
    rw [e6]
    have hp' : mj_W lv k d (pc + 3) ls (.int v :: rest) (mj_mg M o (mj_Sh (mj_lv j)).length u) (cn + mj_mc j) K := hp
    exact hp' p l e s m args below meth c D cA ad C H1 locs1 lsA hl (mj_P_back hwin hinj hP (by rw [← ht]; exact hB) hk) hS1
end MJ
