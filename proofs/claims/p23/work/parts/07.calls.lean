-- ends, calls, throws, branches
section MJ
variable {lv k d pc cn : Nat} {ls : List (Option Value)} {st rest : List Value} {M : mj_M} {K : mj_K}
theorem mj_zret {p : Program} {l : Launch} {e : Env} {R : Room} {s : State} {m : MethodId} {args : Array Value} {below : List Frame} {meth : Method} {c : Code} {H : Heap} {locs : List Loc} {cells slots : Nat} {cc : ByteArray} {Qc : Array Value → State → Outcome → State → Prop} {free : Addr → Prop} {v v' : Int32} {ty : FieldType} (hexec : p.tables.exec = Jvm.exec) (hb : c.code = cc) (hr : meth.sig.returnType = some ty) (hn : narrow ty (.int v) = .int v')
    (hq : ∀ t : State, t.heap = H → s.WarmedH t.vm → Qc args s (.returned (some (.int v'))) t) (hf : ∀ q ∈ locs, free q.base)
    {pc : Nat} {ls : Array Slot} (hdg : decode cc pc = .ok (.ireturn, 1)) (hlocks : meth.locks = false) : W p l e R s m args below meth c H locs cells slots (MQ below Qc args s cells slots free) (F0 m pc ls [.int v]) := by
  intro T hT X
  obtain ⟨fs, hret, hrun, hended, hW, hframe⟩ := X.leave (v := some (.int v')) (fun h => by rw [hr] at h; cases h)
  have hmeth' : T.vm.method? m = some meth := X.method'
  refine ⟨T.setFrames fs, ?_, .returned (some (.int v')), hrun, hended, hq _ hT hW, locs, ⟨⟨_, rfl⟩, hW, hframe⟩, hf⟩
  jvm_step X.here [X.here.top, hexec, hb, hdg, hmeth', hr, hn]
  (try refine ⟨rfl, ?_⟩); (try refine ⟨rfl, ?_⟩)
  first | (intro acts; rw [hret _ acts rfl rfl rfl]) | rw [hret _ _ rfl rfl rfl]
  exact Steps.refl _
theorem mj_r_iret {v : Int32} (hr : mj_r k = some .int) (hmc : cn ≤ mj_mc k) (hd : decode (mj_c k) pc = .ok (.ireturn, 1)) (h : K 0 v M) : mj_W lv k d pc ls [.int v] M cn K := by
  intro p l e s m args below meth c D cA ad C H locs lsA hl hP hS
  obtain ⟨hx, -, hb, -, -, -, hret, hlk, -⟩ := id C
  refine vx_ret (W.widen (k := mj_mc k) (n := 64 * mj_mc k) hmc (by omega) ?_)
  refine mj_zret hx hb (hret.trans hr) (v' := v) rfl (fun t ht hW => ?_) (fun q hq => hS.2.2 q hq) hd hlk
  rw [hr]
  exact ⟨⟨v, M, rfl, h, by show va_P _ _ _ _; rw [ht]; exact hP⟩, hS.F ht⟩
theorem mj_r_zret {v : Int32} (hr : mj_r k = some .boolean) (hmc : cn ≤ mj_mc k) (hd : decode (mj_c k) pc = .ok (.ireturn, 1)) (h : K 0 (mj_nb v) M) : mj_W lv k d pc ls [.int v] M cn K := by
  intro p l e s m args below meth c D cA ad C H locs lsA hl hP hS
  obtain ⟨hx, -, hb, -, -, -, hret, hlk, -⟩ := id C
  refine vx_ret (W.widen (k := mj_mc k) (n := 64 * mj_mc k) hmc (by omega) ?_)
  refine mj_zret hx hb (hret.trans hr) (v' := mj_nb v) rfl (fun t ht hW => ?_) (fun q hq => hS.2.2 q hq) hd hlk
  rw [hr]
  exact ⟨⟨mj_nb v, M, rfl, h, by show va_P _ _ _ _; rw [ht]; exact hP⟩, hS.F ht⟩
theorem mj_r_vret (hr : mj_r k = none) (hmc : cn ≤ mj_mc k) (hd : decode (mj_c k) pc = .ok (.return_, 1)) (h : K 0 0 M) : mj_W lv k d pc ls [] M cn K := by
  intro p l e s m args below meth c D cA ad C H locs lsA hl hP hS
  obtain ⟨hx, -, hb, -, -, -, hret, hlk, -⟩ := id C
  refine vx_ret (W.widen (k := mj_mc k) (n := 64 * mj_mc k) hmc (by omega) ?_)
  refine W.vret hx hb (hret.trans hr) (fun t ht hW => ?_) (fun q hq => hS.2.2 q hq) hd hlk
  rw [hr]
  exact ⟨⟨M, rfl, h, by show va_P _ _ _ _; rw [ht]; exact hP⟩, hS.F ht⟩
theorem mj_good {w : Cond} (h : w ∈ mj_G) : w ∈ mj_G ∧ ((w.onTables && w.keeps) = true ∨ ∃ ty, w = .arrayClass ty) := ⟨h, good_of_word (List.mem_filter.mp h).2⟩
theorem mj_goodV {o idx j : Nat} (hM : (o, idx, j) ∈ mj_ML) (hj : j < mj_N) (hV : j ∈ mj_kV) : GoodIn mj_G (wsV (mj_R o) idx (mj_o j) (mj_y j) (mj_ws j)) := by
  intro w hw
  unfold wsV at hw
  simp only [List.cons_append, List.nil_append, List.mem_cons] at hw
  rcases hw with rfl | rfl | rfl | rfl | hw
  · exact mj_good (mj_inM hM)
  · exact mj_good (mj_inI hV)
  · exact mj_good (mj_inE hV)
  · exact mj_good (mj_inN (mj_yof hj).2.2.2.2.2.1)
  · unfold mj_ws at hw
    rcases List.mem_cons.mp hw with rfl | hw
    · exact mj_good (mj_inC hj)
    · exact mj_good hw
theorem mj_goodS {idx j o : Nat} (hM : (o, idx, j) ∈ mj_ML) (hj : j < mj_N) (hV : j ∈ mj_kS) (ho : mj_oc j = o) : GoodIn mj_G (wsS (mj_R o) idx (mj_y j) (mj_ws j)) := by
  intro w hw
  unfold wsS at hw
  simp only [List.cons_append, List.nil_append, List.mem_cons] at hw
  rcases hw with rfl | rfl | rfl | hw
  · exact mj_good (mj_inM hM)
  · exact mj_good (mj_inS hV)
  · exact mj_good (by rw [← ho]; exact mj_inN (mj_yof hj).2.2.2.2.2.1)
  · unfold mj_ws at hw
    rcases List.mem_cons.mp hw with rfl | hw
    · exact mj_good (mj_inC hj)
    · exact mj_good hw
theorem mj_blind {lv : Nat} {D : va_G} {cA : Nat → ClassId} {ad : Nat → Nat} {As : List Value} {M : mj_M} {sz : Nat} : FrameBlind (mj_Pc lv D cA ad As M sz) := by
  intro a U g mk q
  obtain ⟨q0, q1, q2, q3, q4⟩ := q
  exact ⟨q0, q1, q2, va_K.moved (u := U) (U := U.calling g mk a) (Vm.Alike.refl U.vm) q3, mj_X.warm (s := U) (U := U.calling g mk a) (State.WarmedH.refl U) q4⟩
theorem mj_kV7 {j : Nat} (h : j ∈ mj_kV) : mj_oc j < 7 := by
  have h1 : mj_kV.all (fun j => Nat.ble (mj_oc j + 1) 7) = true := by decide +kernel
  exact Nat.le_of_ble_eq_true (List.all_eq_true.mp h1 j h)
theorem mj_R_q {x : Nat} (h : x < 7) : mj_R x = (mj_q x).1 := by
  match x, h with
  | 0, _ => rfl
  | 1, _ => rfl
  | 2, _ => rfl
  | 3, _ => rfl
  | 4, _ => rfl
  | 5, _ => rfl
  | 6, _ => rfl
def mj_pu (r : Option FieldType) (v : Int32) (rest : List Value) : List Value := match r with
  | none => rest
  | some _ => .int v :: rest
theorem mj_sum4 (ad : Nat → Nat) {l : List Value} (h : l.length ≤ 4) : ((l.map (mj_tr ad)).map fun v => v.category).sum ≤ 8 := by
  have key : ∀ (l : List Value), ((l.map (mj_tr ad)).map fun v => v.category).sum ≤ 2 * l.length := by
    intro l
    induction l with
    | nil => simp
    | cons a l ih =>
      have : (mj_tr ad a).category ≤ 2 := by rcases lv_cat (mj_tr ad a) with h | h <;> omega
      simp only [List.map_cons, List.sum_cons, List.length_cons]
      omega
  have := key l
  omega
/-- what comes behind a call of j: it goes on, or what was thrown goes on to the caller -/
def mj_k (lv k d pc : Nat) (ls : List (Option Value)) (rest : List Value) (cn : Nat) (r : Option FieldType) (K : mj_K) : mj_K := fun o v M' => match o with
  | 0 => mj_W lv k d pc ls (mj_pu r v rest) M' cn K
  | e + 1 => K (e + 1) 0 M'
theorem mj_cr (j : Nat) (rest : List Value) {p : Program} {l : Launch} {e : Env} {s : State} {m : MethodId} {args : Array Value} {below : List Frame} {meth : Method} {c : Code} {D : va_G} {cA : Nat → ClassId} {ad : Nat → Nat} (C : mj_C lv k p l s m args meth c D cA ad) {H : Heap} {locs : List Loc} {lsA : Array Slot} (hl : mj_L ad lsA (mj_n k) ls) (hS : va_S (mj_A ad (mj_Sh lv).length s.heap.size) s.heap H locs) (hmc : cn + mj_mc j ≤ mj_mc k) {a : Array Value} {st0 : List Value} (hlvj : mj_lv j = lv)
    (hr : vx_Run p l e (mj_rm k d) s m args below meth c H locs cn (64 * cn) (mj_mc j) (64 * mj_mc j) (F0 m pc lsA st0) (rest.map (mj_tr ad)) (mj_Q (mj_r j) D cA ad (mj_Sh lv) (mj_k lv k d (pc + 3) ls rest (cn + mj_mc j) (mj_r j) K) (mj_A ad (mj_Sh lv).length H.size) a) (mj_XC D cA ad (mj_Sh lv) (mj_k lv k d (pc + 3) ls rest (cn + mj_mc j) (mj_r j) K) (mj_A ad (mj_Sh lv).length H.size)) (mj_A ad (mj_Sh lv).length H.size)) :
    W p l e (mj_rm k d) s m args below meth c H locs cn (64 * cn) (vx_MQ below (mj_Q (mj_r k) D cA ad (mj_Sh lv) K (mj_A ad (mj_Sh lv).length s.heap.size)) (mj_XC D cA ad (mj_Sh lv) K (mj_A ad (mj_Sh lv).length s.heap.size)) args s (mj_mc k) (64 * mj_mc k) (mj_A ad (mj_Sh lv).length s.heap.size)) (F0 m pc lsA st0) := by
  obtain ⟨hx, hlt, hb, hml, hown, hts, hret, hlk, htab, hinj, hK, hX⟩ := id C
  have hA : ∀ q, q < H.size → mj_A ad (mj_Sh lv).length H.size q → mj_A ad (mj_Sh lv).length s.heap.size q := fun q _ => mj_A_mono hS.1 q
  have hf : ∀ q, mj_A ad (mj_Sh lv).length H.size q → mj_A ad (mj_Sh lv).length s.heap.size q := mj_A_mono hS.1
  have e6 : 64 * cn + 64 * mj_mc j = 64 * (cn + mj_mc j) := by omega
  have kx : ∀ (E : String) (ce : Cell) (q9 : Addr) (u : Nat × mj_M) (t : State) (H1 : Heap) (locs1 : List Loc), t.heap = H1 → s.vm.Alike t.vm → (mj_k lv k d (pc + 3) ls rest (cn + mj_mc j) (mj_r j) K) (u.1 + 1) 0 u.2 → (E = mj_E u.1 ∧ mj_B D cA ad (mj_Sh lv) u.2 t) → H.size ≤ H1.size → (∀ q : Nat, q < H.size → ¬ mj_A ad (mj_Sh lv).length H.size q → H1[q]? = H[q]?) → va_S (mj_A ad (mj_Sh lv).length s.heap.size) s.heap H1 locs1 → H1[q9]? = some ce → ce.vm = .none → s.vm.findClass E = some ce.cls → vx_W p l e (mj_rm k d) s m args below meth c H1 locs1 (cn + mj_mc j) (64 * cn + 64 * mj_mc j) (vx_MQ below (mj_Q (mj_r k) D cA ad (mj_Sh lv) K (mj_A ad (mj_Sh lv).length s.heap.size)) (mj_XC D cA ad (mj_Sh lv) K (mj_A ad (mj_Sh lv).length s.heap.size)) args s (mj_mc k) (64 * mj_mc k) (mj_A ad (mj_Sh lv).length s.heap.size)) (F0 m pc lsA (rest.map (mj_tr ad))) q9 := by
    intro E ce q9 u t H1 locs1 ht hal hp hBu hz hk hS1 hce hcv hcl
    obtain ⟨hE, hB⟩ := hBu
    refine vx_out (fun x hx => (htab x hx).elim) hlk hce hcv hcl (fun t2 ht2 hal2 => ⟨u, hp, ⟨hE, ?_⟩, hS1.F ht2⟩) (fun z hz => hS1.2.2 z hz) hmc (by omega)
    show va_P _ _ _ _
    rw [ht2, ← ht]; exact hB
  cases hrj : mj_r j with
  | none =>
    rw [hrj] at hr kx
    refine vx_callv (a := a) hr hS hA hf hA kx (fun u t H1 locs1 ht hal hp hB hz hk hS1 => ?_)
    rw [e6]
    have hp' : mj_W lv k d (pc + 3) ls rest u (cn + mj_mc j) K := hp
    exact hp' p l e s m args below meth c D cA ad C H1 locs1 lsA hl (by rw [← ht]; exact hB) hS1
  | some r =>
    rw [hrj] at hr kx
    refine vx_calli (a := a) hr hS hA hf hA kx (fun v u t H1 locs1 ht hal hp hB hz hk hS1 => ?_)
    rw [e6]
    have hp' : mj_W lv k d (pc + 3) ls (.int v :: rest) u (cn + mj_mc j) K := hp
    exact hp' p l e s m args below meth c D cA ad C H1 locs1 lsA hl (by rw [← ht]; exact hB) hS1
theorem mj_r_callV {j dj idx x : Nat} {fs : List (Option Nat)} {as : List Value} (hd : decode (mj_c k) pc = .ok (.invokevirtual idx, 3)) (hM : (mj_oc k, idx, j) ∈ mj_ML) (hj : j < mj_N) (hV : j ∈ mj_kV) (hlvj : mj_lv j = lv) (hsh : (mj_Sh lv)[x]? = some (.inl (mj_oc j, fs))) (hn : as.length = mj_ar j) (hdj : dj + 1 ≤ d) (hmc : cn + mj_mc j ≤ mj_mc k) (hrest : rest.length ≤ 4)
    (h : mj_Cm j dj (.ref x :: as) M (mj_k lv k d (pc + 3) ls rest (cn + mj_mc j) (mj_r j) K)) : mj_W lv k d pc ls (as.reverse ++ .ref x :: rest) M cn K := by
  intro p l e s m args below meth c D cA ad C H locs lsA hl hP hS
  obtain ⟨hx, hlt, hb, hml, hown, hts, hret, hlk, htab, hinj, hK, hX⟩ := id C
  obtain ⟨y1, y2, y3, y4, y5, y6, y7, y8⟩ := mj_yof hj
  have hM1 := h l D cA ad H.size hlt (by rw [hlvj]; exact hinj)
  rw [hlvj] at hM1
  refine mj_cr j rest (a := (Value.ref (ad x) :: as.map (mj_tr ad)).toArray) C hl hS hmc hlvj ?_
  refine vx_runV (As := as.map (mj_tr ad)) ⟨hx, hb, hml, hown, hts⟩ hM1 (cwV (mj_ar j) hts (mj_goodV hM hj hV) rfl rfl rfl ⟨y2, y3, y4, y5⟩ ⟨?_, ?_⟩) ⟨mj_blind, ?_, fun U hU hW => ?_⟩ rfl (by simpa using hn) hl.1 ?_ ?_ hd ⟨hmc, ?_⟩
  · show 2 * dj + 20 + 1 ≤ 2 * d + 20; omega
  · show 8 + (mj_n j + 11) + (40 * dj + 300) ≤ 40 * d + 300; omega
  · rw [show mj_o j = (mj_q (mj_oc j)).1 from mj_R_q (mj_kV7 hV)]
    exact va_recv (cl := mj_cl) (q := mj_q (mj_oc j)) hK hP (mj_cl_q (mj_kV7 hV)) (mj_w_some hsh)
  · refine ⟨rfl, by rw [hU], by rw [hU]; exact hP, va_K.moved hW.alike hK, ?_⟩
    have h1 := mj_X.warm hW hX
    rw [hU]
    exact h1.kept hS.2.1 hS.1 (mj_A_mono hS.1) Or.inl id rfl
  · simp [F0, mj_tr]
  · show 2 * 0 + _ ≤ 8
    rw [Nat.mul_zero, Nat.zero_add]
    exact mj_sum4 ad hrest
  · show 64 * cn + 64 * mj_mc j ≤ 64 * mj_mc k; omega
theorem mj_r_callS {j dj idx : Nat} {as : List Value} (hd : decode (mj_c k) pc = .ok (.invokestatic idx, 3)) (hM : (mj_oc k, idx, j) ∈ mj_ML) (hj : j < mj_N) (hV : j ∈ mj_kS) (ho : mj_oc j = mj_oc k) (hlvj : mj_lv j = lv) (hn : as.length = mj_ar j) (hdj : dj + 1 ≤ d) (hmc : cn + mj_mc j ≤ mj_mc k) (hrest : rest.length ≤ 4)
    (h : mj_Cm j dj as M (mj_k lv k d (pc + 3) ls rest (cn + mj_mc j) (mj_r j) K)) : mj_W lv k d pc ls (as.reverse ++ rest) M cn K := by
  intro p l e s m args below meth c D cA ad C H locs lsA hl hP hS
  obtain ⟨hx, hlt, hb, hml, hown, hts, hret, hlk, htab, hinj, hK, hX⟩ := id C
  obtain ⟨y1, y2, y3, y4, y5, y6, y7, y8⟩ := mj_yof hj
  have hM1 := h l D cA ad H.size hlt (by rw [hlvj]; exact hinj)
  rw [hlvj] at hM1
  refine mj_cr j rest (a := (as.map (mj_tr ad)).toArray) C hl hS hmc hlvj ?_
  refine vx_runS (As := as.map (mj_tr ad)) ⟨hx, hb, hml, hown, hts⟩ hM1 (cwS (mj_ar j) hts (mj_goodS hM hj hV ho) rfl rfl rfl ⟨?_, y3, y4, y5⟩ ⟨?_, ?_⟩) ⟨mj_blind, fun U hU hW => ?_⟩ rfl (by simpa using hn) hl.1 ?_ ?_ hd ⟨hmc, ?_⟩
  · rw [y2]; show mj_R (mj_oc j) = mj_R (mj_oc k); rw [ho]
  · show 2 * dj + 20 + 1 ≤ 2 * d + 20; omega
  · show 8 + (mj_n j + 11) + (40 * dj + 300) ≤ 40 * d + 300; omega
  · refine ⟨rfl, by rw [hU], by rw [hU]; exact hP, va_K.moved hW.alike hK, ?_⟩
    have h1 := mj_X.warm hW hX
    rw [hU]
    exact h1.kept hS.2.1 hS.1 (mj_A_mono hS.1) Or.inl id rfl
  · simp [F0]
  · show 2 * 0 + _ ≤ 8
    rw [Nat.mul_zero, Nat.zero_add]
    exact mj_sum4 ad hrest
  · show 64 * cn + 64 * mj_mc j ≤ 64 * mj_mc k; omega
end MJ
