-- isHeld and the law
/-! THE CLAIM OUT OF ONE WALK OF THE LAW'S BODY. Your part is whole_start (and what it stands on); all else here is the same for every law, but numbers. -/
def R_law : String := "CrushLoadLaw"
def lw_P (b : Addr) (xs : List Int32) (args : Array Value) (s : State) : Prop := args = #[.ref b] ∧ s.IntsAt b xs ∧ xs.length ≤ 260 ∧ (Jvm.Cond.and given_1 narrow_1).before args s = true
def lw_Q (_ : Array Value) (s : State) (o : Outcome) (t : State) : Prop := o = .returned (some (.int 1)) ∧ Framed s o t [] 600086 7301442
def lw_Z (below : List Frame) (a : Array Value) (s : State) : State → Prop := fun t => ∃ o, t.status = .running ∧ Ended t below o ∧ lw_Q a s o t
/-- the law's own end, with 1 on the stack, nothing written that was there before, its room as the claim has it -/
theorem lw_ret {p : Program} {l : Launch} {e : Env} {s : State} {m : MethodId} {below : List Frame} {meth : Method} {c : Code} {b : Nat} (hx : p.tables.exec = Jvm.exec) (hb : c.code = code) (hr : meth.sig.returnType = ret) (hlocks : meth.locks = false) {pc : Nat} {H : Heap} {ls : Array Slot} (hdg : decode code pc = .ok (.ireturn, 1)) : W p l e room_1 s m #[Value.ref b] below meth c H [] 600086 7301442 (lw_Z below #[Value.ref b] s) (F0 m pc ls [.int 1]) := by
  intro T hT X
  obtain ⟨fs, hret, hrun, hended, hW, hframe⟩ := X.leave (v := some (.int 1)) (hlocks := hlocks) (fun h => by rw [hr] at h; cases h)
  have hmeth' : T.vm.method? m = some meth := X.method'
  refine ⟨T.setFrames fs, ?_, .returned (some (.int 1)), hrun, hended, rfl, ⟨_, rfl⟩, hW, hframe⟩
  jvm_step X.here [X.here.top, hx, hb, hdg, hmeth', hr, ret, narrow_b1]
  (try refine ⟨rfl, ?_⟩); (try refine ⟨rfl, ?_⟩)
  first | (intro acts; rw [hret _ acts rfl rfl rfl]) | rw [hret _ _ rfl rfl rfl]
  exact Steps.refl _
/-- what holds at the law's entry: the machine, the code, the tables' words (any of lw_tbl by 'hts w (by decide +kernel)'), the script of L ints xs at the cell b, what the Statement gives of the start (any of its parts by flat_of_before) -/
def lw_At (p : Program) (s : State) (m : MethodId) (meth : Method) (c : Code) (b L : Nat) (xs : Nat → Int32) : Prop :=
  p.tables.exec = Jvm.exec ∧ c.code = code ∧ meth.sig.returnType = ret ∧ c.maxLocals = 1 ∧ s.vm.findClass R_law = some m.cls ∧ (∀ w ∈ lw_tbl, w.before #[Value.ref b] s = true) ∧ va_X b L xs s s.heap ∧ b < s.heap.size ∧ meth.locks = false ∧ (Jvm.Cond.and given_1 narrow_1).before #[Value.ref b] s = true
section LZL
theorem lz_q_0 : decode cL_isHeld 0 = .ok (.aload_n 0, 1) := by decide +kernel
theorem lz_q_1 : decode cL_isHeld 1 = .ok (.invokestatic 162, 3) := by decide +kernel
theorem lz_q_4 : decode cL_isHeld 4 = .ok (.ireturn, 1) := by decide +kernel
theorem lz_l_0 : decode code 0 = .ok (.aload_n 0, 1) := by decide +kernel
theorem lz_l_1 : decode code 1 = .ok (.invokestatic 172, 3) := by decide +kernel
theorem lz_l_4 : decode code 4 = .ok (.ireturn, 1) := by decide +kernel
abbrev lz_h : List (Nat × Nat × Nat × Nat) := [(0, 4, 5, 166), (0, 4, 8, 168), (0, 4, 11, 170)]
def lz_w : List Cond := .codeWith yL_isHeld cL_isHeld 2 (some .boolean) lz_h :: mj_G
theorem lz_c : Cond.codeWith yL_isHeld cL_isHeld 2 (some .boolean) lz_h ∈ mj_G := mj_inG (List.mem_of_getElem? (i := 43) (by decide +kernel)) rfl
theorem lz_m172 : Cond.methodLink RL 172 yL_isHeld ∈ mj_G := mj_inG (List.mem_of_getElem? (i := 41) (by decide +kernel)) rfl
theorem lz_s172 : Cond.static yL_isHeld ∈ mj_G := mj_inG (List.mem_of_getElem? (i := 42) (by decide +kernel)) rfl
theorem lz_m162 : Cond.methodLink RL 162 (mj_y 112) ∈ mj_G := mj_inG (List.mem_of_getElem? (i := 47) (by decide +kernel)) rfl
theorem lz_s162 : Cond.static (mj_y 112) ∈ mj_G := mj_inG (List.mem_of_getElem? (i := 48) (by decide +kernel)) rfl
def lz_rm : Room := { frames := 2 * 18 + 21, cells := mj_mc 112, slots := 64 * mj_mc 112, locals := 40 * 18 + 340 }
set_option maxHeartbeats 4000000 in
set_option maxRecDepth 100000 in
theorem lz_isHeld {l : Launch} (hlt : l.stackTraces = false) (D : va_G) (cA : Nat → ClassId) (b sz : Nat) : vx_Met l yL_isHeld lz_w lz_rm (lz_Pc D cA b sz) (lz_Q sz) (lz_X sz) (mj_mc 112) (64 * mj_mc 112) (lz_A sz) := by
  refine vx_ofWH (cc := cL_isHeld) (maxL := 2) (ret := some .boolean) (hh := lz_h) (by decide) rfl ?_
  intro p e s m args below meth c s₁ B hml hv
  obtain ⟨rfl, hsz, hK, hN, hX⟩ := hv
  have hx := B.exec
  have hb := B.bytes
  have hr := B.returns
  have hts0 := atoms_spec (ws := lz_w) B.pre
  have hts : ∀ w ∈ mj_G, w.before _ s = true := fun w hw => hts0 w (List.mem_cons_of_mem _ hw)
  have hown : s.vm.findClass RL = some m.cls := findClass_of_methodNamed B.named
  have hlocks := B.notSynchronized
  subst hsz
  have hS : va_S (lz_A s.heap.size) s.heap s.heap [] := va_S.rf
  have hl := lv_entry ([.ref b]) (n := 2) (Nat.le_of_ble_eq_true rfl)
  rw [lg_entry_eq]
  generalize (lg_sl ([.ref b]) ++ List.replicate (2 - (lg_sl ([.ref b])).length) Slot.unset).toArray = ls at hl ⊢
  have hl : lv_has ls 2 [(0, .ref b)] := hl
  refine lv_aload_n hx hb lz_q_0 rfl (lv_at hl 0 rfl) ?_
  have hgood : GoodIn mj_G (wsS RL 162 (mj_y 112) (mj_ws 112)) := by
    intro w hw
    unfold wsS at hw
    simp only [List.cons_append, List.nil_append, List.mem_cons] at hw
    rcases hw with rfl | rfl | rfl | hw
    · exact mj_good lz_m162
    · exact mj_good lz_s162
    · exact mj_good (mj_inN (x := 7) (by decide))
    · unfold mj_ws at hw
      rcases List.mem_cons.mp hw with rfl | hw
      · exact mj_good (mj_inC (by decide))
      · exact mj_good hw
  obtain ⟨y1, y2, y3, y4, y5, y6, y7, y8⟩ := mj_yof (k := 112) (by decide)
  have hrun := vx_runS (p := p) (e := e) (R := lz_rm) (below := below) (meth := meth) (H := s.heap) (locs := []) (cells := 0) (slots := 0) (g := F0 m 1 ls [.ref b]) (rest := []) (As := [.ref b]) (nL := 2) ⟨hx, hb, hml, hown, hts⟩ (lz_holds hlt D cA b s.heap.size) (cwS 1 hts hgood rfl rfl rfl ⟨rfl, y3, y4, y5⟩ ⟨by decide, by decide⟩) ⟨lz_blind, fun U hU hW => by
    refine ⟨rfl, by rw [hU], va_K.moved hW.alike hK, hN.warm hW, ?_⟩
    rw [hU]
    exact mj_X.warm hW hX⟩ rfl rfl hl.1 rfl (Nat.zero_le _) lz_q_1 ⟨by show 0 + mj_mc 112 ≤ mj_mc 112; omega, by show 0 + 64 * mj_mc 112 ≤ 64 * mj_mc 112; omega⟩
  refine vx_calli (a := ([.ref b] : List Value).toArray) hrun hS (fun q _ h => h) (fun q h => h) (fun q _ h => h) (fun E ce q9 u t H1 locs1 ht hal hp => hp.elim) (fun v u t H1 locs1 ht hal hp hB hz hk hS1 => ?_)
  have hv1 : v = 1 := hp
  subst hv1
  refine vx_ret (W.widen (k := mj_mc 112) (n := 64 * mj_mc 112) (by omega) (by omega) ?_)
  exact mj_zret hx hb hr (v' := 1) rfl (fun t ht hW => ⟨⟨1, (), rfl, rfl, trivial⟩, hS1.F ht⟩) hS1.2.2 lz_q_4 hlocks
theorem lz_t {l : Launch} (h : l.flags = flags0) : l.stackTraces = false := by
  unfold Launch.stackTraces
  rw [h]
  decide +kernel
theorem lz_cls {s : State} {args : Array Value} (hts : ∀ w ∈ mj_G, w.before args s = true) : ∃ D : va_G, ∀ (ci : Nat) (q : vw_C), mj_cl[ci]? = some q → u_Kn s q.1 q.2.1 q.2.2 (D.1 ci) (D.2 ci) := by
  have key : ∀ ci, ci < 7 → Cond.instantiable (mj_q ci).1 (mj_q ci).2.2 ∈ mj_G → ∃ (cC : ClassId) (iS : Nat → Nat), u_Kn s (mj_q ci).1 (mj_q ci).2.1 (mj_q ci).2.2 cC iS := fun ci h1 h2 => u_known hts (mj_inL h1) (hts _ h2)
  obtain ⟨c0, i0, h0⟩ := key 0 (by decide) cn_n0
  obtain ⟨c1, i1, h1⟩ := key 1 (by decide) cn_n1
  obtain ⟨c2, i2, h2⟩ := key 2 (by decide) cn_n2
  obtain ⟨c3, i3, h3⟩ := key 3 (by decide) cn_n3
  obtain ⟨c4, i4, h4⟩ := key 4 (by decide) cn_n4
  obtain ⟨c5, i5, h5⟩ := key 5 (by decide) cn_n5
  obtain ⟨c6, i6, h6⟩ := key 6 (by decide) lz_n6
  refine ⟨(fun k => match k with | 0 => c0 | 1 => c1 | 2 => c2 | 3 => c3 | 4 => c4 | 5 => c5 | _ => c6, fun k => match k with | 0 => i0 | 1 => i1 | 2 => i2 | 3 => i3 | 4 => i4 | 5 => i5 | _ => i6), ?_⟩
  intro ci q hq
  match ci, hq with
  | 0, hq => cases hq; exact h0
  | 1, hq => cases hq; exact h1
  | 2, hq => cases hq; exact h2
  | 3, hq => cases hq; exact h3
  | 4, hq => cases hq; exact h4
  | 5, hq => cases hq; exact h5
  | 6, hq => cases hq; exact h6
  | n + 7, hq =>
    have := (List.getElem?_eq_some_iff.mp hq).1
    have h9 : n + 7 < 7 := this
    exact absurd h9 (by omega)
set_option maxRecDepth 100000 in
theorem lz_N {s : State} {args : Array Value} (hts : ∀ w ∈ lw_tbl, w.before args s = true) : cn_N s := by
  have key : ∀ q ∈ cn_nl, Cond.methodLinkNest q.1 q.2.1 q.2.2 "CrushLoad" ∈ lw_tbl := by
    intro q hq
    simp only [cn_nl, List.mem_cons, List.not_mem_nil, or_false] at hq
    rcases hq with rfl | rfl | rfl | rfl | rfl | rfl
    · exact List.mem_of_getElem? (i := 60) (by decide +kernel)
    · exact List.mem_of_getElem? (i := 66) (by decide +kernel)
    · exact List.mem_of_getElem? (i := 107) (by decide +kernel)
    · exact List.mem_of_getElem? (i := 174) (by decide +kernel)
    · exact List.mem_of_getElem? (i := 220) (by decide +kernel)
    · exact List.mem_of_getElem? (i := 258) (by decide +kernel)
  exact fun q hq => va_Nw.of rfl (hts _ (key q hq))
set_option maxRecDepth 100000 in
theorem lz_Xs {s : State} {args : Array Value} {b L : Nat} {xs : Nat → Int32} (hts : ∀ w ∈ lw_tbl, w.before args s = true) (hf : ∀ w ∈ flatC (Jvm.Cond.and given_1 narrow_1), w.before args s = true) (hL : L ≤ 260) (hX : va_X b L xs s s.heap) (hb : b < s.heap.size) : mj_X 9 (fun _ => b) (fun q => s.heap.size ≤ q) s s.heap := by
  refine ⟨fun _ => ?_, fun _ => ⟨L, xs, hL, hX, hb, Nat.not_le.mpr hb⟩⟩
  have hA : ∀ a : Nat, a < s.heap.size → ¬ (fun q : Nat => s.heap.size ≤ q) a := fun a h => Nat.not_le.mpr h
  have hini : (Cond.initialized Bundle.tN).before args s = true := hts _ (List.mem_of_getElem? (i := 34) (by decide +kernel))
  have hstr : ∀ q ∈ mj_tx, Cond.stringRef RX6 q.1 q.2 ∈ lw_tbl ∧ Cond.exactly (.string RX6 q.1) "java/lang/String" ∈ flatC (Jvm.Cond.and given_1 narrow_1) := by
    intro q hq
    simp only [mj_tx, List.mem_cons, List.not_mem_nil, or_false] at hq
    rcases hq with rfl | rfl | rfl | rfl | rfl | rfl | rfl
    · exact ⟨List.mem_of_getElem? (i := 368) (by decide +kernel), by decide +kernel⟩
    · exact ⟨List.mem_of_getElem? (i := 504) (by decide +kernel), by decide +kernel⟩
    · exact ⟨List.mem_of_getElem? (i := 407) (by decide +kernel), by decide +kernel⟩
    · exact ⟨List.mem_of_getElem? (i := 494) (by decide +kernel), by decide +kernel⟩
    · exact ⟨List.mem_of_getElem? (i := 723) (by decide +kernel), by decide +kernel⟩
    · exact ⟨List.mem_of_getElem? (i := 794) (by decide +kernel), by decide +kernel⟩
    · exact ⟨List.mem_of_getElem? (i := 822) (by decide +kernel), by decide +kernel⟩
  have hcs : ∀ e, e < 3 → Cond.castable (mj_E e) (mj_E e) ∈ lw_tbl := by
    intro e he
    match e, he with
    | 0, _ => exact List.mem_of_getElem? (i := 487) (by decide +kernel)
    | 1, _ => exact List.mem_of_getElem? (i := 329) (by decide +kernel)
    | 2, _ => exact List.mem_of_getElem? (i := 400) (by decide +kernel)
  have hdc : ∀ y ∈ mj_dc, Cond.declares y ∈ lw_tbl := by
    intro y hy
    simp only [mj_dc, List.mem_cons, List.not_mem_nil, or_false] at hy
    rcases hy with rfl | rfl | rfl | rfl | rfl | rfl
    · exact List.mem_of_getElem? (i := 330) (by decide +kernel)
    · exact List.mem_of_getElem? (i := 331) (by decide +kernel)
    · exact List.mem_of_getElem? (i := 332) (by decide +kernel)
    · exact List.mem_of_getElem? (i := 333) (by decide +kernel)
    · exact List.mem_of_getElem? (i := 334) (by decide +kernel)
    · exact List.mem_of_getElem? (i := 335) (by decide +kernel)
  refine ⟨vx_Zqof (hts _ (List.mem_of_getElem? (i := 354) (by decide +kernel))) hini (hf _ (by decide +kernel)) hA, vx_Zqof (hts _ (List.mem_of_getElem? (i := 356) (by decide +kernel))) hini (hf _ (by decide +kernel)) hA, fun q hq => ?_, fun e he => va_Nw.of rfl (hts _ (hcs e he)), fun y hy => va_Nw.of rfl (hts _ (hdc y hy))⟩
  obtain ⟨h1, h2⟩ := hstr q hq
  obtain ⟨a, c, cell, k, h3, -⟩ := Cond.exactly_spec (hf _ h2)
  exact ⟨a, vk_R.of (hts _ h1) h3⟩
set_option maxHeartbeats 4000000 in
set_option maxRecDepth 100000 in
/-- THE LAW, from its entry -/
theorem whole_start {p : Program} {e : Env} {s : State} {m : MethodId} {below : List Frame} {meth : Method} {c : Code} (l : Launch) (hflags : l.flags = flags0) {b L : Nat} {xs : Nat → Int32} (hL : L ≤ 260) (C0 : lw_At p s m meth c b L xs) : W p l e room_1 s m #[Value.ref b] below meth c s.heap [] 0 0 (lw_Z below #[Value.ref b] s) (entryFrame m ([Value.ref b] : List Value).toArray 1) := by
  obtain ⟨hx, hb, hr, hml, hown, hts0, hX, hbl, hlocks, hgv⟩ := id C0
  have hf := flat_of_before _ hgv
  have hts : ∀ w ∈ mj_G, w.before #[Value.ref b] s = true := fun w hw => hts0 w (List.mem_filter.mp hw).1
  have hown : s.vm.findClass RL = some m.cls := hown
  obtain ⟨D, hKc⟩ := lz_cls hts
  obtain ⟨cI, hI1, hI2⟩ := cn_arr (hts _ cn_arrInt) (Or.inl rfl)
  obtain ⟨cB, hB1, hB2⟩ := cn_arr (hts _ cn_arrBool) (Or.inr rfl)
  obtain ⟨cA, hcA⟩ : ∃ cA : Nat → ClassId, cA = fun k => match k with | 0 => cI | _ => cB := ⟨_, rfl⟩
  have hA0 : cA 0 = cI := congrFun hcA 0
  have hA1 : cA 1 = cB := congrFun hcA 1
  have hK : va_K D mj_cl (mj_tys cA) s := by
    refine ⟨hKc, fun k q hq => ?_⟩
    match k, hq with
    | 0, hq => cases hq; rw [hA0]; exact ⟨hI1, hI2⟩
    | 1, hq => cases hq; rw [hA1]; exact ⟨hB1, hB2⟩
    | n + 2, hq =>
      have h9 : n + 2 < 2 := (List.getElem?_eq_some_iff.mp hq).1
      exact absurd h9 (by omega)
  have hN := lz_N hts0
  have hX9 := lz_Xs hts0 hf hL hX hbl
  have hlt := lz_t hflags
  have hS : va_S (lz_A s.heap.size) s.heap s.heap [] := va_S.rf
  have hl := lv_entry ([.ref b]) (n := 1) (Nat.le_of_ble_eq_true rfl)
  rw [lg_entry_eq]
  generalize (lg_sl ([.ref b]) ++ List.replicate (1 - (lg_sl ([.ref b])).length) Slot.unset).toArray = ls at hl ⊢
  have hl : lv_has ls 1 [(0, .ref b)] := hl
  refine lv_aload_n hx hb lz_l_0 rfl (lv_at hl 0 rfl) ?_
  have hgood : GoodIn mj_G (va_wsS RL 172 yL_isHeld lz_w) := by
    intro w hw2
    unfold va_wsS at hw2
    simp only [List.cons_append, List.nil_append, List.mem_cons] at hw2
    rcases hw2 with rfl | rfl | rfl | hw2
    · exact mj_good lz_m172
    · exact mj_good lz_s172
    · exact mj_good (mj_inN (x := 7) (by decide))
    · unfold lz_w at hw2
      rcases List.mem_cons.mp hw2 with rfl | hw2
      · exact mj_good lz_c
      · exact mj_good hw2
  have hrun := vx_runSX (p := p) (e := e) (R := room_1) (below := below) (meth := meth) (H := s.heap) (locs := []) (cells := 0) (slots := 0) (g := F0 m 1 ls [.ref b]) (rest := []) (As := [.ref b]) (nL := 1) ⟨hx, hb, hml, hown, hts⟩ (lz_isHeld hlt D cA b s.heap.size) (vx_cwSW 1 hts hgood rfl rfl rfl ⟨by decide, by decide, by decide +kernel⟩ ⟨by decide, by decide⟩) ⟨lz_blind, fun U hU hW => by
    refine ⟨rfl, by rw [hU], va_K.moved hW.alike hK, hN.warm hW, ?_⟩
    rw [hU]
    exact mj_X.warm hW hX9⟩ rfl rfl hl.1 rfl (Nat.zero_le _) lz_l_1 ⟨Nat.le_of_ble_eq_true rfl, Nat.le_of_ble_eq_true rfl⟩
  refine vx_calli (a := ([.ref b] : List Value).toArray) hrun hS (fun q _ h => h) (fun q h => h) (fun q _ h => h) (fun E ce q9 u t H1 locs1 ht hal hp => hp.elim) (fun v u t H1 locs1 ht hal hp hB hz hk hS1 => ?_)
  have hv1 : v = 1 := hp
  subst hv1
  refine va_forget hS1.2.2 (W.widen (k := 600086) (n := 7301442) (Nat.le_of_ble_eq_true rfl) (Nat.le_of_ble_eq_true rfl) ?_)
  exact lw_ret hx hb hr hlocks lz_l_4
end LZL
set_option maxHeartbeats 4000000 in
theorem lw_walk (l : Launch) (hflags : l.flags = flags0) (b : Addr) (xs : List Int32) : MetFree l x (headSpec (Jvm.Cond.code x code maxLocals ret :: tables_1) room_1) (lw_P b xs) (fun _ _ _ _ _ => True) lw_Q := by
  refine MetFree.of_bodyS (code := code) (maxLocals := maxLocals) (ret := ret) (by decide) ?_ ?_
  · intro args s m h hn
    obtain ⟨meth, c, h1, h2, h3, h4, h5, h6, -, -⟩ := Cond.code_spec hn (atoms_spec (ws := Jvm.Cond.code x code maxLocals ret :: tables_1) h _ List.mem_cons_self)
    exact ⟨meth, c, h1, h2, h3, h4, h5, h6⟩
  · intro p e s m args below meth c s₁ B hml0 hP _
    obtain ⟨rfl, hx, hbd, hgv⟩ := hP
    obtain ⟨scr, harrAt, hlist, hof, hsmall⟩ := hx
    obtain ⟨hcb, hkn, -, -⟩ := State.arrayAt?_spec harrAt
    have hown : s.vm.findClass R_law = some m.cls := findClass_of_methodNamed B.named
    have hts0 : ∀ c ∈ (Jvm.Cond.code x code maxLocals ret :: tables_1), c.before #[Value.ref b] s = true := atoms_spec (ws := Jvm.Cond.code x code maxLocals ret :: tables_1) B.pre
    have hts : ∀ w ∈ lw_tbl, w.before #[Value.ref b] s = true := k2_hts_sels lw_privs (fun w hw => hts0 w (List.mem_cons_of_mem _ hw)) lw_privs_ok
    have hml : c.maxLocals = 1 := B.maxLocals_eq (hts0 _ List.mem_cons_self)
    have X₀ : Stand p l e room_1 s m #[Value.ref b] below meth c s₁ [] 0 0 := Stand.of_body B
    have hh0 : s₁.heap = s.heap := by rw [B.state]; rfl
    have hsz : scr.slots.size = xs.length := by rw [← Array.length_toList, hlist, List.length_map]
    have hval : ∀ j : Nat, j < xs.length → scr.slots[j]? = some (.int (xs.getD j 0)) := fun j hj => by
      rw [← Array.getElem?_toList, hlist]
      simp [hj]
    have hbl : b < s.heap.size := (Array.getElem?_eq_some_iff.mp hcb).1
    have hX : va_X b xs.length (fun j => xs.getD j 0) s s.heap := ⟨scr, hcb, hof, hkn, hsz, hval⟩
    have K : W p l e room_1 s m #[Value.ref b] below meth c s₁.heap [] 0 0 (lw_Z below #[Value.ref b] s) (entryFrame m ([Value.ref b] : List Value).toArray 1) := by
      rw [hh0]
      exact whole_start l hflags hbd ⟨B.exec, B.bytes, B.returns, hml, hown, hts, hX, hbl, B.notSynchronized, hgv⟩
    obtain ⟨t, a1, o, b1, b2, b3⟩ := K s₁ rfl X₀
    exact ⟨t, o, a1, b1, b2, b3⟩
theorem lw_pre_spec {args : Array Value} {s : State} (h : (Jvm.Cond.and given_1 narrow_1).before args s = true) (hr : rest_1_c.before args s = true) : ∃ (b : Addr) (xs : List Int32), lw_P b xs args s := by
  have hs := flat_of_before _ h
  have hq := flat_of_before _ hr
  have hc : (Cond.count 1).before args s = true := hs _ (by decide +kernel)
  have harr : (Cond.arrayOf (.arg 0) .int).before args s = true := hs _ (by decide +kernel)
  have hle : (Cond.le (.length (.arg 0)) (.int 260)).before args s = true := hs _ (by decide +kernel)
  have hlen : (Cond.isInt (.length (.arg 0))).before args s = true := hq _ (by decide +kernel)
  have hall : (Cond.all (.arg 0) (.isInt (.elem (.arg 0) (.index 0)))).before args s = true := hq _ (by decide +kernel)
  obtain ⟨b, xs, hb, hx⟩ := State.ints_of_pre rfl harr hlen hall
  have hsm : xs.length < 2 ^ 31 := hx.choose_spec.2.2.2
  have hev : (Term.length (.arg 0)).eval args s none [] s = some (.int xs.length.toInt32) := hx.length_eval hb
  have hv := Cond.le_ints hev (show (Term.int 260).eval args s none [] s = some (.int 260) from rfl)
  have hd : xs.length.toInt32 ≤ 260 := by
    simpa [Cond.before, Cond.holds, hv] using hle
  have hN : xs.length ≤ 260 := (Int32.ofNat_le_ofNat hsm (by decide)).mp (show Int32.ofNat xs.length ≤ Int32.ofNat 260 from hd)
  exact ⟨b, xs, Cond.one_arg hc (show args[0]? = some (.ref b) from hb), hx, hN, h⟩
theorem lw_comes (l : Launch) (hflags : l.flags = flags0) : Comes l x (Jvm.Cond.code x code maxLocals ret :: tables_1) room_1 (fun tb e args s => Calls_1 tb e args s ∧ rest_1 tb e args s ∧ Pre_1 tb e args s)
    (fun _ _ args s o t => lw_Q args s o t) := by
  intro p e ha hc hk s m args below hf hfit hheap happ hpre
  obtain ⟨b, xs, hP⟩ := lw_pre_spec hpre.2.2 hpre.2.1
  obtain ⟨k, o, h1, h2, h3, hQ⟩ := lw_walk l hflags b xs p e ha hc hk s m args below hf ((Spec.applies_iff_loose hf).mp happ).1 hP trivial
  exact ⟨k, o, h1, h2, h3, hQ⟩
theorem lw_frame {s t : State} {o : Outcome} {args : Array Value} (h : Framed s o t [] 600086 7301442) :
    Framed s o t (fieldLocs frame_1_writes args s ++ arrayLocs frame_1_arrays args s ++ staticLocs frame_1_statics s) 600086 7301442 := h
theorem lw_limb (L : Cond) (hL : ∀ (args : Array Value) (s t : State), L.after args s (.returned (some (.int 1))) t = true) :
    ArmFor flags0 classFile x code maxLocals ret World_1 tables_1 room_1 Calls_1 rest_1 Pre_1
      (fun tb e a s o t => postC L tb e a s o t ∧ Framed s o t (fieldLocs frame_1_writes a s ++ arrayLocs frame_1_arrays a s ++ staticLocs frame_1_statics s) 600086 7301442) := by
  intro l hflags _ _ p e ha hc hk s m args below hf hfit hheap happ hpre
  obtain ⟨k, o, h1, h2, h3, rfl, hF⟩ := lw_comes l hflags p e ha hc hk s m args below hf hfit hheap happ hpre
  exact ⟨k, _, h1, h2, h3, hL args s _, lw_frame hF⟩
theorem i_vc : Claimed_1_1 ∧ Claimed_1_2 := ⟨lw_limb limb_1_1 (fun args s t => by simp [limb_1_1, Cond.after, Cond.holds, Cond.value]), lw_limb limb_1_2 (fun args s t => Cond.after_iff.mpr (by
  first | (rw [show limb_1_2 = Cond.eq .result (.int 1) from rfl, Cond.eq_ints (x := 1) (y := 1) rfl rfl]; simp; done) | (simp [limb_1_2, Cond.value, Term.eval]; done)))⟩
