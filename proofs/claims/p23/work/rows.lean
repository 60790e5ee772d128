section
-- ===== PART A: goes FIRST, ahead of the names: the tables' words, and 'selects' of the private methods out of them =====
/-- a private method of a class that the tables say can be made, by its rows of tables_1 -/
def lw_okq (q : MethodName × Nat) : Prop := (q.1.cls ≠ "java/lang/invoke/MethodHandle" ∧ q.1.cls ≠ "java/lang/invoke/VarHandle") ∧ Cond.instantiable q.1.cls q.2 ∈ tables_1 ∧ Cond.privateMethod q.1 ∈ tables_1 ∧ Cond.instanceMethod q.1 ∈ tables_1
theorem lw_p0 : lw_okq (⟨"java/lang/Throwable", "fillInStackTrace", "(I)Ljava/lang/Throwable;"⟩, 6) := ⟨⟨by decide +kernel, by decide +kernel⟩, List.mem_of_getElem? (i := 340) (by decide +kernel), List.mem_of_getElem? (i := 338) (by decide +kernel), List.mem_of_getElem? (i := 339) (by decide +kernel)⟩
theorem lw_p1 : lw_okq (⟨"CrushLoad$Ways", "clean", "(I)V"⟩, 2) := ⟨⟨by decide +kernel, by decide +kernel⟩, List.mem_of_getElem? (i := 231) (by decide +kernel), List.mem_of_getElem? (i := 404) (by decide +kernel), List.mem_of_getElem? (i := 405) (by decide +kernel)⟩
theorem lw_p2 : lw_okq (⟨"CrushLoad$Ways", "lay", "(IIILCrushLoad$Links;)V"⟩, 2) := ⟨⟨by decide +kernel, by decide +kernel⟩, List.mem_of_getElem? (i := 231) (by decide +kernel), List.mem_of_getElem? (i := 408) (by decide +kernel), List.mem_of_getElem? (i := 409) (by decide +kernel)⟩
theorem lw_p3 : lw_okq (⟨"CrushLoad$Links", "isOpenTo", "(II)Z"⟩, 13) := ⟨⟨by decide +kernel, by decide +kernel⟩, List.mem_of_getElem? (i := 80) (by decide +kernel), List.mem_of_getElem? (i := 420) (by decide +kernel), List.mem_of_getElem? (i := 421) (by decide +kernel)⟩
theorem lw_p4 : lw_okq (⟨"CrushLoad$Links", "carries", "(II)Z"⟩, 13) := ⟨⟨by decide +kernel, by decide +kernel⟩, List.mem_of_getElem? (i := 80) (by decide +kernel), List.mem_of_getElem? (i := 424) (by decide +kernel), List.mem_of_getElem? (i := 425) (by decide +kernel)⟩
theorem lw_p5 : lw_okq (⟨"CrushLoad$Links", "goesForth", "(I)Z"⟩, 13) := ⟨⟨by decide +kernel, by decide +kernel⟩, List.mem_of_getElem? (i := 80) (by decide +kernel), List.mem_of_getElem? (i := 428) (by decide +kernel), List.mem_of_getElem? (i := 429) (by decide +kernel)⟩
theorem lw_p6 : lw_okq (⟨"CrushLoad$Links", "goesBack", "(I)Z"⟩, 13) := ⟨⟨by decide +kernel, by decide +kernel⟩, List.mem_of_getElem? (i := 80) (by decide +kernel), List.mem_of_getElem? (i := 432) (by decide +kernel), List.mem_of_getElem? (i := 433) (by decide +kernel)⟩
theorem lw_p7 : lw_okq (⟨"CrushLoad$Ways", "join", "(II)V"⟩, 2) := ⟨⟨by decide +kernel, by decide +kernel⟩, List.mem_of_getElem? (i := 231) (by decide +kernel), List.mem_of_getElem? (i := 439) (by decide +kernel), List.mem_of_getElem? (i := 440) (by decide +kernel)⟩
theorem lw_p8 : lw_okq (⟨"CrushLoad$Ways", "choose", "(IIILCrushLoad$Links;)V"⟩, 2) := ⟨⟨by decide +kernel, by decide +kernel⟩, List.mem_of_getElem? (i := 231) (by decide +kernel), List.mem_of_getElem? (i := 443) (by decide +kernel), List.mem_of_getElem? (i := 444) (by decide +kernel)⟩
theorem lw_p9 : lw_okq (⟨"CrushLoad", "needRoom", "(I)V"⟩, 2) := ⟨⟨by decide +kernel, by decide +kernel⟩, List.mem_of_getElem? (i := 25) (by decide +kernel), List.mem_of_getElem? (i := 452) (by decide +kernel), List.mem_of_getElem? (i := 453) (by decide +kernel)⟩
theorem lw_p10 : lw_okq (⟨"CrushLoad$Station", "goOutAtGoal", "(I)V"⟩, 10) := ⟨⟨by decide +kernel, by decide +kernel⟩, List.mem_of_getElem? (i := 33) (by decide +kernel), List.mem_of_getElem? (i := 515) (by decide +kernel), List.mem_of_getElem? (i := 516) (by decide +kernel)⟩
theorem lw_p11 : lw_okq (⟨"CrushLoad$Station", "arrive", "()V"⟩, 10) := ⟨⟨by decide +kernel, by decide +kernel⟩, List.mem_of_getElem? (i := 33) (by decide +kernel), List.mem_of_getElem? (i := 560) (by decide +kernel), List.mem_of_getElem? (i := 561) (by decide +kernel)⟩
theorem lw_p12 : lw_okq (⟨"CrushLoad$Station", "serve", "(I)V"⟩, 10) := ⟨⟨by decide +kernel, by decide +kernel⟩, List.mem_of_getElem? (i := 33) (by decide +kernel), List.mem_of_getElem? (i := 564) (by decide +kernel), List.mem_of_getElem? (i := 565) (by decide +kernel)⟩
theorem lw_p13 : lw_okq (⟨"CrushLoad$Station", "goAboard", "(II)V"⟩, 10) := ⟨⟨by decide +kernel, by decide +kernel⟩, List.mem_of_getElem? (i := 33) (by decide +kernel), List.mem_of_getElem? (i := 582) (by decide +kernel), List.mem_of_getElem? (i := 583) (by decide +kernel)⟩
theorem lw_p14 : lw_okq (⟨"CrushLoad$Station", "chooseNextLinks", "()V"⟩, 10) := ⟨⟨by decide +kernel, by decide +kernel⟩, List.mem_of_getElem? (i := 33) (by decide +kernel), List.mem_of_getElem? (i := 587) (by decide +kernel), List.mem_of_getElem? (i := 588) (by decide +kernel)⟩
theorem lw_p15 : lw_okq (⟨"CrushLoad$Station", "beginOn", "(I)V"⟩, 10) := ⟨⟨by decide +kernel, by decide +kernel⟩, List.mem_of_getElem? (i := 33) (by decide +kernel), List.mem_of_getElem? (i := 607) (by decide +kernel), List.mem_of_getElem? (i := 608) (by decide +kernel)⟩
def lw_privs_1 : List (MethodName × Nat) := [(⟨"java/lang/Throwable", "fillInStackTrace", "(I)Ljava/lang/Throwable;"⟩, 6), (⟨"CrushLoad$Ways", "clean", "(I)V"⟩, 2), (⟨"CrushLoad$Ways", "lay", "(IIILCrushLoad$Links;)V"⟩, 2), (⟨"CrushLoad$Links", "isOpenTo", "(II)Z"⟩, 13), (⟨"CrushLoad$Links", "carries", "(II)Z"⟩, 13), (⟨"CrushLoad$Links", "goesForth", "(I)Z"⟩, 13), (⟨"CrushLoad$Links", "goesBack", "(I)Z"⟩, 13), (⟨"CrushLoad$Ways", "join", "(II)V"⟩, 2), (⟨"CrushLoad$Ways", "choose", "(IIILCrushLoad$Links;)V"⟩, 2), (⟨"CrushLoad", "needRoom", "(I)V"⟩, 2), (⟨"CrushLoad$Station", "goOutAtGoal", "(I)V"⟩, 10), (⟨"CrushLoad$Station", "arrive", "()V"⟩, 10), (⟨"CrushLoad$Station", "serve", "(I)V"⟩, 10), (⟨"CrushLoad$Station", "goAboard", "(II)V"⟩, 10), (⟨"CrushLoad$Station", "chooseNextLinks", "()V"⟩, 10), (⟨"CrushLoad$Station", "beginOn", "(I)V"⟩, 10)]
theorem lw_r1 : ∀ q ∈ lw_privs_1, lw_okq q := List.forall_mem_cons.mpr ⟨lw_p0, List.forall_mem_cons.mpr ⟨lw_p1, List.forall_mem_cons.mpr ⟨lw_p2, List.forall_mem_cons.mpr ⟨lw_p3, List.forall_mem_cons.mpr ⟨lw_p4, List.forall_mem_cons.mpr ⟨lw_p5, List.forall_mem_cons.mpr ⟨lw_p6, List.forall_mem_cons.mpr ⟨lw_p7, List.forall_mem_cons.mpr ⟨lw_p8, List.forall_mem_cons.mpr ⟨lw_p9, List.forall_mem_cons.mpr ⟨lw_p10, List.forall_mem_cons.mpr ⟨lw_p11, List.forall_mem_cons.mpr ⟨lw_p12, List.forall_mem_cons.mpr ⟨lw_p13, List.forall_mem_cons.mpr ⟨lw_p14, List.forall_mem_cons.mpr ⟨lw_p15, fun _ h => absurd h List.not_mem_nil⟩⟩⟩⟩⟩⟩⟩⟩⟩⟩⟩⟩⟩⟩⟩⟩
theorem lw_p16 : lw_okq (⟨"CrushLoad$Station", "lineUp", "(I)V"⟩, 10) := ⟨⟨by decide +kernel, by decide +kernel⟩, List.mem_of_getElem? (i := 33) (by decide +kernel), List.mem_of_getElem? (i := 611) (by decide +kernel), List.mem_of_getElem? (i := 612) (by decide +kernel)⟩
theorem lw_p17 : lw_okq (⟨"CrushLoad$Station", "lineUpPerson", "(IZ)V"⟩, 10) := ⟨⟨by decide +kernel, by decide +kernel⟩, List.mem_of_getElem? (i := 33) (by decide +kernel), List.mem_of_getElem? (i := 616) (by decide +kernel), List.mem_of_getElem? (i := 617) (by decide +kernel)⟩
theorem lw_p18 : lw_okq (⟨"CrushLoad$Station", "beginTogether", "(II)V"⟩, 10) := ⟨⟨by decide +kernel, by decide +kernel⟩, List.mem_of_getElem? (i := 33) (by decide +kernel), List.mem_of_getElem? (i := 624) (by decide +kernel), List.mem_of_getElem? (i := 625) (by decide +kernel)⟩
theorem lw_p19 : lw_okq (⟨"CrushLoad$Station", "sizeOfReadyParty", "(II)I"⟩, 10) := ⟨⟨by decide +kernel, by decide +kernel⟩, List.mem_of_getElem? (i := 33) (by decide +kernel), List.mem_of_getElem? (i := 628) (by decide +kernel), List.mem_of_getElem? (i := 629) (by decide +kernel)⟩
theorem lw_p20 : lw_okq (⟨"CrushLoad$Station", "hasPlaceFor", "(III)Z"⟩, 10) := ⟨⟨by decide +kernel, by decide +kernel⟩, List.mem_of_getElem? (i := 33) (by decide +kernel), List.mem_of_getElem? (i := 636) (by decide +kernel), List.mem_of_getElem? (i := 637) (by decide +kernel)⟩
theorem lw_p21 : lw_okq (⟨"CrushLoad$Station", "begin", "(II)V"⟩, 10) := ⟨⟨by decide +kernel, by decide +kernel⟩, List.mem_of_getElem? (i := 33) (by decide +kernel), List.mem_of_getElem? (i := 653) (by decide +kernel), List.mem_of_getElem? (i := 654) (by decide +kernel)⟩
theorem lw_p22 : lw_okq (⟨"CrushLoad", "needLink", "(I)V"⟩, 2) := ⟨⟨by decide +kernel, by decide +kernel⟩, List.mem_of_getElem? (i := 25) (by decide +kernel), List.mem_of_getElem? (i := 693) (by decide +kernel), List.mem_of_getElem? (i := 694) (by decide +kernel)⟩
theorem lw_p23 : lw_okq (⟨"CrushLoad$Station", "takeNearestStreet", "(I)Z"⟩, 10) := ⟨⟨by decide +kernel, by decide +kernel⟩, List.mem_of_getElem? (i := 33) (by decide +kernel), List.mem_of_getElem? (i := 731) (by decide +kernel), List.mem_of_getElem? (i := 732) (by decide +kernel)⟩
theorem lw_p24 : lw_okq (⟨"CrushLoad", "needPerson", "(I)V"⟩, 2) := ⟨⟨by decide +kernel, by decide +kernel⟩, List.mem_of_getElem? (i := 25) (by decide +kernel), List.mem_of_getElem? (i := 764) (by decide +kernel), List.mem_of_getElem? (i := 765) (by decide +kernel)⟩
theorem lw_p25 : lw_okq (⟨"CrushLoad", "needTrain", "(I)V"⟩, 2) := ⟨⟨by decide +kernel, by decide +kernel⟩, List.mem_of_getElem? (i := 25) (by decide +kernel), List.mem_of_getElem? (i := 792) (by decide +kernel), List.mem_of_getElem? (i := 793) (by decide +kernel)⟩
def lw_privs_2 : List (MethodName × Nat) := [(⟨"CrushLoad$Station", "lineUp", "(I)V"⟩, 10), (⟨"CrushLoad$Station", "lineUpPerson", "(IZ)V"⟩, 10), (⟨"CrushLoad$Station", "beginTogether", "(II)V"⟩, 10), (⟨"CrushLoad$Station", "sizeOfReadyParty", "(II)I"⟩, 10), (⟨"CrushLoad$Station", "hasPlaceFor", "(III)Z"⟩, 10), (⟨"CrushLoad$Station", "begin", "(II)V"⟩, 10), (⟨"CrushLoad", "needLink", "(I)V"⟩, 2), (⟨"CrushLoad$Station", "takeNearestStreet", "(I)Z"⟩, 10), (⟨"CrushLoad", "needPerson", "(I)V"⟩, 2), (⟨"CrushLoad", "needTrain", "(I)V"⟩, 2)]
theorem lw_r2 : ∀ q ∈ lw_privs_2, lw_okq q := List.forall_mem_cons.mpr ⟨lw_p16, List.forall_mem_cons.mpr ⟨lw_p17, List.forall_mem_cons.mpr ⟨lw_p18, List.forall_mem_cons.mpr ⟨lw_p19, List.forall_mem_cons.mpr ⟨lw_p20, List.forall_mem_cons.mpr ⟨lw_p21, List.forall_mem_cons.mpr ⟨lw_p22, List.forall_mem_cons.mpr ⟨lw_p23, List.forall_mem_cons.mpr ⟨lw_p24, List.forall_mem_cons.mpr ⟨lw_p25, fun _ h => absurd h List.not_mem_nil⟩⟩⟩⟩⟩⟩⟩⟩⟩⟩
def lw_privs : List (MethodName × Nat) := lw_privs_1 ++ (lw_privs_2)
def lw_tbl : List Cond := k2_sels lw_privs ++ tables_1
theorem lw_privs_ok : ∀ q ∈ lw_privs, lw_okq q := by
  show ∀ q ∈ lw_privs_1 ++ (lw_privs_2), lw_okq q
  exact List.forall_mem_append.mpr ⟨lw_r1, lw_r2⟩
/-! ===== BEGIN words of one list among another's, by their places ===== -/
theorem goodIn_r {big : List Cond} (ws : List Cond) (ps : List Nat) (hp : ws = ps.filterMap (fun i => big[i]?)) (h : ws.all goodWord = true) : GoodIn big ws := by
  intro w hw
  have h1 := List.all_eq_true.mp h w hw
  rw [hp] at hw
  obtain ⟨i, -, hi⟩ := List.mem_filterMap.mp hw
  have hm : w ∈ big := by first | exact List.mem_of_getElem? hi | exact List.getElem?_mem hi
  exact ⟨hm, good_of_word h1⟩
theorem goodIn_app {big a b : List Cond} (ha : GoodIn big a) (hb : GoodIn big b) : GoodIn big (a ++ b) := fun w h => (List.mem_append.mp h).elim (ha w) (hb w)
theorem goodIn_ca {big a b : List Cond} {c : Cond} (ha : GoodIn big (c :: a)) (hb : GoodIn big b) : GoodIn big (c :: (a ++ b)) := fun w h => (List.mem_cons.mp h).elim (fun e => ha w (List.mem_cons.mpr (Or.inl e))) (fun h => (List.mem_append.mp h).elim (fun h => ha w (List.mem_cons.mpr (Or.inr h))) (hb w))
theorem goodIn_sub {big ws : List Cond} (hm : ∀ w ∈ ws, w ∈ big) (h : ws.all goodWord = true) : GoodIn big ws := fun w hw => ⟨hm w hw, good_of_word (List.all_eq_true.mp h w hw)⟩
/-! ===== END ===== -/

/-! ===== BEGIN exceptions that leave a method, and their catching by the caller (launches without stack traces) ===== -/
section VXA
/-! The laws vx_back, vx_callV, vx_callS, vx_callSW, vx_throw0, vx_throwS follow proofs of the library, with one case more: JvmDerived/Free/Laws.lean (Back.of_free), Shelf42/LK1.lean (callV, callS), Shelf/KitTraced.lean (throwNew0V, throwNewS). -/
/-- where a method has thrown q: the class by its name, the cell, what was written, the world -/
def vx_T (XC : String → State → State → Prop) (st : State) (q : Addr) (t : State) (mc ms : Nat) (free : Addr → Prop) : Prop :=
  ∃ (E : String) (ce : Cell) (L : List Loc), XC E st t ∧ t.heap[q]? = some ce ∧ ce.vm = .none ∧ st.vm.findClass E = some ce.cls ∧ st.WarmedH t.vm ∧ st.sameButNew ({ t with vm := st.vm } : State) L mc ms ∧ ∀ z ∈ L, free z.base
def vx_Q (Qc : Array Value → State → Outcome → State → Prop) (XC : String → State → State → Prop) (mc ms : Nat) (free : Addr → Prop) : Array Value → State → Outcome → State → Prop := fun a st o t =>
  (Qc a st o t ∧ ∃ L, FrameEnd st o t L mc ms ∧ ∀ q ∈ L, free q.base) ∨ ∃ q, o = .threw q ∧ vx_T XC st q t mc ms free
/-- a callee that returns or throws -/
def vx_Met (l : Launch) (y : MethodName) (ws : List Cond) (rm : Room) (Pc : Array Value → State → Prop) (Qc : Array Value → State → Outcome → State → Prop) (XC : String → State → State → Prop) (mc ms : Nat) (free : Addr → Prop) : Prop :=
  MetFree l y (headSpec ws rm) Pc (fun _ _ _ _ _ => True) (vx_Q Qc XC mc ms free)
def vx_Post (XC : String → State → State → Prop) (mc ms : Nat) (free : Addr → Prop) : Pt → Array Value → Addr → Pt → Prop := fun A a q B =>
  ∃ (g : JFrame) (mk : MethodId) (t : State) (L : List Loc) (E : String) (ce : Cell), B.U.heap = t.heap ∧ B.U.vm = t.vm ∧ XC E (A.U.calling g mk a) t ∧ t.heap[q]? = some ce ∧ ce.vm = .none ∧ A.U.vm.findClass E = some ce.cls ∧ B.locs = A.locs ++ L ∧ (∀ z ∈ L, free z.base) ∧ B.cells = A.cells + mc ∧ B.slots = A.slots + ms
def vx_Back (l : Launch) (R : Room) (p : Program) (e : Env) (below : List Frame) (s : State) (sargs : Array Value) (y : MethodName) (len W9 : Nat)
    (Pre : Pt → Array Value → Prop) (Post : Pt → Array Value → Option Value → Pt → Prop) (PostX : Pt → Array Value → Addr → Pt → Prop) : Prop :=
  ∀ (m : MethodId) (meth : Method) (c : Code) (A : Pt) (g : JFrame) (ig : Instr) (mk : MethodId) (a : Array Value),
    Stand p l e R s m sargs below meth c A.U A.locs A.cells A.slots → g.method = m → g.locals.size = c.maxLocals → decode c.code g.pc = .ok (ig, len) →
    2 * g.monitorRoom + (g.stack.map fun v => v.category).sum ≤ W9 → A.U.methodNamed? y = some mk → Pre A a →
    (∃ (v : Option Value) (B : Pt), Stand p l e R s m sargs below meth c B.U B.locs B.cells B.slots ∧ Post A a v B ∧
      Steps p.tables e below (doInvoke e (A.U.setTop g) [] mk a).1 (B.U.setTop { g with pc := g.pc + len, stack := v.toList ++ g.stack })) ∨
    (∃ (q : Addr) (B : Pt), Stand p l e R s m sargs below meth c B.U B.locs B.cells B.slots ∧ PostX A a q B ∧
      Steps p.tables e below (doInvoke e (A.U.setTop g) [] mk a).1 ((B.U.setTop g).pushFrame (.throwing q)))
section Payer
variable {l : Launch} {R : Room} {p : Program} {e : Env} {below : List Frame} {s : State} {sargs : Array Value} {y : MethodName} {len W9 : Nat}
theorem vx_back {ws : List Cond} {rm : Room} {Pc : Array Value → State → Prop} {Qc : Array Value → State → Outcome → State → Prop} {XC : String → State → State → Prop} {mc ms : Nat} {free : Addr → Prop} {bytes : ByteArray} {maxL : Nat} {ret : Option FieldType}
    (hM : vx_Met l y ws rm Pc Qc XC mc ms free) (hblind : FrameBlind Pc) (hrc : rm.cells = mc) (hrs : rm.slots = ms)
    (hframes : rm.frames + 1 ≤ R.frames) (hlocals : W9 + (maxL + 11) + rm.locals ≤ R.locals)
    (hws : ∀ w ∈ ws, ∀ a' U, s.WarmedH U.vm → w.before a' U = true) (hcode : Cond.code y bytes maxL ret ∈ ws) (hinit : ∀ a' U, s.WarmedH U.vm → (Cond.initialized y.cls).before a' U = true) :
    vx_Back l R p e below s sargs y len W9 (PreOf R mc ms Pc) (PostOf Qc mc ms free) (vx_Post XC mc ms free) := by
  intro m meth c A g ig mk a X hg hsize hdg hW hn hp
  have h1 : (headSpec ws rm).pre.before a A.U = true := atoms_intro fun w hw => hws w hw _ _ X.warmed
  have h2 : (Cond.code y bytes maxL ret).before a A.U = true := hws _ hcode _ _ X.warmed
  have h3 : (Cond.initialized y.cls).before a A.U = true := hinit _ _ X.warmed
  have h4 : A.cells + (headSpec ws rm).room.cells ≤ R.cells := by rw [show (headSpec ws rm).room.cells = mc from hrc]; exact hp.1
  have h5 : A.slots + (headSpec ws rm).room.slots ≤ R.slots := by rw [show (headSpec ws rm).room.slots = ms from hrs]; exact hp.2.1
  have hPc : Pc a (A.U.calling g mk a) := hblind _ _ _ _ hp.2.2
  obtain ⟨U, Ls, c0, s0⟩ := A
  dsimp only [Pt.U, Pt.locs, Pt.cells, Pt.slots] at h1 h2 h3 h4 h5 X hn hPc ⊢
  obtain ⟨methY, cY, hmY, hcY, -, hlY, -, -, -, -⟩ := Cond.code_spec hn h2
  obtain ⟨kY, hkY, -⟩ := className_of_methodNamed hn
  have hinitY : kY.init = .initialized := Cond.initialized_spec (findClass_of_methodNamed hn) hkY h3
  have h : At U g.method c below := by rw [hg]; exact X.here
  have hlocals9 : W9 + (maxL + 11) + (headSpec ws rm).room.locals ≤ R.locals := hlocals
  have happ : (headSpec ws rm).appliesLoose y e.platform (U.calling g mk a) = true :=
    Spec.appliesLoose_calling (g := g) h hdg hn hkY hinitY
      (X.room_calling (g := g) (R' := (headSpec ws rm).room) hsize hmY hcY hframes (by rw [hlY]; omega) h4 h5) h1
  obtain ⟨mid, hmid⟩ := h.above
  have hfr : (U.setTop g).frames = (.java g :: mid) ++ below := by rw [State.frames_setTop' g h.top, hmid]; rfl
  obtain ⟨o, s₂, hsteps, -, hend, hq⟩ := Steps.callFree hM p X.admits X.cas X.clock (acts := []) hfr happ hPc trivial
  have hq' : vx_Q Qc XC mc ms free a (U.calling g mk a) o s₂ := hq
  rw [State.frames_setTop' g h.top] at hend
  obtain ⟨g₀, hg0⟩ := Option.isSome_iff_exists.mp h.top
  obtain ⟨r, hr⟩ := State.topJava?_eq_some.mp hg0
  have hr' : (({ U with heap := s₂.heap, slotsUsed := s₂.slotsUsed } : State).setVm s₂.vm).frames = .java g₀ :: r := hr
  rcases hq' with ⟨hqc, L, hfe, hL⟩ | ⟨q, rfl, E, ce, L, hx, hce, hcv, hcl, hW₂, hsm, hL⟩
  · obtain ⟨⟨v, rfl⟩, hW₂, e2, q2, q3, q4, q5, q6⟩ := id hfe
    have e3 : s₂ = ({ (U.calling g mk a).setFrames s₂.frames with heap := s₂.heap, slotsUsed := s₂.slotsUsed } : State).setVm s₂.vm := by
      have : s₂ = ({ s₂ with vm := (U.calling g mk a).vm } : State).setVm s₂.vm := rfl
      rw [e2] at this
      exact this
    obtain ⟨c₂, i₂, len₂, hc₂, hd₂, hf₂⟩ := hend
    have hW' : U.WarmedH s₂.vm := hW₂
    have hcc : c₂ = c := by
      have h1 : s₂.code? g.method = U.code? g.method := by
        rw [State.code?_eq, State.code?_eq, hW'.alike.method?]
      exact Option.some.inj (hc₂.symm.trans (h1.trans h.code))
    subst hcc
    have hlen : len₂ = len := by rw [hdg] at hd₂; cases hd₂; rfl
    subst hlen
    have hs₂ : s₂ = (({ U with heap := s₂.heap, slotsUsed := s₂.slotsUsed } : State).setVm s₂.vm).setTop { g with pc := g.pc + len₂, stack := v.toList ++ g.stack } := by
      refine e3.trans ?_
      rw [hf₂, State.calling_eq h.top, State.setFrames_setFrames, State.setTop_of_frames _ hr', hr]
      rfl
    have hsame : U.sameButNew ({ U with heap := s₂.heap, slotsUsed := s₂.slotsUsed } : State) L mc ms := by
      refine ⟨?_, q2, q3, q4, q5, q6⟩
      obtain ⟨t, ht, -⟩ := State.frames_cons hr
      show ({ U with heap := s₂.heap, slotsUsed := s₂.slotsUsed } : State) = { U.setFrames U.frames with heap := s₂.heap, slotsUsed := s₂.slotsUsed }
      rw [State.setFrames_self ht]
    subst hg
    refine Or.inl ⟨v, ⟨(({ U with heap := s₂.heap, slotsUsed := s₂.slotsUsed } : State).setVm s₂.vm), Ls ++ L, c0 + mc, s0 + ms⟩,
      ⟨X.admits, X.cas, X.clock, X.frames, X.room, X.hears, X.method, X.code, (X.here.setHeapUsed s₂.heap s₂.slotsUsed).setVm hW'.alike, X.tail, State.WarmedH.trans X.warmed hW', X.limits, X.bytes, X.same.trans (hsame.setVm s.vm)⟩,
      ⟨g, mk, s₂, L, rfl, rfl, hqc, rfl, hL, rfl, rfl⟩, ?_⟩
    show Steps p.tables e below _ ((({ U with heap := s₂.heap, slotsUsed := s₂.slotsUsed } : State).setVm s₂.vm).setTop { g with pc := g.pc + len₂, stack := v.toList ++ g.stack })
    rw [← hs₂]
    exact hsteps
  · obtain ⟨e2, q2, q3, q4, q5, q6⟩ := id hsm
    have e3 : s₂ = ({ (U.calling g mk a).setFrames s₂.frames with heap := s₂.heap, slotsUsed := s₂.slotsUsed } : State).setVm s₂.vm := by
      have : s₂ = ({ s₂ with vm := (U.calling g mk a).vm } : State).setVm s₂.vm := rfl
      rw [e2] at this
      exact this
    have hf₂ : s₂.frames = .throwing q :: .java g :: U.frames.tail := hend
    have hW' : U.WarmedH s₂.vm := hW₂
    have hs₂ : s₂ = ((({ U with heap := s₂.heap, slotsUsed := s₂.slotsUsed } : State).setVm s₂.vm).setTop g).pushFrame (.throwing q) := by
      refine e3.trans ?_
      rw [hf₂, State.calling_eq h.top, State.setFrames_setFrames, State.pushFrame, State.frames_setTop _ hr', State.setTop_of_frames _ hr', State.setFrames_setFrames, hr]
      rfl
    have hsame : U.sameButNew ({ U with heap := s₂.heap, slotsUsed := s₂.slotsUsed } : State) L mc ms := by
      refine ⟨?_, q2, q3, q4, q5, q6⟩
      obtain ⟨t, ht, -⟩ := State.frames_cons hr
      show ({ U with heap := s₂.heap, slotsUsed := s₂.slotsUsed } : State) = { U.setFrames U.frames with heap := s₂.heap, slotsUsed := s₂.slotsUsed }
      rw [State.setFrames_self ht]
    subst hg
    refine Or.inr ⟨q, ⟨(({ U with heap := s₂.heap, slotsUsed := s₂.slotsUsed } : State).setVm s₂.vm), Ls ++ L, c0 + mc, s0 + ms⟩,
      ⟨X.admits, X.cas, X.clock, X.frames, X.room, X.hears, X.method, X.code, (X.here.setHeapUsed s₂.heap s₂.slotsUsed).setVm hW'.alike, X.tail, State.WarmedH.trans X.warmed hW', X.limits, X.bytes, X.same.trans (hsame.setVm s.vm)⟩,
      ⟨g, mk, s₂, L, E, ce, rfl, rfl, hx, hce, hcv, hcl, rfl, hL, rfl, rfl⟩, ?_⟩
    show Steps p.tables e below _ (((({ U with heap := s₂.heap, slotsUsed := s₂.slotsUsed } : State).setVm s₂.vm).setTop g).pushFrame (.throwing q))
    rw [← hs₂]
    exact hsteps
end Payer
section Calls
variable {p : Program} {l : Launch} {e : Env} {R : Room} {s : State} {m : MethodId} {args : Array Value} {below : List Frame} {meth : Method} {c : Code} {T : State} {locs : List Loc} {cells slots : Nat}
theorem vx_callV (X : Stand p l e R s m args below meth c T locs cells slots) (hexec : p.tables.exec = Jvm.exec) {own C : String} {index : Nat} {y : MethodName} {bytes : ByteArray} {maxL : Nat} {ret : Option FieldType}
    (hown : s.vm.findClass own = some m.cls) (hlink : (Cond.methodLink own index y).before args s = true) (hinst : (Cond.instanceMethod y).before args s = true) (hsel : (Cond.selects C y y).before args s = true)
    (hcode : (Cond.code y bytes maxL ret).before args s = true) (hy : y.cls ≠ "java/lang/invoke/MethodHandle" ∧ y.cls ≠ "java/lang/invoke/VarHandle")
    {W9 : Nat} {Pre : Pt → Array Value → Prop} {Post : Pt → Array Value → Option Value → Pt → Prop} {PostX : Pt → Array Value → Addr → Pt → Prop} (hK : vx_Back l R p e below s args y 3 W9 Pre Post PostX)
    {b : Addr} {cellB : Cell} (hcell : T.heap[b]? = some cellB) (hobj : cellB.vm.isStatics = false) (hcls : s.vm.findClass C = some cellB.cls)
    {g : JFrame} (hg : g.method = m) (hsize : g.locals.size = c.maxLocals) {argsL rest : List Value} (hlen : ∀ sig, parseMethodDescriptor y.desc = some sig → argsL.length = sig.parameters.length)
    (hstack : g.stack = argsL.reverse ++ .ref b :: rest) (hW : 2 * g.monitorRoom + (rest.map fun v => v.category).sum ≤ W9) (hdg : decode c.code g.pc = .ok (.invokevirtual index, 3))
    (hpre : ∀ vm₁, s.WarmedH vm₁ → Pre ⟨T.setVm vm₁, locs, cells, slots⟩ (Value.ref b :: argsL).toArray) :
    (∃ (v : Option Value) (vm₁ : Vm) (B : Pt), s.WarmedH vm₁ ∧ Stand p l e R s m args below meth c B.U B.locs B.cells B.slots ∧ Post ⟨T.setVm vm₁, locs, cells, slots⟩ (Value.ref b :: argsL).toArray v B ∧
      ∀ target, Steps p.tables e below (B.U.setTop { g with pc := g.pc + 3, stack := v.toList ++ rest }) target → Steps p.tables e below (T.setTop g) target) ∨
    (∃ (q : Addr) (vm₁ : Vm) (B : Pt), s.WarmedH vm₁ ∧ Stand p l e R s m args below meth c B.U B.locs B.cells B.slots ∧ PostX ⟨T.setVm vm₁, locs, cells, slots⟩ (Value.ref b :: argsL).toArray q B ∧
      Steps p.tables e below (T.setTop g) ((B.U.setTop { g with stack := rest }).pushFrame (.throwing q))) := by
  obtain ⟨mk, methM, hnamed, hmethM, hstM, habM⟩ := Cond.instanceMethod_spec hinst
  obtain ⟨methM', cM, hmethM', -, -, -, -, -, -, hsigM⟩ := Cond.code_spec hnamed hcode
  cases hmethM.symm.trans hmethM'
  obtain ⟨c2, r2, m2, q1, q2, q3, q4, kP, hkP, hkPi⟩ := Cond.selects_spec hsel
  cases hcls.symm.trans q1
  cases (State.methodFound?_of_named hnamed hy).symm.trans q2
  cases hnamed.symm.trans q3
  have hselP : selectMethod e.platform s.vm cellB.cls mk = .method mk := by rw [Launch.admits_selectMethod X.admits]; exact q4
  obtain ⟨vm₁, X₁, hstep₁⟩ := X.invokevirtual hexec hown hlink hnamed hmethM hstM hkP hkPi hy (a := b) (cell := cellB) hcell
    (fun z h => by rw [h] at hobj; cases hobj) hselP hmethM habM hkP hkPi (g := g) hg (argsL := argsL) (rest := rest) (hlen _ hsigM) hstack hdg
  rcases hK m meth c ⟨T.setVm vm₁, locs, cells, slots⟩ { g with stack := rest } (.invokevirtual index) mk (Value.ref b :: argsL).toArray X₁ hg hsize hdg hW (X₁.named hnamed) (hpre vm₁ X₁.warmed) with ⟨v, B, X', hpost, hsteps⟩ | ⟨q, B, X', hpost, hsteps⟩
  · exact Or.inl ⟨v, vm₁, B, X₁.warmed, X', hpost, fun target h => hstep₁ _ fun acts => by rw [doInvoke_state]; exact hsteps.trans h⟩
  · exact Or.inr ⟨q, vm₁, B, X₁.warmed, X', hpost, hstep₁ _ fun acts => by rw [doInvoke_state]; exact hsteps⟩
theorem vx_callS (X : Stand p l e R s m args below meth c T locs cells slots) (hexec : p.tables.exec = Jvm.exec) {own : String} {index : Nat} {y : MethodName} {bytes : ByteArray} {maxL : Nat} {ret : Option FieldType}
    (hown : s.vm.findClass own = some m.cls) (hlink : (Cond.methodLink own index y).before args s = true) (hstat : (Cond.static y).before args s = true) (hinit : (Cond.initialized y.cls).before args s = true)
    (hcode : (Cond.code y bytes maxL ret).before args s = true) (hy : y.cls ≠ "java/lang/invoke/MethodHandle" ∧ y.cls ≠ "java/lang/invoke/VarHandle")
    {W9 : Nat} {Pre : Pt → Array Value → Prop} {Post : Pt → Array Value → Option Value → Pt → Prop} {PostX : Pt → Array Value → Addr → Pt → Prop} (hK : vx_Back l R p e below s args y 3 W9 Pre Post PostX)
    {g : JFrame} (hg : g.method = m) (hsize : g.locals.size = c.maxLocals) {argsL rest : List Value} (hlen : ∀ sig, parseMethodDescriptor y.desc = some sig → argsL.length = sig.parameters.length)
    (hstack : g.stack = argsL.reverse ++ rest) (hW : 2 * g.monitorRoom + (rest.map fun v => v.category).sum ≤ W9) (hdg : decode c.code g.pc = .ok (.invokestatic index, 3))
    (hpre : ∀ vm₁, s.WarmedH vm₁ → Pre ⟨T.setVm vm₁, locs, cells, slots⟩ argsL.toArray) :
    (∃ (v : Option Value) (vm₁ : Vm) (B : Pt), s.WarmedH vm₁ ∧ Stand p l e R s m args below meth c B.U B.locs B.cells B.slots ∧ Post ⟨T.setVm vm₁, locs, cells, slots⟩ argsL.toArray v B ∧
      ∀ target, Steps p.tables e below (B.U.setTop { g with pc := g.pc + 3, stack := v.toList ++ rest }) target → Steps p.tables e below (T.setTop g) target) ∨
    (∃ (q : Addr) (vm₁ : Vm) (B : Pt), s.WarmedH vm₁ ∧ Stand p l e R s m args below meth c B.U B.locs B.cells B.slots ∧ PostX ⟨T.setVm vm₁, locs, cells, slots⟩ argsL.toArray q B ∧
      Steps p.tables e below (T.setTop g) ((B.U.setTop { g with stack := rest }).pushFrame (.throwing q))) := by
  obtain ⟨mk, hnamed⟩ := Cond.code_named hcode
  obtain ⟨methM, cM, hmethM, -, -, -, -, -, -, hsigM⟩ := Cond.code_spec hnamed hcode
  have hstatic : methM.isStatic = true := Cond.static_spec hnamed hmethM hstat
  obtain ⟨kP, hkP, -⟩ := className_of_methodNamed hnamed
  have hinitP : kP.init = .initialized := Cond.initialized_spec (findClass_of_methodNamed hnamed) hkP hinit
  obtain ⟨vm₁, X₁, hstep₁⟩ := X.invokestatic hexec hown hlink hnamed hmethM hstatic hkP hinitP hy (g := g) hg (argsL := argsL) (rest := rest) (hlen _ hsigM) hstack hdg
  rcases hK m meth c ⟨T.setVm vm₁, locs, cells, slots⟩ { g with stack := rest } (.invokestatic index) mk argsL.toArray X₁ hg hsize hdg hW (X₁.named hnamed) (hpre vm₁ X₁.warmed) with ⟨v, B, X', hpost, hsteps⟩ | ⟨q, B, X', hpost, hsteps⟩
  · exact Or.inl ⟨v, vm₁, B, X₁.warmed, X', hpost, fun target h => hstep₁ _ fun acts => by rw [doInvoke_state]; exact hsteps.trans h⟩
  · exact Or.inr ⟨q, vm₁, B, X₁.warmed, X', hpost, hstep₁ _ fun acts => by rw [doInvoke_state]; exact hsteps⟩
end Calls
theorem vx_cls {s : State} {T : State} {vm₁ : Vm} {E : String} {k : ClassId} (hW : s.WarmedH vm₁) (h : (T.setVm vm₁).vm.findClass E = some k) : s.vm.findClass E = some k := by
  have h1 : vm₁.findClass E = some k := h
  rw [hW.alike.findClass] at h1
  exact h1
/-- the method's frame g, with q thrown over it -/
def vx_W (p : Program) (l : Launch) (e : Env) (R : Room) (s : State) (m : MethodId) (args : Array Value) (below : List Frame) (meth : Method) (c : Code) (H : Heap) (locs : List Loc) (cells slots : Nat) (Q : State → Prop) (g : JFrame) (q : Addr) : Prop :=
  ∀ T : State, T.heap = H → Stand p l e R s m args below meth c T locs cells slots → ∃ t, Steps p.tables e below ((T.setTop g).pushFrame (.throwing q)) t ∧ Q t
def vx_Run (p : Program) (l : Launch) (e : Env) (R : Room) (s : State) (m : MethodId) (args : Array Value) (below : List Frame) (meth : Method) (c : Code) (H : Heap) (locs : List Loc) (cells slots mc ms : Nat) (g : JFrame) (rest : List Value) (Qa : State → Outcome → State → Prop) (XC : String → State → State → Prop) (free : Addr → Prop) : Prop :=
  ∀ T : State, T.heap = H → Stand p l e R s m args below meth c T locs cells slots →
    (∃ (v : Option Value) (st₀ t T' : State) (L : List Loc), st₀.heap = H ∧ Stand p l e R s m args below meth c T' (locs ++ L) (cells + mc) (slots + ms) ∧ (∀ q ∈ L, free q.base) ∧ T'.heap = t.heap ∧ T'.vm = t.vm ∧ Qa st₀ (.returned v) t ∧
      Goes p e below T g T' { g with pc := g.pc + 3, stack := v.toList ++ rest }) ∨
    (∃ (q : Addr) (st₀ t T' : State) (L : List Loc) (E : String) (ce : Cell), st₀.heap = H ∧ Stand p l e R s m args below meth c T' (locs ++ L) (cells + mc) (slots + ms) ∧ (∀ z ∈ L, free z.base) ∧ T'.heap = t.heap ∧ T'.vm = t.vm ∧ XC E st₀ t ∧ t.heap[q]? = some ce ∧ ce.vm = .none ∧ s.vm.findClass E = some ce.cls ∧
      Steps p.tables e below (T.setTop g) ((T'.setTop { g with stack := rest }).pushFrame (.throwing q)))
def vx_X {S : Type} (px : S → Prop) (B : String → S → State → Prop) (A : Nat → Prop) : String → State → State → Prop := fun E st t => ∃ u : S, px u ∧ B E u t ∧ va_F A st t
section Runs
variable {p : Program} {l : Launch} {e : Env} {R : Room} {s : State} {m : MethodId} {args : Array Value} {below : List Frame} {meth : Method} {c : Code} {H : Heap} {locs : List Loc} {cells slots : Nat}
variable {y : MethodName} {bytes cc : ByteArray} {maxL nL mc ms n index : Nat} {ret : Option FieldType} {ws : List Cond} {rm : Room} {Pc : Array Value → State → Prop} {Qc : Array Value → State → Outcome → State → Prop} {XC : String → State → State → Prop} {free : Addr → Prop} {Ts : List Cond} {own C : String} {b : Addr} {As rest : List Value} {g : JFrame}
theorem vx_callBack (cb : CallB R s args own index y bytes maxL ret ws rm mc ms n) (hM : vx_Met l y ws rm Pc Qc XC mc ms free) (hbl : FrameBlind Pc) : vx_Back l R p e below s args y 3 8 (PreOf R mc ms Pc) (PostOf Qc mc ms free) (vx_Post XC mc ms free) := by
  obtain ⟨hrc, hrs, hfr, hlo, hws, hcw, -, hini, -⟩ := cb
  exact vx_back (bytes := bytes) (maxL := maxL) (ret := ret) hM hbl hrc hrs hfr hlo hws hcw (fun a' U hW => word_at hW (Or.inl (by first | rfl | simp [Cond.onTables, Cond.keeps, Cond.steady])) hini)
theorem vx_runV (S : CallFix p m c cc nL s args Ts own) (hM : vx_Met l y ws rm Pc Qc XC mc ms free) (cw : CallW R s args own C index y bytes maxL ret ws rm mc ms n) (hp : PreV s H C b Pc As)
    (hg : g.method = m) (hn : As.length = n) (hsize : g.locals.size = nL) (hstack : g.stack = As.reverse ++ .ref b :: rest) (hW : 2 * g.monitorRoom + (rest.map fun v => v.category).sum ≤ 8) (hdg : decode cc g.pc = .ok (.invokevirtual index, 3)) (hf : cells + mc ≤ R.cells ∧ slots + ms ≤ R.slots) :
    vx_Run p l e R s m args below meth c H locs cells slots mc ms g rest (Qc (Value.ref b :: As).toArray) XC free := by
  have hK : vx_Back l R p e below s args y 3 8 (PreOf R mc ms Pc) (PostOf Qc mc ms free) (vx_Post XC mc ms free) := vx_callBack cw.1 hM hp.1
  obtain ⟨⟨-, -, -, -, -, -, hcode, -, hy, hlen, hl⟩, hin, hse⟩ := cw
  obtain ⟨hx, hb, hml, ho, -⟩ := S
  obtain ⟨-, ⟨cellB, hcB, hoB, hclB⟩, hPc⟩ := hp
  intro T hT X
  rcases vx_callV X hx (C := C) (bytes := bytes) (maxL := maxL) (ret := ret) ho hl hin hse hcode hy hK (by rw [hT]; exact hcB) hoB hclB hg (hsize.trans hml.symm) (argsL := As) (rest := rest) (fun sig h => hn.trans (hlen sig h)) hstack hW (by rw [hb]; exact hdg)
    (fun vm₁ hW₁ => ⟨hf.1, hf.2, hPc (T.setVm vm₁) hT hW₁⟩) with ⟨v, vm₁, ⟨U', l2, c2, s2⟩, hW₁, X', ⟨g', mk, t, L, e1, e2, hq, h1, hL, h2, h3⟩, st⟩ | ⟨q, vm₁, ⟨U', l2, c2, s2⟩, hW₁, X', ⟨g', mk, t, L, E, ce, e1, e2, hq, hce, hcv, hcl, h1, hL, h2, h3⟩, st⟩
  · dsimp only [Pt.U, Pt.locs, Pt.cells, Pt.slots] at X' e1 e2 h1 h2 h3 st
    subst h1; subst h2; subst h3
    exact Or.inl ⟨v, (T.setVm vm₁).calling g' mk (Value.ref b :: As).toArray, t, U', L, hT, X', hL, e1, e2, hq, st⟩
  · dsimp only [Pt.U, Pt.locs, Pt.cells, Pt.slots] at X' e1 e2 h1 h2 h3 st hcl
    subst h1; subst h2; subst h3
    exact Or.inr ⟨q, (T.setVm vm₁).calling g' mk (Value.ref b :: As).toArray, t, U', L, E, ce, hT, X', hL, e1, e2, hq, hce, hcv, vx_cls hW₁ hcl, st⟩
theorem vx_runS (S : CallFix p m c cc nL s args Ts own) (hM : vx_Met l y ws rm Pc Qc XC mc ms free) (cw : CallB R s args own index y bytes maxL ret ws rm mc ms n ∧ (Cond.static y).before args s = true) (hp : PreS s H Pc As)
    (hg : g.method = m) (hn : As.length = n) (hsize : g.locals.size = nL) (hstack : g.stack = As.reverse ++ rest) (hW : 2 * g.monitorRoom + (rest.map fun v => v.category).sum ≤ 8) (hdg : decode cc g.pc = .ok (.invokestatic index, 3)) (hf : cells + mc ≤ R.cells ∧ slots + ms ≤ R.slots) :
    vx_Run p l e R s m args below meth c H locs cells slots mc ms g rest (Qc As.toArray) XC free := by
  have hK : vx_Back l R p e below s args y 3 8 (PreOf R mc ms Pc) (PostOf Qc mc ms free) (vx_Post XC mc ms free) := vx_callBack cw.1 hM hp.1
  obtain ⟨⟨-, -, -, -, -, -, hcode, hini, hy, hlen, hl⟩, hstt⟩ := cw
  obtain ⟨hx, hb, hml, ho, -⟩ := S
  intro T hT X
  rcases vx_callS X hx (bytes := bytes) (maxL := maxL) (ret := ret) ho hl hstt hini hcode hy hK hg (hsize.trans hml.symm) (argsL := As) (rest := rest) (fun sig h => hn.trans (hlen sig h)) hstack hW (by rw [hb]; exact hdg)
    (fun vm₁ hW₁ => ⟨hf.1, hf.2, hp.2 (T.setVm vm₁) hT hW₁⟩) with ⟨v, vm₁, ⟨U', l2, c2, s2⟩, hW₁, X', ⟨g', mk, t, L, e1, e2, hq, h1, hL, h2, h3⟩, st⟩ | ⟨q, vm₁, ⟨U', l2, c2, s2⟩, hW₁, X', ⟨g', mk, t, L, E, ce, e1, e2, hq, hce, hcv, hcl, h1, hL, h2, h3⟩, st⟩
  · dsimp only [Pt.U, Pt.locs, Pt.cells, Pt.slots] at X' e1 e2 h1 h2 h3 st
    subst h1; subst h2; subst h3
    exact Or.inl ⟨v, (T.setVm vm₁).calling g' mk As.toArray, t, U', L, hT, X', hL, e1, e2, hq, st⟩
  · dsimp only [Pt.U, Pt.locs, Pt.cells, Pt.slots] at X' e1 e2 h1 h2 h3 st hcl
    subst h1; subst h2; subst h3
    exact Or.inr ⟨q, (T.setVm vm₁).calling g' mk As.toArray, t, U', L, E, ce, hT, X', hL, e1, e2, hq, hce, hcv, vx_cls hW₁ hcl, st⟩
end Runs
section Rows
variable {p : Program} {l : Launch} {e : Env} {R : Room} {s : State} {m : MethodId} {args : Array Value} {below : List Frame} {meth : Method} {c : Code} {H : Heap} {locs : List Loc} {cells slots : Nat} {Q : State → Prop}
variable {mc ms : Nat} {free : Addr → Prop} {A0 A1 : Nat → Prop} {H0 : Heap} {a : Array Value} {pc : Nat} {ls : Array Slot} {st0 rest : List Value}
theorem vx_keep {st₀ t T' : State} {L : List Loc} (h0 : st₀.heap = H) (e1 : T'.heap = t.heap) (hS : va_S A0 H0 H locs) (hA : ∀ q, q < H.size → A1 q → A0 q) (hf : ∀ q, free q → A0 q) (hL : ∀ q ∈ L, free q.base) (hF : va_F A1 st₀ t) :
    H.size ≤ T'.heap.size ∧ (∀ q : Nat, q < H.size → ¬ A1 q → T'.heap[q]? = H[q]?) ∧ va_S A0 H0 T'.heap (locs ++ L) := by
  obtain ⟨hz, hk⟩ := hF
  rw [h0] at hz hk
  exact ⟨by rw [e1]; exact hz, fun q h1 h2 => by rw [e1]; exact hk q h1 h2,
    ⟨Nat.le_trans hS.1 (by rw [e1]; exact hz), fun q h1 h2 => by rw [e1, hk q (Nat.lt_of_lt_of_le h1 hS.1) (fun z => h2 (hA q (Nat.lt_of_lt_of_le h1 hS.1) z))]; exact hS.2.1 q h1 h2, fun q hq => by
      rcases List.mem_append.mp hq with h | h
      · exact hS.2.2 q h
      · exact hf _ (hL q h)⟩⟩
theorem vx_calli {S SX : Type} {post : Int32 → S → Prop} {px : SX → Prop} {B : S → State → Prop} {BX : String → SX → State → Prop} {AX : Nat → Prop} (hr : vx_Run p l e R s m args below meth c H locs cells slots mc ms (F0 m pc ls st0) rest (va_Qi post B A1 a) (vx_X px BX AX) free) (hS : va_S A0 H0 H locs) (hA : ∀ q, q < H.size → A1 q → A0 q) (hf : ∀ q, free q → A0 q) (hAX : ∀ q, q < H.size → AX q → A0 q)
    (kx : ∀ (E : String) (ce : Cell) (q9 : Addr) (u : SX) (t : State) (H1 : Heap) (locs1 : List Loc), t.heap = H1 → s.vm.Alike t.vm → px u → BX E u t → H.size ≤ H1.size → (∀ q : Nat, q < H.size → ¬ AX q → H1[q]? = H[q]?) → va_S A0 H0 H1 locs1 → H1[q9]? = some ce → ce.vm = .none → s.vm.findClass E = some ce.cls → vx_W p l e R s m args below meth c H1 locs1 (cells + mc) (slots + ms) Q (F0 m pc ls rest) q9)
    (kk : ∀ (r : Int32) (u : S) (t : State) (H1 : Heap) (locs1 : List Loc), t.heap = H1 → s.vm.Alike t.vm → post r u → B u t → H.size ≤ H1.size → (∀ q : Nat, q < H.size → ¬ A1 q → H1[q]? = H[q]?) → va_S A0 H0 H1 locs1 → W p l e R s m args below meth c H1 locs1 (cells + mc) (slots + ms) Q (F0 m (pc + 3) ls (.int r :: rest))) : W p l e R s m args below meth c H locs cells slots Q (F0 m pc ls st0) := by
  intro T hT X
  rcases hr T hT X with ⟨v, st₀, t, T', L, h0, X', hL, e1, e2, ⟨⟨r, u, hv, hp, hb⟩, hF⟩, st⟩ | ⟨q, st₀, t, T', L, E, ce, h0, X', hL, e1, e2, ⟨u, hp, hb, hF⟩, hce, hcv, hcl, st⟩
  · cases hv
    obtain ⟨k1, k2, k3⟩ := vx_keep h0 e1 hS hA hf hL hF
    obtain ⟨t2, a1, b1⟩ := kk r u t T'.heap (locs ++ L) e1.symm (by rw [← e2]; exact X'.warmed.alike) hp hb k1 k2 k3 T' rfl X'
    exact ⟨t2, st t2 a1, b1⟩
  · obtain ⟨k1, k2, k3⟩ := vx_keep h0 e1 hS hAX hf hL hF
    obtain ⟨t2, a1, b1⟩ := kx E ce q u t T'.heap (locs ++ L) e1.symm (by rw [← e2]; exact X'.warmed.alike) hp hb k1 k2 k3 (by rw [e1]; exact hce) hcv hcl T' rfl X'
    exact ⟨t2, st.trans a1, b1⟩
theorem vx_calll {S SX : Type} {post : Int64 → S → Prop} {px : SX → Prop} {B : S → State → Prop} {BX : String → SX → State → Prop} {AX : Nat → Prop} (hr : vx_Run p l e R s m args below meth c H locs cells slots mc ms (F0 m pc ls st0) rest (va_Ql post B A1 a) (vx_X px BX AX) free) (hS : va_S A0 H0 H locs) (hA : ∀ q, q < H.size → A1 q → A0 q) (hf : ∀ q, free q → A0 q) (hAX : ∀ q, q < H.size → AX q → A0 q)
    (kx : ∀ (E : String) (ce : Cell) (q9 : Addr) (u : SX) (t : State) (H1 : Heap) (locs1 : List Loc), t.heap = H1 → s.vm.Alike t.vm → px u → BX E u t → H.size ≤ H1.size → (∀ q : Nat, q < H.size → ¬ AX q → H1[q]? = H[q]?) → va_S A0 H0 H1 locs1 → H1[q9]? = some ce → ce.vm = .none → s.vm.findClass E = some ce.cls → vx_W p l e R s m args below meth c H1 locs1 (cells + mc) (slots + ms) Q (F0 m pc ls rest) q9)
    (kk : ∀ (r : Int64) (u : S) (t : State) (H1 : Heap) (locs1 : List Loc), t.heap = H1 → s.vm.Alike t.vm → post r u → B u t → H.size ≤ H1.size → (∀ q : Nat, q < H.size → ¬ A1 q → H1[q]? = H[q]?) → va_S A0 H0 H1 locs1 → W p l e R s m args below meth c H1 locs1 (cells + mc) (slots + ms) Q (F0 m (pc + 3) ls (.long r :: rest))) : W p l e R s m args below meth c H locs cells slots Q (F0 m pc ls st0) := by
  intro T hT X
  rcases hr T hT X with ⟨v, st₀, t, T', L, h0, X', hL, e1, e2, ⟨⟨r, u, hv, hp, hb⟩, hF⟩, st⟩ | ⟨q, st₀, t, T', L, E, ce, h0, X', hL, e1, e2, ⟨u, hp, hb, hF⟩, hce, hcv, hcl, st⟩
  · cases hv
    obtain ⟨k1, k2, k3⟩ := vx_keep h0 e1 hS hA hf hL hF
    obtain ⟨t2, a1, b1⟩ := kk r u t T'.heap (locs ++ L) e1.symm (by rw [← e2]; exact X'.warmed.alike) hp hb k1 k2 k3 T' rfl X'
    exact ⟨t2, st t2 a1, b1⟩
  · obtain ⟨k1, k2, k3⟩ := vx_keep h0 e1 hS hAX hf hL hF
    obtain ⟨t2, a1, b1⟩ := kx E ce q u t T'.heap (locs ++ L) e1.symm (by rw [← e2]; exact X'.warmed.alike) hp hb k1 k2 k3 (by rw [e1]; exact hce) hcv hcl T' rfl X'
    exact ⟨t2, st.trans a1, b1⟩
theorem vx_callf {S SX : Type} {post : UInt32 → S → Prop} {px : SX → Prop} {B : S → State → Prop} {BX : String → SX → State → Prop} {AX : Nat → Prop} (hr : vx_Run p l e R s m args below meth c H locs cells slots mc ms (F0 m pc ls st0) rest (va_Qf post B A1 a) (vx_X px BX AX) free) (hS : va_S A0 H0 H locs) (hA : ∀ q, q < H.size → A1 q → A0 q) (hf : ∀ q, free q → A0 q) (hAX : ∀ q, q < H.size → AX q → A0 q)
    (kx : ∀ (E : String) (ce : Cell) (q9 : Addr) (u : SX) (t : State) (H1 : Heap) (locs1 : List Loc), t.heap = H1 → s.vm.Alike t.vm → px u → BX E u t → H.size ≤ H1.size → (∀ q : Nat, q < H.size → ¬ AX q → H1[q]? = H[q]?) → va_S A0 H0 H1 locs1 → H1[q9]? = some ce → ce.vm = .none → s.vm.findClass E = some ce.cls → vx_W p l e R s m args below meth c H1 locs1 (cells + mc) (slots + ms) Q (F0 m pc ls rest) q9)
    (kk : ∀ (r : UInt32) (u : S) (t : State) (H1 : Heap) (locs1 : List Loc), t.heap = H1 → s.vm.Alike t.vm → post r u → B u t → H.size ≤ H1.size → (∀ q : Nat, q < H.size → ¬ A1 q → H1[q]? = H[q]?) → va_S A0 H0 H1 locs1 → W p l e R s m args below meth c H1 locs1 (cells + mc) (slots + ms) Q (F0 m (pc + 3) ls (.float r :: rest))) : W p l e R s m args below meth c H locs cells slots Q (F0 m pc ls st0) := by
  intro T hT X
  rcases hr T hT X with ⟨v, st₀, t, T', L, h0, X', hL, e1, e2, ⟨⟨r, u, hv, hp, hb⟩, hF⟩, st⟩ | ⟨q, st₀, t, T', L, E, ce, h0, X', hL, e1, e2, ⟨u, hp, hb, hF⟩, hce, hcv, hcl, st⟩
  · cases hv
    obtain ⟨k1, k2, k3⟩ := vx_keep h0 e1 hS hA hf hL hF
    obtain ⟨t2, a1, b1⟩ := kk r u t T'.heap (locs ++ L) e1.symm (by rw [← e2]; exact X'.warmed.alike) hp hb k1 k2 k3 T' rfl X'
    exact ⟨t2, st t2 a1, b1⟩
  · obtain ⟨k1, k2, k3⟩ := vx_keep h0 e1 hS hAX hf hL hF
    obtain ⟨t2, a1, b1⟩ := kx E ce q u t T'.heap (locs ++ L) e1.symm (by rw [← e2]; exact X'.warmed.alike) hp hb k1 k2 k3 (by rw [e1]; exact hce) hcv hcl T' rfl X'
    exact ⟨t2, st.trans a1, b1⟩
theorem vx_calld {S SX : Type} {post : UInt64 → S → Prop} {px : SX → Prop} {B : S → State → Prop} {BX : String → SX → State → Prop} {AX : Nat → Prop} (hr : vx_Run p l e R s m args below meth c H locs cells slots mc ms (F0 m pc ls st0) rest (va_Qd post B A1 a) (vx_X px BX AX) free) (hS : va_S A0 H0 H locs) (hA : ∀ q, q < H.size → A1 q → A0 q) (hf : ∀ q, free q → A0 q) (hAX : ∀ q, q < H.size → AX q → A0 q)
    (kx : ∀ (E : String) (ce : Cell) (q9 : Addr) (u : SX) (t : State) (H1 : Heap) (locs1 : List Loc), t.heap = H1 → s.vm.Alike t.vm → px u → BX E u t → H.size ≤ H1.size → (∀ q : Nat, q < H.size → ¬ AX q → H1[q]? = H[q]?) → va_S A0 H0 H1 locs1 → H1[q9]? = some ce → ce.vm = .none → s.vm.findClass E = some ce.cls → vx_W p l e R s m args below meth c H1 locs1 (cells + mc) (slots + ms) Q (F0 m pc ls rest) q9)
    (kk : ∀ (r : UInt64) (u : S) (t : State) (H1 : Heap) (locs1 : List Loc), t.heap = H1 → s.vm.Alike t.vm → post r u → B u t → H.size ≤ H1.size → (∀ q : Nat, q < H.size → ¬ A1 q → H1[q]? = H[q]?) → va_S A0 H0 H1 locs1 → W p l e R s m args below meth c H1 locs1 (cells + mc) (slots + ms) Q (F0 m (pc + 3) ls (.double r :: rest))) : W p l e R s m args below meth c H locs cells slots Q (F0 m pc ls st0) := by
  intro T hT X
  rcases hr T hT X with ⟨v, st₀, t, T', L, h0, X', hL, e1, e2, ⟨⟨r, u, hv, hp, hb⟩, hF⟩, st⟩ | ⟨q, st₀, t, T', L, E, ce, h0, X', hL, e1, e2, ⟨u, hp, hb, hF⟩, hce, hcv, hcl, st⟩
  · cases hv
    obtain ⟨k1, k2, k3⟩ := vx_keep h0 e1 hS hA hf hL hF
    obtain ⟨t2, a1, b1⟩ := kk r u t T'.heap (locs ++ L) e1.symm (by rw [← e2]; exact X'.warmed.alike) hp hb k1 k2 k3 T' rfl X'
    exact ⟨t2, st t2 a1, b1⟩
  · obtain ⟨k1, k2, k3⟩ := vx_keep h0 e1 hS hAX hf hL hF
    obtain ⟨t2, a1, b1⟩ := kx E ce q u t T'.heap (locs ++ L) e1.symm (by rw [← e2]; exact X'.warmed.alike) hp hb k1 k2 k3 (by rw [e1]; exact hce) hcv hcl T' rfl X'
    exact ⟨t2, st.trans a1, b1⟩
theorem vx_callv {S SX : Type} {post : S → Prop} {px : SX → Prop} {B : S → State → Prop} {BX : String → SX → State → Prop} {AX : Nat → Prop} (hr : vx_Run p l e R s m args below meth c H locs cells slots mc ms (F0 m pc ls st0) rest (va_Qv post B A1 a) (vx_X px BX AX) free) (hS : va_S A0 H0 H locs) (hA : ∀ q, q < H.size → A1 q → A0 q) (hf : ∀ q, free q → A0 q) (hAX : ∀ q, q < H.size → AX q → A0 q)
    (kx : ∀ (E : String) (ce : Cell) (q9 : Addr) (u : SX) (t : State) (H1 : Heap) (locs1 : List Loc), t.heap = H1 → s.vm.Alike t.vm → px u → BX E u t → H.size ≤ H1.size → (∀ q : Nat, q < H.size → ¬ AX q → H1[q]? = H[q]?) → va_S A0 H0 H1 locs1 → H1[q9]? = some ce → ce.vm = .none → s.vm.findClass E = some ce.cls → vx_W p l e R s m args below meth c H1 locs1 (cells + mc) (slots + ms) Q (F0 m pc ls rest) q9)
    (kk : ∀ (u : S) (t : State) (H1 : Heap) (locs1 : List Loc), t.heap = H1 → s.vm.Alike t.vm → post u → B u t → H.size ≤ H1.size → (∀ q : Nat, q < H.size → ¬ A1 q → H1[q]? = H[q]?) → va_S A0 H0 H1 locs1 → W p l e R s m args below meth c H1 locs1 (cells + mc) (slots + ms) Q (F0 m (pc + 3) ls (rest))) : W p l e R s m args below meth c H locs cells slots Q (F0 m pc ls st0) := by
  intro T hT X
  rcases hr T hT X with ⟨v, st₀, t, T', L, h0, X', hL, e1, e2, ⟨⟨u, hv, hp, hb⟩, hF⟩, st⟩ | ⟨q, st₀, t, T', L, E, ce, h0, X', hL, e1, e2, ⟨u, hp, hb, hF⟩, hce, hcv, hcl, st⟩
  · cases hv
    obtain ⟨k1, k2, k3⟩ := vx_keep h0 e1 hS hA hf hL hF
    obtain ⟨t2, a1, b1⟩ := kk u t T'.heap (locs ++ L) e1.symm (by rw [← e2]; exact X'.warmed.alike) hp hb k1 k2 k3 T' rfl X'
    exact ⟨t2, st t2 a1, b1⟩
  · obtain ⟨k1, k2, k3⟩ := vx_keep h0 e1 hS hAX hf hL hF
    obtain ⟨t2, a1, b1⟩ := kx E ce q u t T'.heap (locs ++ L) e1.symm (by rw [← e2]; exact X'.warmed.alike) hp hb k1 k2 k3 (by rw [e1]; exact hce) hcv hcl T' rfl X'
    exact ⟨t2, st.trans a1, b1⟩
/-- caught by the row x of this method's table; the rows ahead don't take it -/
theorem vx_catch {own name : String} {E : String} {ce : Cell} {q : Addr} (hown : s.vm.findClass own = some m.cls) (pre : List ExceptionTableEntry) (x : ExceptionTableEntry) (suf : List ExceptionTableEntry) (hsplit : c.exceptionTable.toList = pre ++ x :: suf)
    (hpass : ∀ z ∈ pre, covers z pc = false ∨ (z.catchType ≠ 0 ∧ ∃ nm : String, (Cond.classLink own z.catchType nm).before args s = true ∧ va_Nc E nm s)) (hx : covers x pc = true) (h0 : x.catchType ≠ 0)
    (hlink : (Cond.classLink own x.catchType name).before args s = true) (hcast : (Cond.castable E name).before args s = true) (hcell : H[q]? = some ce) (hv : ce.vm = .none) (hcl : s.vm.findClass E = some ce.cls)
    (kk : W p l e R s m args below meth c H locs cells slots Q (F0 m x.handlerPc ls [.ref q])) : vx_W p l e R s m args below meth c H locs cells slots Q (F0 m pc ls rest) q := by
  intro T hT X
  have hpl : e.platform.magicAccessors = ({} : Platform).magicAccessors := by rw [X.admits.platform]
  obtain ⟨c3, c4, hc3, hc4, hasg⟩ := Cond.castable_spec hcast
  cases Option.some.inj (hc3.symm.trans hcl)
  obtain ⟨c5, hc5, hcl5⟩ := Cond.classLink_spec hown hlink e.platform hpl
  cases Option.some.inj (hc4.symm.trans hc5)
  obtain ⟨vm', X', st⟩ := X.thenCaughtThrough q (g := F0 m pc ls rest) rfl (Steps.refl _) (by rw [hT]; exact hcell) (by rw [hv]; rfl) (by obtain ⟨k9, h9, -⟩ := Vm.findClass_spec hcl; exact ⟨k9, h9⟩) pre x suf hsplit
    (fun z hz => by
      rcases hpass z hz with h | ⟨hz0, nm, hl1, hn1⟩
      · exact Or.inl h
      · obtain ⟨c6, hc6, hcl6⟩ := Cond.classLink_spec hown hl1 e.platform hpl
        obtain ⟨a8, b8, h1, h2, h3⟩ := hn1
        cases Option.some.inj (h1.symm.trans hcl)
        cases Option.some.inj (h2.symm.trans hc6)
        exact Or.inr ⟨hz0, _, hcl6, h3⟩) hx (Or.inr ⟨h0, c4, hcl5, hasg⟩)
  obtain ⟨t, a1, b1⟩ := kk (T.setVm vm') hT X'
  exact ⟨t, st.trans a1, b1⟩
end Rows
section Ends
variable {p : Program} {l : Launch} {e : Env} {R : Room} {s : State} {m : MethodId} {args : Array Value} {below : List Frame} {meth : Method} {c : Code} {H : Heap} {locs : List Loc} {cells slots : Nat} {Q : State → Prop}
variable {mc ms : Nat} {free : Addr → Prop} {A0 A1 : Nat → Prop} {H0 : Heap} {a : Array Value} {ls : Array Slot} {st0 rest : List Value}
variable {Qc : Array Value → State → Outcome → State → Prop} {XC : String → State → State → Prop}
/-- what a body that may throw owes at its end -/
def vx_MQ (below : List Frame) (Qc : Array Value → State → Outcome → State → Prop) (XC : String → State → State → Prop) (a : Array Value) (s : State) (mc ms : Nat) (free : Addr → Prop) : State → Prop := fun t =>
  ∃ o, t.status = .running ∧ Ended t below o ∧ vx_Q Qc XC mc ms free a s o t
theorem vx_ret {g : JFrame} {mc ms : Nat} (k : W p l e R s m args below meth c H locs cells slots (MQ below Qc args s mc ms free) g) : W p l e R s m args below meth c H locs cells slots (vx_MQ below Qc XC args s mc ms free) g := by
  intro T hT X
  obtain ⟨t, a1, o, b1, b2, b3, b4⟩ := k T hT X
  exact ⟨t, a1, o, b1, b2, Or.inl ⟨b3, b4⟩⟩
/-- not caught here: it goes on to the caller -/
theorem vx_widen {g : JFrame} {q : Addr} {k n : Nat} (h1 : cells ≤ k) (h2 : slots ≤ n) (kk : vx_W p l e R s m args below meth c H locs k n Q g q) : vx_W p l e R s m args below meth c H locs cells slots Q g q := fun T hT X => kk T hT (stand_widen X h1 h2)
theorem vx_out {pc : Nat} {E : String} {ce : Cell} {q : Addr} {mc ms : Nat} (hout : ∀ x ∈ c.exceptionTable.toList, covers x pc = false) (hlocks : meth.locks = false) (hcell : H[q]? = some ce) (hv : ce.vm = .none) (hcl : s.vm.findClass E = some ce.cls)
    (hx : ∀ t : State, t.heap = H → s.vm.Alike t.vm → XC E s t) (hf : ∀ z ∈ locs, free z.base) (hc : cells ≤ mc) (hs : slots ≤ ms) :
    vx_W p l e R s m args below meth c H locs cells slots (vx_MQ below Qc XC args s mc ms free) (F0 m pc ls rest) q := by
  intro T hT X
  obtain ⟨st1, hrun, hend, hW, hsm⟩ := X.leaveThrown q (g := F0 m pc ls rest) rfl rfl rfl hout hlocks
  have hcell9 : (T.setFrames (.throwing q :: below)).heap[q]? = some ce := by
    show T.heap[q]? = some ce
    rw [hT]; exact hcell
  exact ⟨_, st1, .threw q, hrun, hend, Or.inr ⟨q, rfl, E, ce, locs, hx _ hT hW.alike, hcell9, hv, hcl, hW, hsm.mono hc hs, hf⟩⟩
theorem vx_frame {U : State} {k n : Nat} (h : s.sameButNew ({ U with vm := s.vm } : State) locs k n) : s.heap.size ≤ U.heap.size ∧ ∀ q : Nat, q < s.heap.size → (∀ z ∈ locs, z.base ≠ q) → U.heap[q]? = s.heap[q]? := by
  obtain ⟨-, h2, -, -, -, h6⟩ := h
  refine ⟨h2, fun q hq hz => ?_⟩
  obtain ⟨c9, e1, e2, e3, e4⟩ := h6 q _ (Array.getElem?_eq_getElem hq)
  have hs : c9.slots = (s.heap[q]).slots := Array.ext_getElem? fun i => e4 i fun hm => hz _ hm rfl
  have h9 : c9 = s.heap[q] := by
    rw [hs] at e2
    exact e2
  have e5 : U.heap[q]? = some c9 := e1
  rw [e5, h9, Array.getElem?_eq_getElem hq]
/-- the words of a throw but the four that speak of the heap -/
def vx_no (w : Cond) : Bool := decide (w ≠ .isRef (.static Bundle.tN "UNASSIGNED_STACK" Bundle.steD)) && decide (w ≠ .isRef (.static Bundle.tN "SUPPRESSED_SENTINEL" Bundle.listD)) && decide (w ≠ .laysStatic Bundle.tN "UNASSIGNED_STACK" Bundle.steD) && decide (w ≠ .laysStatic Bundle.tN "SUPPRESSED_SENTINEL" Bundle.listD)
def vx_at0 (own : String) (ic : Nat) (X : String) (names : List String) : List Cond := (Bundle.ownAtoms0 own ic X names).filter vx_no
def vx_atS (own : String) (ic : Nat) (X : String) (names : List String) : List Cond := (Bundle.ownAtoms own ic X names).filter vx_no
/-- a word that the tables alone decide, or a good one -/
def vx_ot (w : Cond) : Bool := w.onTables || goodWord w
theorem vx_ot_at {args a' : Array Value} {s U : State} {w : Cond} (hW : s.WarmedH U.vm) (hvm : s.vm = U.vm) (hg : vx_ot w = true) (h : w.before args s = true) : w.before a' U = true := by
  simp only [vx_ot, Bool.or_eq_true] at hg
  rcases hg with hg | hg
  · exact va_tabs hg hvm h
  · exact word_at hW (good_of_word hg) h
/-- a list's words: the good ones out of the method's own list, the others by premises of their own -/
theorem vx_hat {args : Array Value} {s : State} {L B : List Cond} (h1 : ∀ w ∈ L.filter goodWord, w.before args s = true) (h2 : ∀ w ∈ L.filter (fun w => !goodWord w), w ∈ B) (h3 : ∀ w ∈ B, w.before args s = true) : ∀ w ∈ L, w.before args s = true := by
  intro w hw
  by_cases g : goodWord w = true
  · exact h1 w (List.mem_filter.mpr ⟨hw, g⟩)
  · refine h3 w (h2 w (List.mem_filter.mpr ⟨hw, ?_⟩))
    show (!goodWord w) = true
    cases hgw : goodWord w
    · rfl
    · exact absurd hgw g
theorem vx_c {args : Array Value} {s : State} {w : Cond} {B : List Cond} (h : w.before args s = true) (t : ∀ w ∈ B, w.before args s = true) : ∀ w' ∈ w :: B, w'.before args s = true := fun w' h' => (List.mem_cons.mp h').elim (fun e => by rw [e]; exact h) (t w')
theorem vx_n {args : Array Value} {s : State} : ∀ w ∈ ([] : List Cond), w.before args s = true := fun _ h => nomatch h
theorem vx_own {args : Array Value} {s : State} {L : List Cond} (h1 : ∀ w ∈ L.filter vx_no, w.before args s = true)
    (hU : (Cond.isRef (.static Bundle.tN "UNASSIGNED_STACK" Bundle.steD)).before args s = true) (hN : (Cond.isRef (.static Bundle.tN "SUPPRESSED_SENTINEL" Bundle.listD)).before args s = true)
    (lU : (Cond.laysStatic Bundle.tN "UNASSIGNED_STACK" Bundle.steD).before args s = true) (lN : (Cond.laysStatic Bundle.tN "SUPPRESSED_SENTINEL" Bundle.listD).before args s = true) : ∀ w ∈ L, w.before args s = true := by
  intro w hw
  by_cases e1 : w = .isRef (.static Bundle.tN "UNASSIGNED_STACK" Bundle.steD)
  · rw [e1]; exact hU
  · by_cases e2 : w = .isRef (.static Bundle.tN "SUPPRESSED_SENTINEL" Bundle.listD)
    · rw [e2]; exact hN
    · by_cases e3 : w = .laysStatic Bundle.tN "UNASSIGNED_STACK" Bundle.steD
      · rw [e3]; exact lU
      · by_cases e4 : w = .laysStatic Bundle.tN "SUPPRESSED_SENTINEL" Bundle.listD
        · rw [e4]; exact lN
        · exact h1 w (List.mem_filter.mpr ⟨hw, by unfold vx_no; rw [decide_eq_true e1, decide_eq_true e2, decide_eq_true e3, decide_eq_true e4]; rfl⟩)
/-- where a static field lies, its class's statics cell in H -/
def vx_L (C n d : String) (A : Nat → Prop) (U : State) (H : Heap) : Prop := ∃ (c : ClassId) (k : Class) (i : Nat) (f : Field) (a : Nat) (cell : Cell), U.vm.findClass C = some c ∧ U.fieldFound? C n d = some (c, k, i, f) ∧ f.isStatic = true ∧ k.statics = some a ∧ H[a]? = some cell ∧ cell.vm.isStatics = true ∧ cell.cls = c ∧ f.slot < cell.slots.size ∧ k.staticTypes[f.slot]? = some f.type ∧ ¬ A a
theorem vx_L.moved {C n d : String} {A : Nat → Prop} {u U : State} {H : Heap} (hvm : u.vm.Alike U.vm) (h : vx_L C n d A u H) : vx_L C n d A U H := by
  obtain ⟨c, k, i, f, a, cell, h1, h2, h3, h4, h5, h6, h7, h8, h9, h10⟩ := h
  obtain ⟨k', hi', he⟩ := State.fieldFound?_setVm hvm h2
  exact ⟨c, k', i, f, a, cell, by rw [hvm.findClass]; exact h1, hi', h3, by rw [he]; exact h4, h5, h6, h7, h8, by rw [he]; exact h9, h10⟩
theorem vx_L.kept {C n d : String} {A : Nat → Prop} {U : State} {H H1 : Heap} (h : vx_L C n d A U H) (hq : ∀ a : Nat, a < H.size → ¬ A a → H1[a]? = H[a]?) : vx_L C n d A U H1 := by
  obtain ⟨c, k, i, f, a, cell, h1, h2, h3, h4, h5, h6, h7, h8, h9, h10⟩ := h
  exact ⟨c, k, i, f, a, cell, h1, h2, h3, h4, by rw [hq a (Array.getElem?_eq_some_iff.mp h5).1 h10]; exact h5, h6, h7, h8, h9, h10⟩
theorem vx_L.narrow {C n d : String} {A B : Nat → Prop} {U : State} {H : Heap} (h : vx_L C n d A U H) (hAB : ∀ q, B q → A q) : vx_L C n d B U H := by
  obtain ⟨c, k, i, f, a, cell, h1, h2, h3, h4, h5, h6, h7, h8, h9, h10⟩ := h
  exact ⟨c, k, i, f, a, cell, h1, h2, h3, h4, h5, h6, h7, h8, h9, fun z => h10 (hAB _ z)⟩
theorem vx_L.word {C n d : String} {A : Nat → Prop} {s : State} {args : Array Value} (h : vx_L C n d A s s.heap) : (Cond.laysStatic C n d).before args s = true := by
  obtain ⟨c, k, i, f, a, cell, h1, h2, h3, h4, h5, h6, h7, h8, h9, -⟩ := h
  show (Cond.laysStatic C n d).holds args s none s [] = true
  exact Cond.laysStatic_of h1 h2 h3 h4 h5 h6 h7 h8 h9
/-- .. and what it holds: null or some reference -/
def vx_Zq (C n d : String) (A : Nat → Prop) (U : State) (H : Heap) : Prop := va_Zq C n d A U H ∧ vx_L C n d A U H
theorem vx_Zq.moved {C n d : String} {A : Nat → Prop} {u U : State} {H : Heap} (hvm : u.vm.Alike U.vm) (h : vx_Zq C n d A u H) : vx_Zq C n d A U H := ⟨va_Zq.moved hvm h.1, vx_L.moved hvm h.2⟩
theorem vx_Zq.kept {C n d : String} {A : Nat → Prop} {U : State} {H H1 : Heap} (h : vx_Zq C n d A U H) (hq : ∀ a : Nat, a < H.size → ¬ A a → H1[a]? = H[a]?) : vx_Zq C n d A U H1 := ⟨va_Zq.kept h.1 hq, vx_L.kept h.2 hq⟩
theorem vx_Zq.narrow {C n d : String} {A B : Nat → Prop} {U : State} {H : Heap} (h : vx_Zq C n d A U H) (hAB : ∀ q, B q → A q) : vx_Zq C n d B U H := ⟨va_Zq.narrow h.1 hAB, vx_L.narrow h.2 hAB⟩
theorem vx_Zqof {args : Array Value} {s : State} {C n d : String} {A : Nat → Prop} (hl : (Cond.laysStatic C n d).before args s = true) (hini : (Cond.initialized C).before args s = true) (h : (Cond.isRef (.static C n d)).before args s = true) (hA : ∀ a : Nat, a < s.heap.size → ¬ A a) : vx_Zq C n d A s s.heap := by
  refine ⟨va_Zqof hl hini h hA, ?_⟩
  obtain ⟨c, k, i, f, a, cell, h1, h2, h3, h4, h5, h6, h7, h8, h9⟩ := Cond.laysStatic_spec hl
  exact ⟨c, k, i, f, a, cell, h1, h2, h3, h4, h5, h6, h7, h8, h9, hA a (Array.getElem?_eq_some_iff.mp h5).1⟩
theorem vx_isRef {C n d : String} {v : Value} {A : Nat → Prop} {s : State} {args : Array Value} (h : va_Z C n d v A s s.heap) (hv : v.isRef = true) : (Cond.isRef (.static C n d)).before args s = true := by
  obtain ⟨cf, kf, fi, f, a, cell, h1, h2, h3, h4, h5, h6, h7, -⟩ := h
  have he : (Term.static C n d).eval args s none [] s = some v := by
    simp [Term.eval, State.fieldNamed?, h1, h2, h4, h5, h6, h7]
  simp only [Cond.before, Cond.holds, Cond.value, he]
  cases v <;> simp_all [Value.isRef]
theorem vx_isRefq {C n d : String} {A : Nat → Prop} {s : State} {args : Array Value} (h : va_Zq C n d A s s.heap) : (Cond.isRef (.static C n d)).before args s = true := by
  rcases h with h | ⟨t, h⟩
  · exact vx_isRef h rfl
  · exact vx_isRef h rfl
/-- the same frame, seen from here: as if the method were called anew in this heap -/
theorem vx_rebase {T : State} (X : Stand p l e R s m args below meth c T locs cells slots) {R' : Room} (hf : R'.frames ≤ R.frames) (hl : R'.locals ≤ R.locals) (hc : cells + R'.cells ≤ R.cells) (hs : slots + R'.slots ≤ R.slots) :
    Stand p l e R' ((T.setVm s.vm).setFrames (.invoking m args :: below)) m args below meth c T [] 0 0 := by
  have htop : (T.setVm s.vm).topJava?.isSome := X.here.top
  have hF : ((T.setVm s.vm).setFrames (.invoking m args :: below)).frames = .invoking m args :: below := State.frames_setFrames _ (State.cur_lt_of_top htop)
  obtain ⟨g₀, hg0⟩ := Option.isSome_iff_exists.mp htop
  obtain ⟨r, hr⟩ := State.topJava?_eq_some.mp hg0
  have hl9 : e.platform.stackLimits (T.setVm s.vm).me = e.platform.stackLimits s.me := X.limits
  have hb9 : (T.setVm s.vm).me.stackBytes = s.me.stackBytes := X.bytes
  refine ⟨X.admits, X.cas, X.clock, hF, ?_, X.hears, X.method, X.code, X.here, X.tail, X.warmed, ?_, ?_, ?_⟩
  · have h := X.room
    have hU : ((T.setVm s.vm).setFrames (.invoking m args :: below)).localsInUse = s.localsInUse := by
      rw [State.localsInUse_invoking hF (meth := meth) (c := c) X.method X.code, State.localsInUse_invoking X.frames X.method X.code]
    simp only [State.hasRoom, Bool.and_eq_true, decide_eq_true_eq] at h ⊢
    obtain ⟨⟨⟨⟨h1, h2, h3, h4, h5, h6⟩, h7⟩, h8⟩, h9⟩ := h
    rw [X.frames, List.length_cons] at h2 h3
    have q1 := X.heapSize
    have q2 := X.used
    simp only [hF, hU, List.length_cons, State.stackLimits_setFrames, State.stackBytes_setFrames, hl9, hb9]
    refine ⟨⟨⟨⟨by omega, by omega, by omega, by omega, by omega, h6⟩, ?_⟩, ?_⟩, X.book⟩
    · show T.heap.size + R'.cells ≤ e.platform.maxCells
      omega
    · show T.slotsUsed + R'.slots ≤ e.platform.maxSlots
      omega
  · rw [State.stackLimits_setFrames]; rfl
  · rw [State.stackBytes_setFrames]; rfl
  · refine ⟨?_, Nat.le_refl _, Nat.le_refl _, ?_, ?_, fun a c9 h9 => ⟨c9, h9, rfl, rfl, fun _ _ => rfl⟩⟩
    · obtain ⟨t, ht, -⟩ := State.frames_cons hr
      show T.setVm s.vm = { ((T.setVm s.vm).setFrames (.invoking m args :: below)).setFrames (T.setVm s.vm).frames with heap := T.heap, slotsUsed := T.slotsUsed }
      rw [State.setFrames_setFrames, State.setFrames_self ht]
      rfl
    · show T.slotsUsed = T.slotsUsed + ((T.heap.toList.drop T.heap.size).map (·.slots.size)).sum
      rw [List.drop_eq_nil_of_le (Nat.le_of_eq Array.length_toList)]
      rfl
    · show ((T.heap.toList.drop T.heap.size).map (·.slots.size)).sum ≤ 0
      rw [List.drop_eq_nil_of_le (Nat.le_of_eq Array.length_toList)]
      exact Nat.le_refl _
/-- 'throw new E()': new; dup; invokespecial; athrow -/
theorem vx_throw0 {cc : ByteArray} {pc : Nat} (hexec : p.tables.exec = Jvm.exec) (hb : c.code = cc) (hl : l.stackTraces = false) {own cls : String} {names : List String} {ik ic mc ms : Nat} {A : Nat → Prop}
    (hown : s.vm.findClass own = some m.cls) (hcls : Bundle.fit cls = true) (hnames : ∀ n ∈ names, Bundle.fit n = true)
    (hk : (Cond.classLink own ik cls).before args s = true) (hini : (Cond.initialized cls).before args s = true) (hat : ∀ w ∈ vx_at0 own ic cls names, w.before args s = true)
    (hgood : ∀ w ∈ Cond.classLink own ik cls :: Cond.initialized cls :: vx_at0 own ic cls names, vx_ot w = true)
    (hU : vx_Zq Bundle.tN "UNASSIGNED_STACK" Bundle.steD A s s.heap) (hN : vx_Zq Bundle.tN "SUPPRESSED_SENTINEL" Bundle.listD A s s.heap) (hS : va_S A s.heap H locs) (hsize : ls.size = c.maxLocals)
    (d0 : decode cc pc = .ok (.new ik, 3)) (d3 : decode cc (pc + 3) = .ok (.dup, 1)) (d4 : decode cc (pc + 4) = .ok (.invokespecial ic, 3)) (d7 : decode cc (pc + 7) = .ok (.athrow, 1))
    (hout : ∀ x ∈ c.exceptionTable.toList, covers x (pc + 7) = false)
    (hRframes : names.length + 3 < R.frames) (hRlocals : (rest.map fun v => v.category).sum + (13 * (names.length + 1) + 42) ≤ R.locals) (hRcells : cells + 1 ≤ R.cells) (hRslots : slots + 6 ≤ R.slots) (hlocks : meth.locks = false)
    (hx : ∀ t : State, s.vm.Alike t.vm → H.size ≤ t.heap.size → (∀ q : Nat, q < H.size → t.heap[q]? = H[q]?) → XC cls s t)
    (hf : ∀ z ∈ locs, free z.base) (hc : cells + 1 ≤ mc) (hs : slots + 6 ≤ ms) :
    W p l e R s m args below meth c H locs cells slots (vx_MQ below Qc XC args s mc ms free) (F0 m pc ls rest) := by
  intro T hT X
  have htr : e.platform.stackTraces = false := (show e.platform.stackTraces = l.stackTraces by rw [X.admits.platform]).trans hl
  have Y := vx_rebase X (R' := { frames := R.frames, locals := R.locals, cells := 1, slots := 6 }) (Nat.le_refl _) (Nat.le_refl _) hRcells hRslots
  obtain ⟨s', hA⟩ : ∃ z, z = (T.setVm s.vm).setFrames (.invoking m args :: below) := ⟨_, rfl⟩
  rw [← hA] at Y
  have hvm : s'.vm = s.vm := by rw [hA]; rfl
  have hhp : s'.heap = H := by rw [hA]; exact hT
  have hW0 : s.WarmedH s'.vm := by rw [hvm]; exact State.WarmedH.refl s
  have hat' : ∀ w ∈ vx_at0 own ic cls names, w.before args s' = true := fun w hw => vx_ot_at hW0 hvm.symm (hgood w (List.mem_cons_of_mem _ (List.mem_cons_of_mem _ hw))) (hat w hw)
  have hk' : (Cond.classLink own ik cls).before args s' = true := vx_ot_at hW0 hvm.symm (hgood _ List.mem_cons_self) hk
  have hini' : (Cond.initialized cls).before args s' = true := vx_ot_at hW0 hvm.symm (hgood _ (List.mem_cons_of_mem _ List.mem_cons_self)) hini
  have hU' : vx_Zq Bundle.tN "UNASSIGNED_STACK" Bundle.steD A s' s'.heap := by rw [hhp]; exact vx_Zq.moved hW0.alike (hU.kept hS.2.1)
  have hN' : vx_Zq Bundle.tN "SUPPRESSED_SENTINEL" Bundle.listD A s' s'.heap := by rw [hhp]; exact vx_Zq.moved hW0.alike (hN.kept hS.2.1)
  have h : ∀ w ∈ Bundle.ownAtoms0 own ic cls names, w.before args s' = true := vx_own hat' (vx_isRefq hU'.1) (vx_isRefq hN'.1) hU'.2.word hN'.2.word
  have hown' : s'.vm.findClass own = some m.cls := by rw [hvm]; exact hown
  have hins : (Cond.instantiable cls 6).before args s' = true := h _ (by simp [Bundle.ownAtoms0])
  obtain ⟨vm₁, cX, kX, hfX, hkX, -, -, X₁, st1⟩ := Y.newCold hexec (own := own) (C := cls) (index := ik) (n := 6) hown' hk' hins hini'
    (g := F0 m pc ls rest) rfl (by rw [hb]; exact d0) (Nat.le_refl _) (Nat.le_refl _)
  generalize hT1 : (T.setVm vm₁).pushCell { cls := cX, slots := kX.instanceTypes.map defaultValue, vm := .none } = T1 at X₁ st1
  have hcat : (Value.ref T.heap.size).category = 1 := rfl
  have hcellA : T1.heap[T.heap.size]? = some (freshCell cX kX) := by rw [← hT1]; exact State.heap_pushCell_size _ _
  have d3' : decode c.code (pc + 3) = .ok (.dup, 1) := by rw [hb]; exact d3
  obtain ⟨U, hsteps, hrun, hend, hW, hsame, ce, hce, hO⟩ := X₁.ctorThrow0 hexec htr (own := own) (cls := cls) (names := names) (ic := ic) hown' hcls hnames h (fun x hx => nomatch hx) hfX hkX hcellA (by rw [hhp, hT]; exact Nat.le_refl _)
    (g := { method := m, pc := pc + 4, locals := ls, stack := .ref T.heap.size :: .ref T.heap.size :: rest, locked := none }) rfl hsize rfl rfl (rest := rest) rfl
    (by rw [hb]; exact d4) (by rw [hb]; exact d7) hout hRframes (by simp only [List.map_cons, List.sum_cons, hcat]; omega) hlocks
  obtain ⟨f1, f2⟩ := vx_frame hsame
  rw [hhp] at f1 f2
  have hWs : s.WarmedH U.vm := State.WarmedH.trans hW0 hW
  have hcl : s.vm.findClass cls = some ce.cls := by
    have h9 := hO.cls
    rw [hvm] at h9
    exact h9
  have hall : s.sameButNew ({ U with vm := s.vm } : State) locs mc ms := by
    subst hA
    obtain ⟨e1, e2⟩ := hsame
    rw [State.setFrames_setFrames] at e1
    have h2 : (T.setVm s.vm).sameButNew ({ U with vm := s.vm } : State) [] (0 + 1) (0 + 6) := ⟨e1, e2⟩
    have h3 := X.same.trans h2
    rw [List.append_nil] at h3
    exact h3.mono hc hs
  refine ⟨U, ?_, .threw T.heap.size, hrun, hend, Or.inr ⟨T.heap.size, rfl, cls, ce, locs, hx U hWs.alike f1 (fun q hq => f2 q hq (fun z hz => nomatch hz)), hce, hO.vm, hcl, hWs, hall, hf⟩⟩
  refine st1 _ ?_
  show Steps p.tables e below (T1.setTop { method := m, pc := pc + 3, locals := ls, stack := .ref T.heap.size :: rest, locked := none }) _
  jvm_step X₁.here [X₁.here.top, hexec, d3', Value.category]
  exact hsteps
/-- 'throw new E("text")': new; dup; ldc; invokespecial; athrow -/
theorem vx_throwS {cc : ByteArray} {pc : Nat} (hexec : p.tables.exec = Jvm.exec) (hb : c.code = cc) (hl : l.stackTraces = false) {own cls text : String} {names : List String} {ik is ic mc ms sa : Nat} {A : Nat → Prop}
    (hown : s.vm.findClass own = some m.cls) (hcls : Bundle.fit cls = true) (hnames : ∀ n ∈ names, Bundle.fit n = true)
    (hk : (Cond.classLink own ik cls).before args s = true) (hini : (Cond.initialized cls).before args s = true) (hstr : vk_R own is text sa s) (hat : ∀ w ∈ vx_atS own ic cls names, w.before args s = true)
    (hgood : ∀ w ∈ Cond.classLink own ik cls :: Cond.initialized cls :: vx_atS own ic cls names, vx_ot w = true)
    (hU : vx_Zq Bundle.tN "UNASSIGNED_STACK" Bundle.steD A s s.heap) (hN : vx_Zq Bundle.tN "SUPPRESSED_SENTINEL" Bundle.listD A s s.heap) (hS : va_S A s.heap H locs) (hsize : ls.size = c.maxLocals)
    (d0 : decode cc pc = .ok (.new ik, 3)) (d3 : decode cc (pc + 3) = .ok (.dup, 1)) (d4 : decode cc (pc + 4) = .ok (.ldc is, 2)) (d6 : decode cc (pc + 6) = .ok (.invokespecial ic, 3)) (d9 : decode cc (pc + 9) = .ok (.athrow, 1))
    (hout : ∀ x ∈ c.exceptionTable.toList, covers x (pc + 9) = false)
    (hRframes : names.length + 3 < R.frames) (hRlocals : (rest.map fun v => v.category).sum + (13 * (names.length + 1) + 43) ≤ R.locals) (hRcells : cells + 1 ≤ R.cells) (hRslots : slots + 6 ≤ R.slots) (hlocks : meth.locks = false)
    (hx : ∀ t : State, s.vm.Alike t.vm → H.size ≤ t.heap.size → (∀ q : Nat, q < H.size → t.heap[q]? = H[q]?) → XC cls s t)
    (hf : ∀ z ∈ locs, free z.base) (hc : cells + 1 ≤ mc) (hs : slots + 6 ≤ ms) :
    W p l e R s m args below meth c H locs cells slots (vx_MQ below Qc XC args s mc ms free) (F0 m pc ls rest) := by
  intro T hT X
  have htr : e.platform.stackTraces = false := (show e.platform.stackTraces = l.stackTraces by rw [X.admits.platform]).trans hl
  have Y := vx_rebase X (R' := { frames := R.frames, locals := R.locals, cells := 1, slots := 6 }) (Nat.le_refl _) (Nat.le_refl _) hRcells hRslots
  obtain ⟨s', hA⟩ : ∃ z, z = (T.setVm s.vm).setFrames (.invoking m args :: below) := ⟨_, rfl⟩
  rw [← hA] at Y
  have hvm : s'.vm = s.vm := by rw [hA]; rfl
  have hhp : s'.heap = H := by rw [hA]; exact hT
  have hW0 : s.WarmedH s'.vm := by rw [hvm]; exact State.WarmedH.refl s
  have hat' : ∀ w ∈ vx_atS own ic cls names, w.before args s' = true := fun w hw => vx_ot_at hW0 hvm.symm (hgood w (List.mem_cons_of_mem _ (List.mem_cons_of_mem _ hw))) (hat w hw)
  have hk' : (Cond.classLink own ik cls).before args s' = true := vx_ot_at hW0 hvm.symm (hgood _ List.mem_cons_self) hk
  have hini' : (Cond.initialized cls).before args s' = true := vx_ot_at hW0 hvm.symm (hgood _ (List.mem_cons_of_mem _ List.mem_cons_self)) hini
  have hU' : vx_Zq Bundle.tN "UNASSIGNED_STACK" Bundle.steD A s' s'.heap := by rw [hhp]; exact vx_Zq.moved hW0.alike (hU.kept hS.2.1)
  have hN' : vx_Zq Bundle.tN "SUPPRESSED_SENTINEL" Bundle.listD A s' s'.heap := by rw [hhp]; exact vx_Zq.moved hW0.alike (hN.kept hS.2.1)
  have h : ∀ w ∈ Bundle.ownAtoms own ic cls names, w.before args s' = true := vx_own hat' (vx_isRefq hU'.1) (vx_isRefq hN'.1) hU'.2.word hN'.2.word
  have hown' : s'.vm.findClass own = some m.cls := by rw [hvm]; exact hown
  have hins : (Cond.instantiable cls 6).before args s' = true := h _ (by simp [Bundle.ownAtoms])
  obtain ⟨vm₁, cX, kX, hfX, hkX, -, -, X₁, st1⟩ := Y.newCold hexec (own := own) (C := cls) (index := ik) (n := 6) hown' hk' hins hini'
    (g := F0 m pc ls rest) rfl (by rw [hb]; exact d0) (Nat.le_refl _) (Nat.le_refl _)
  generalize hT1 : (T.setVm vm₁).pushCell { cls := cX, slots := kX.instanceTypes.map defaultValue, vm := .none } = T1 at X₁ st1
  have hcat : (Value.ref T.heap.size).category = 1 := rfl
  have hcellA : T1.heap[T.heap.size]? = some (freshCell cX kX) := by rw [← hT1]; exact State.heap_pushCell_size _ _
  have d3' : decode c.code (pc + 3) = .ok (.dup, 1) := by rw [hb]; exact d3
  have d4' : decode c.code (pc + 4) = .ok (.ldc is, 2) := by rw [hb]; exact d4
  have hstr' : vk_R own is text sa s' := vk_R.warm hW0 hstr
  obtain ⟨U, hsteps, hrun, hend, hW, hsame, ce, hce, hO⟩ := X₁.ctorThrowS hexec htr (own := own) (cls := cls) (names := names) (ic := ic) hown' hcls hnames h (fun x hx => nomatch hx) hfX hkX hcellA (by rw [hhp, hT]; exact Nat.le_refl _) (msg := .ref sa) rfl
    (g := { method := m, pc := pc + 6, locals := ls, stack := .ref sa :: .ref T.heap.size :: .ref T.heap.size :: rest, locked := none }) rfl hsize rfl rfl (rest := rest) rfl
    (by rw [hb]; exact d6) (by rw [hb]; exact d9) hout hRframes (by simp only [List.map_cons, List.sum_cons, hcat]; omega) hlocks
  obtain ⟨f1, f2⟩ := vx_frame hsame
  rw [hhp] at f1 f2
  have hWs : s.WarmedH U.vm := State.WarmedH.trans hW0 hW
  have hcl : s.vm.findClass cls = some ce.cls := by
    have h9 := hO.cls
    rw [hvm] at h9
    exact h9
  have hall : s.sameButNew ({ U with vm := s.vm } : State) locs mc ms := by
    subst hA
    obtain ⟨e1, e2⟩ := hsame
    rw [State.setFrames_setFrames] at e1
    have h2 : (T.setVm s.vm).sameButNew ({ U with vm := s.vm } : State) [] (0 + 1) (0 + 6) := ⟨e1, e2⟩
    have h3 := X.same.trans h2
    rw [List.append_nil] at h3
    exact h3.mono hc hs
  refine ⟨U, ?_, .threw T.heap.size, hrun, hend, Or.inr ⟨T.heap.size, rfl, cls, ce, locs, hx U hWs.alike f1 (fun q hq => f2 q hq (fun z hz => nomatch hz)), hce, hO.vm, hcl, hWs, hall, hf⟩⟩
  refine st1 _ ?_
  show Steps p.tables e below (T1.setTop { method := m, pc := pc + 3, locals := ls, stack := .ref T.heap.size :: rest, locked := none }) _
  jvm_step X₁.here [X₁.here.top, hexec, d3', Value.category]
  exact X₁.ldcString hexec (own := own) (text := text) (index := is) (a := sa) hown' hstr'.1 hstr'.2
    (g := { method := m, pc := pc + 4, locals := ls, stack := .ref T.heap.size :: .ref T.heap.size :: rest, locked := none }) rfl d4' _ hsteps
/-- 'throw new E("text")', the text by a wide index -/
theorem vx_throwSW {cc : ByteArray} {pc : Nat} (hexec : p.tables.exec = Jvm.exec) (hb : c.code = cc) (hl : l.stackTraces = false) {own cls text : String} {names : List String} {ik is ic mc ms sa : Nat} {A : Nat → Prop}
    (hown : s.vm.findClass own = some m.cls) (hcls : Bundle.fit cls = true) (hnames : ∀ n ∈ names, Bundle.fit n = true)
    (hk : (Cond.classLink own ik cls).before args s = true) (hini : (Cond.initialized cls).before args s = true) (hstr : vk_R own is text sa s) (hat : ∀ w ∈ vx_atS own ic cls names, w.before args s = true)
    (hgood : ∀ w ∈ Cond.classLink own ik cls :: Cond.initialized cls :: vx_atS own ic cls names, vx_ot w = true)
    (hU : vx_Zq Bundle.tN "UNASSIGNED_STACK" Bundle.steD A s s.heap) (hN : vx_Zq Bundle.tN "SUPPRESSED_SENTINEL" Bundle.listD A s s.heap) (hS : va_S A s.heap H locs) (hsize : ls.size = c.maxLocals)
    (d0 : decode cc pc = .ok (.new ik, 3)) (d3 : decode cc (pc + 3) = .ok (.dup, 1)) (d4 : decode cc (pc + 4) = .ok (.ldc_w is, 3)) (d7 : decode cc (pc + 7) = .ok (.invokespecial ic, 3)) (d10 : decode cc (pc + 10) = .ok (.athrow, 1))
    (hout : ∀ x ∈ c.exceptionTable.toList, covers x (pc + 10) = false)
    (hRframes : names.length + 3 < R.frames) (hRlocals : (rest.map fun v => v.category).sum + (13 * (names.length + 1) + 43) ≤ R.locals) (hRcells : cells + 1 ≤ R.cells) (hRslots : slots + 6 ≤ R.slots) (hlocks : meth.locks = false)
    (hx : ∀ t : State, s.vm.Alike t.vm → H.size ≤ t.heap.size → (∀ q : Nat, q < H.size → t.heap[q]? = H[q]?) → XC cls s t)
    (hf : ∀ z ∈ locs, free z.base) (hc : cells + 1 ≤ mc) (hs : slots + 6 ≤ ms) :
    W p l e R s m args below meth c H locs cells slots (vx_MQ below Qc XC args s mc ms free) (F0 m pc ls rest) := by
  intro T hT X
  have htr : e.platform.stackTraces = false := (show e.platform.stackTraces = l.stackTraces by rw [X.admits.platform]).trans hl
  have Y := vx_rebase X (R' := { frames := R.frames, locals := R.locals, cells := 1, slots := 6 }) (Nat.le_refl _) (Nat.le_refl _) hRcells hRslots
  obtain ⟨s', hA⟩ : ∃ z, z = (T.setVm s.vm).setFrames (.invoking m args :: below) := ⟨_, rfl⟩
  rw [← hA] at Y
  have hvm : s'.vm = s.vm := by rw [hA]; rfl
  have hhp : s'.heap = H := by rw [hA]; exact hT
  have hW0 : s.WarmedH s'.vm := by rw [hvm]; exact State.WarmedH.refl s
  have hat' : ∀ w ∈ vx_atS own ic cls names, w.before args s' = true := fun w hw => vx_ot_at hW0 hvm.symm (hgood w (List.mem_cons_of_mem _ (List.mem_cons_of_mem _ hw))) (hat w hw)
  have hk' : (Cond.classLink own ik cls).before args s' = true := vx_ot_at hW0 hvm.symm (hgood _ List.mem_cons_self) hk
  have hini' : (Cond.initialized cls).before args s' = true := vx_ot_at hW0 hvm.symm (hgood _ (List.mem_cons_of_mem _ List.mem_cons_self)) hini
  have hU' : vx_Zq Bundle.tN "UNASSIGNED_STACK" Bundle.steD A s' s'.heap := by rw [hhp]; exact vx_Zq.moved hW0.alike (hU.kept hS.2.1)
  have hN' : vx_Zq Bundle.tN "SUPPRESSED_SENTINEL" Bundle.listD A s' s'.heap := by rw [hhp]; exact vx_Zq.moved hW0.alike (hN.kept hS.2.1)
  have h : ∀ w ∈ Bundle.ownAtoms own ic cls names, w.before args s' = true := vx_own hat' (vx_isRefq hU'.1) (vx_isRefq hN'.1) hU'.2.word hN'.2.word
  have hown' : s'.vm.findClass own = some m.cls := by rw [hvm]; exact hown
  have hins : (Cond.instantiable cls 6).before args s' = true := h _ (by simp [Bundle.ownAtoms])
  obtain ⟨vm₁, cX, kX, hfX, hkX, -, -, X₁, st1⟩ := Y.newCold hexec (own := own) (C := cls) (index := ik) (n := 6) hown' hk' hins hini'
    (g := F0 m pc ls rest) rfl (by rw [hb]; exact d0) (Nat.le_refl _) (Nat.le_refl _)
  generalize hT1 : (T.setVm vm₁).pushCell { cls := cX, slots := kX.instanceTypes.map defaultValue, vm := .none } = T1 at X₁ st1
  have hcat : (Value.ref T.heap.size).category = 1 := rfl
  have hcellA : T1.heap[T.heap.size]? = some (freshCell cX kX) := by rw [← hT1]; exact State.heap_pushCell_size _ _
  have d3' : decode c.code (pc + 3) = .ok (.dup, 1) := by rw [hb]; exact d3
  have d4' : decode c.code (pc + 4) = .ok (.ldc_w is, 3) := by rw [hb]; exact d4
  have hstr' : vk_R own is text sa s' := vk_R.warm hW0 hstr
  obtain ⟨U, hsteps, hrun, hend, hW, hsame, ce, hce, hO⟩ := X₁.ctorThrowS hexec htr (own := own) (cls := cls) (names := names) (ic := ic) hown' hcls hnames h (fun x hx => nomatch hx) hfX hkX hcellA (by rw [hhp, hT]; exact Nat.le_refl _) (msg := .ref sa) rfl
    (g := { method := m, pc := pc + 7, locals := ls, stack := .ref sa :: .ref T.heap.size :: .ref T.heap.size :: rest, locked := none }) rfl hsize rfl rfl (rest := rest) rfl
    (by rw [hb]; exact d7) (by rw [hb]; exact d10) hout hRframes (by simp only [List.map_cons, List.sum_cons, hcat]; omega) hlocks
  obtain ⟨f1, f2⟩ := vx_frame hsame
  rw [hhp] at f1 f2
  have hWs : s.WarmedH U.vm := State.WarmedH.trans hW0 hW
  have hcl : s.vm.findClass cls = some ce.cls := by
    have h9 := hO.cls
    rw [hvm] at h9
    exact h9
  have hall : s.sameButNew ({ U with vm := s.vm } : State) locs mc ms := by
    subst hA
    obtain ⟨e1, e2⟩ := hsame
    rw [State.setFrames_setFrames] at e1
    have h2 : (T.setVm s.vm).sameButNew ({ U with vm := s.vm } : State) [] (0 + 1) (0 + 6) := ⟨e1, e2⟩
    have h3 := X.same.trans h2
    rw [List.append_nil] at h3
    exact h3.mono hc hs
  refine ⟨U, ?_, .threw T.heap.size, hrun, hend, Or.inr ⟨T.heap.size, rfl, cls, ce, locs, hx U hWs.alike f1 (fun q hq => f2 q hq (fun z hz => nomatch hz)), hce, hO.vm, hcl, hWs, hall, hf⟩⟩
  refine st1 _ ?_
  show Steps p.tables e below (T1.setTop { method := m, pc := pc + 3, locals := ls, stack := .ref T.heap.size :: rest, locked := none }) _
  jvm_step X₁.here [X₁.here.top, hexec, d3', Value.category]
  exact X₁.ldcStringW hexec (own := own) (text := text) (index := is) (a := sa) hown' hstr'.1 hstr'.2
    (g := { method := m, pc := pc + 4, locals := ls, stack := .ref T.heap.size :: .ref T.heap.size :: rest, locked := none }) rfl d4' _ hsteps
end Ends
section Bodies
variable {l : Launch}
theorem vx_ofW {y : MethodName} {ws ws' : List Cond} {rm : Room} {Pc : Array Value → State → Prop} {Qc : Array Value → State → Outcome → State → Prop} {XC : String → State → State → Prop} {mc ms : Nat} {free : Addr → Prop} {cc : ByteArray} {maxL : Nat} {ret : Option FieldType}
    (hy : plainName y.cls = true) (hw : ws = Cond.code y cc maxL ret :: ws')
    (body : ∀ p e s m args below meth c s₁, BodyLoose p l y (headSpec ws rm) cc maxL ret e s m args below meth c s₁ → c.maxLocals = maxL → (∀ x ∈ c.exceptionTable.toList, False) → Pc args s →
      W p l e (headSpec ws rm).room s m args below meth c s.heap [] 0 0 (vx_MQ below Qc XC args s mc ms free) (entryFrame m args maxL)) : vx_Met l y ws rm Pc Qc XC mc ms free := by
  refine MetFree.of_bodyS (code := cc) (maxLocals := maxL) (ret := ret) hy ?_ ?_
  · intro args s m h hn
    obtain ⟨meth, c, h1, h2, h3, h4, h5, h6, -, -⟩ := Cond.code_spec hn (atoms_spec (ws := ws) h _ (by rw [hw]; exact List.mem_cons_self))
    exact ⟨meth, c, h1, h2, h3, h4, h5, h6⟩
  · intro p e s m args below meth c s₁ B hml hP _
    have hh0 : s₁.heap = s.heap := by rw [B.state]; rfl
    have ht : ∀ x ∈ c.exceptionTable.toList, False := by
      obtain ⟨meth9, c9, h1, h2, -, -, -, -, h7, -⟩ := Cond.code_spec B.named (atoms_spec (ws := ws) B.pre _ (by rw [hw]; exact List.mem_cons_self))
      cases Option.some.inj (h1.symm.trans B.method)
      cases Option.some.inj (h2.symm.trans (Stand.of_body B).code)
      intro x hx
      rw [Array.isEmpty_iff.mp h7] at hx
      cases hx
    obtain ⟨t, a1, o, b1, b2, b3⟩ := body p e s m args below meth c s₁ B hml ht hP s₁ hh0 (Stand.of_body B)
    exact ⟨t, o, a1, b1, b2, b3⟩
/-- the table of a body with handlers -/
theorem vx_table {p : Program} {x y : MethodName} {S : Spec} {cc bytes : ByteArray} {maxL maxL' : Nat} {ret ret' : Option FieldType} {e : Env} {s s₁ : State} {m : MethodId} {args : Array Value} {below : List Frame} {meth : Method} {c : Code} {hh : List (Nat × Nat × Nat × Nat)}
    (B : BodyLoose p l y S cc maxL ret e s m args below meth c s₁) (h : (Cond.codeWith y bytes maxL' ret' hh).before args s = true) : c.exceptionTable.toList = tableOf hh := by
  obtain ⟨m9, meth9, c9, hn9, h1, h2, -, -, h6, -⟩ := Cond.codeWith_spec h
  cases Option.some.inj (hn9.symm.trans B.named)
  cases Option.some.inj (h1.symm.trans B.method)
  cases Option.some.inj (h2.symm.trans (Stand.of_body B).code)
  rw [← h6, table_eq]
end Bodies
end VXA
/-! ===== END ===== -/
/-! ===== BEGIN a static call of a method with an exception table ===== -/
section VXS
variable {p : Program} {l : Launch} {e : Env} {R : Room} {s : State} {m : MethodId} {args : Array Value} {below : List Frame} {meth : Method} {c : Code} {T : State} {H : Heap} {locs : List Loc} {cells slots : Nat}
abbrev vx_CSW (R : Room) (s : State) (args : Array Value) (own : String) (index : Nat) (y : MethodName) (bytes : ByteArray) (maxL : Nat) (ret : Option FieldType) (hh : List (Nat × Nat × Nat × Nat)) (ws : List Cond) (rm : Room) (mc ms n : Nat) : Prop :=
  (rm.cells = mc ∧ rm.slots = ms ∧ rm.frames + 1 ≤ R.frames ∧ 8 + (maxL + 11) + rm.locals ≤ R.locals ∧ (∀ w ∈ ws, ∀ (a' : Array Value) (U : State), s.WarmedH U.vm → w.before a' U = true) ∧ Cond.codeWith y bytes maxL ret hh ∈ ws) ∧
  (Cond.codeWith y bytes maxL ret hh).before args s = true ∧ (Cond.initialized y.cls).before args s = true ∧ (y.cls ≠ "java/lang/invoke/MethodHandle" ∧ y.cls ≠ "java/lang/invoke/VarHandle") ∧
  (∀ sig, parseMethodDescriptor y.desc = some sig → n = sig.parameters.length) ∧ (Cond.methodLink own index y).before args s = true ∧ (Cond.static y).before args s = true
theorem vx_cwSW {own : String} {index maxL mc ms : Nat} {y : MethodName} {bytes : ByteArray} {ret : Option FieldType} {hh : List (Nat × Nat × Nat × Nat)} {Ts ws ws' : List Cond} {rm : Room} (n : Nat) (ht : ∀ w ∈ Ts, w.before args s = true) (hT : GoodIn Ts (va_wsS own index y ws)) (hw : ws = Cond.codeWith y bytes maxL ret hh :: ws') (hrc : rm.cells = mc) (hrs : rm.slots = ms)
    (hd : y.cls ≠ "java/lang/invoke/MethodHandle" ∧ y.cls ≠ "java/lang/invoke/VarHandle" ∧ (parseMethodDescriptor y.desc).map (fun d => d.parameters.length) = some n) (hR : rm.frames + 1 ≤ R.frames ∧ 8 + (maxL + 11) + rm.locals ≤ R.locals) :
    vx_CSW R s args own index y bytes maxL ret hh ws rm mc ms n := by
  have ok : ∀ w ∈ va_wsS own index y ws, w.before args s = true := fun w h => ht w (hT w h).1
  have hG : GoodIn Ts ws := fun w h => hT w (by unfold va_wsS; exact List.mem_append_right _ h)
  have hc : Cond.codeWith y bytes maxL ret hh ∈ ws := by rw [hw]; exact List.mem_cons_self
  refine ⟨⟨hrc, hrs, hR.1, hR.2, pay_in ht hG, hc⟩, ht _ (hG _ hc).1, ok _ (by simp [va_wsS]), ⟨hd.1, hd.2.1⟩, fun sig h => ?_, ok _ (by simp [va_wsS]), ok _ (by simp [va_wsS])⟩
  have h2 := hd.2.2
  rw [h] at h2
  exact (Option.some.inj h2).symm
theorem vx_callSW (X : Stand p l e R s m args below meth c T locs cells slots) (hexec : p.tables.exec = Jvm.exec) {own : String} {index : Nat} {y : MethodName} {bytes : ByteArray} {maxL : Nat} {ret : Option FieldType} {hh : List (Nat × Nat × Nat × Nat)}
    (hown : s.vm.findClass own = some m.cls) (hlink : (Cond.methodLink own index y).before args s = true) (hstat : (Cond.static y).before args s = true) (hinit : (Cond.initialized y.cls).before args s = true)
    (hcode : (Cond.codeWith y bytes maxL ret hh).before args s = true) (hy : y.cls ≠ "java/lang/invoke/MethodHandle" ∧ y.cls ≠ "java/lang/invoke/VarHandle")
    {W9 : Nat} {Pre : Pt → Array Value → Prop} {Post : Pt → Array Value → Option Value → Pt → Prop} (hK : Back l R p e below s args y 3 W9 Pre Post)
    {g : JFrame} (hg : g.method = m) (hsize : g.locals.size = c.maxLocals) {argsL rest : List Value} (hlen : ∀ sig, parseMethodDescriptor y.desc = some sig → argsL.length = sig.parameters.length)
    (hstack : g.stack = argsL.reverse ++ rest) (hW : 2 * g.monitorRoom + (rest.map fun v => v.category).sum ≤ W9) (hdg : decode c.code g.pc = .ok (.invokestatic index, 3))
    (hpre : ∀ vm₁, s.WarmedH vm₁ → Pre ⟨T.setVm vm₁, locs, cells, slots⟩ argsL.toArray) :
    ∃ (v : Option Value) (vm₁ : Vm) (B : Pt), s.WarmedH vm₁ ∧ Stand p l e R s m args below meth c B.U B.locs B.cells B.slots ∧ Post ⟨T.setVm vm₁, locs, cells, slots⟩ argsL.toArray v B ∧
      ∀ target, Steps p.tables e below (B.U.setTop { g with pc := g.pc + 3, stack := v.toList ++ rest }) target → Steps p.tables e below (T.setTop g) target := by
  obtain ⟨mk, methM, cM, hnamed, hmethM, -, -, -, -, -, -, hsigM⟩ := Cond.codeWith_spec hcode
  have hstatic : methM.isStatic = true := Cond.static_spec hnamed hmethM hstat
  obtain ⟨kP, hkP, -⟩ := className_of_methodNamed hnamed
  have hinitP : kP.init = .initialized := Cond.initialized_spec (findClass_of_methodNamed hnamed) hkP hinit
  obtain ⟨vm₁, X₁, hstep₁⟩ := X.invokestatic hexec hown hlink hnamed hmethM hstatic hkP hinitP hy (g := g) hg (argsL := argsL) (rest := rest) (hlen _ hsigM) hstack hdg
  obtain ⟨v, B, X', hpost, hsteps⟩ := hK m meth c ⟨T.setVm vm₁, locs, cells, slots⟩ { g with stack := rest } (.invokestatic index) mk argsL.toArray X₁ hg hsize hdg hW (X₁.named hnamed) (hpre vm₁ X₁.warmed)
  exact ⟨v, vm₁, B, X₁.warmed, X', hpost, fun target h => hstep₁ _ fun acts => by rw [doInvoke_state]; exact hsteps.trans h⟩
theorem vx_runSW {y : MethodName} {bytes cc : ByteArray} {maxL nL mc ms n index : Nat} {ret : Option FieldType} {hh : List (Nat × Nat × Nat × Nat)} {ws : List Cond} {rm : Room} {Pc : Array Value → State → Prop} {Qc : Array Value → State → Outcome → State → Prop} {free : Addr → Prop} {Ts : List Cond} {own : String} {As rest : List Value} {g : JFrame}
    (S : CallFix p m c cc nL s args Ts own) (hM : Met l y ws rm Pc Qc mc ms free) (cw : vx_CSW R s args own index y bytes maxL ret hh ws rm mc ms n) (hp : PreS s H Pc As)
    (hg : g.method = m) (hn : As.length = n) (hsize : g.locals.size = nL) (hstack : g.stack = As.reverse ++ rest) (hW : 2 * g.monitorRoom + (rest.map fun v => v.category).sum ≤ 8) (hdg : decode cc g.pc = .ok (.invokestatic index, 3)) (hf : cells + mc ≤ R.cells ∧ slots + ms ≤ R.slots) :
    va_Run p l e R s m args below meth c H locs cells slots mc ms g rest (Qc As.toArray) (free) := by
  obtain ⟨⟨hrc, hrs, hfr, hlo, hws, hcw⟩, hcode, hini, hy, hlen, hl, hstt⟩ := cw
  have hK : Back l R p e below s args y 3 8 (PreOf R mc ms Pc) (PostOf Qc mc ms free) := va_backW (hh := hh) (bytes := bytes) (maxL := maxL) (ret := ret) hM hp.1 hrc hrs hfr hlo hws hcw (fun a' U hW => word_at hW (Or.inl (by first | rfl | simp [Cond.onTables, Cond.keeps, Cond.steady])) hini)
  obtain ⟨hx, hb, hml, ho, -⟩ := S
  intro T hT X
  obtain ⟨v, vm₁, ⟨U', l2, c2, s2⟩, hW₁, X', ⟨g', mk, t, L, e1, e2, hq, h1, hL, h2, h3⟩, st⟩ := vx_callSW X hx (hh := hh) (bytes := bytes) (maxL := maxL) (ret := ret) ho hl hstt hini hcode hy hK hg (hsize.trans hml.symm) (argsL := As) (rest := rest) (fun sig h => hn.trans (hlen sig h)) hstack hW (by rw [hb]; exact hdg)
    (fun vm₁ hW₁ => ⟨hf.1, hf.2, hp.2 (T.setVm vm₁) hT hW₁⟩)
  dsimp only [Pt.U, Pt.locs, Pt.cells, Pt.slots] at X' e1 e2 h1 h2 h3 st
  subst h1; subst h2; subst h3
  exact ⟨v, (T.setVm vm₁).calling g' mk As.toArray, t, U', L, hT, X', hL, e1, e2, hq, st⟩
/-- not caught here, past rows that name other classes: it goes on to the caller -/
theorem vx_outP {p : Program} {l : Launch} {e : Env} {R : Room} {s : State} {m : MethodId} {args : Array Value} {below : List Frame} {meth : Method} {c : Code} {H : Heap} {locs : List Loc} {cells slots : Nat} {free : Addr → Prop} {ls : Array Slot} {rest : List Value} {Qc : Array Value → State → Outcome → State → Prop} {XC : String → State → State → Prop}
    {pc : Nat} {own E : String} {ce : Cell} {q : Addr} {mc ms : Nat} (hown : s.vm.findClass own = some m.cls) (hlocks : meth.locks = false)
    (hpass : ∀ z ∈ c.exceptionTable.toList, covers z pc = false ∨ (z.catchType ≠ 0 ∧ ∃ nm : String, (Cond.classLink own z.catchType nm).before args s = true ∧ va_Nc E nm s)) (hcell : H[q]? = some ce) (hv : ce.vm = .none) (hcl : s.vm.findClass E = some ce.cls)
    (hx : ∀ t : State, t.heap = H → s.vm.Alike t.vm → XC E s t) (hf : ∀ z ∈ locs, free z.base) (hc : cells ≤ mc) (hs : slots ≤ ms) :
    vx_W p l e R s m args below meth c H locs cells slots (vx_MQ below Qc XC args s mc ms free) (F0 m pc ls rest) q := by
  intro T hT X
  have hpl : e.platform.magicAccessors = ({} : Platform).magicAccessors := by rw [X.admits.platform]
  obtain ⟨vm', hW', X', st⟩ := X.outThrough hlocks q (g := F0 m pc ls rest) rfl rfl rfl (cell := ce) (by rw [hT]; exact hcell) (by rw [hv]; rfl)
    (by obtain ⟨k9, h9, -⟩ := Vm.findClass_spec hcl; exact ⟨k9, h9⟩) (fun z hz => by
      rcases hpass z hz with h | ⟨hz0, nm, hl1, hn1⟩
      · exact Or.inl h
      · obtain ⟨c6, hc6, hcl6⟩ := Cond.classLink_spec hown hl1 e.platform hpl
        obtain ⟨a8, b8, h1, h2, h3⟩ := hn1
        cases Option.some.inj (h1.symm.trans hcl)
        cases Option.some.inj (h2.symm.trans hc6)
        exact Or.inr ⟨hz0, _, hcl6, h3⟩)
  obtain ⟨g₀, hfr⟩ := X'.frames_eq
  have hcell9 : ((T.setVm vm').setFrames (.throwing q :: below)).heap[q]? = some ce := by
    show T.heap[q]? = some ce
    rw [hT]; exact hcell
  have hend : Ended ((T.setVm vm').setFrames (.throwing q :: below)) below (.threw q) := State.frames_setFrames _ (State.cur_lt_of_frames hfr)
  refine ⟨(T.setVm vm').setFrames (.throwing q :: below), ?_, .threw q, X'.here.running, hend, Or.inr ⟨q, rfl, E, ce, locs, hx _ hT (X'.ends _).1.alike, hcell9, hv, hcl, (X'.ends _).1, (X'.ends _).2.mono hc hs, hf⟩⟩
  rw [X.pushThrowing_eq]
  exact st
/-- a thing of a world lies in the heap -/
theorem vx_lt {D : va_G} {cl : List vw_C} {ws : va_W} {H1 : Heap} (h : va_P D cl ws H1) {k : Nat} {q : Nat × va_E} (hk : ws[k]? = some q) : q.1 < H1.size := (h k q hk).lt
end VXS
/-! ===== END ===== -/
/-! ===== BEGIN methods with a table of their own: called by a name, returning or throwing ===== -/
section VXH
/-! vx_backW, vx_callVX, vx_callSX, vx_callVW, vx_runVW, vx_runVX, vx_runSX, vx_ofWH follow the same proofs as their sisters above (Free/Laws.lean, Shelf42/LK1.lean); vx_outP calls Shelf42/NT130.lean (outThrough). -/
section
variable {l : Launch} {R : Room} {p : Program} {e : Env} {below : List Frame} {s : State} {sargs : Array Value} {y : MethodName} {len W9 : Nat}
theorem vx_backW {ws : List Cond} {rm : Room} {Pc : Array Value → State → Prop} {Qc : Array Value → State → Outcome → State → Prop} {XC : String → State → State → Prop} {mc ms : Nat} {free : Addr → Prop} {bytes : ByteArray} {maxL : Nat} {ret : Option FieldType} {hh : List (Nat × Nat × Nat × Nat)}
    (hM : vx_Met l y ws rm Pc Qc XC mc ms free) (hblind : FrameBlind Pc) (hrc : rm.cells = mc) (hrs : rm.slots = ms)
    (hframes : rm.frames + 1 ≤ R.frames) (hlocals : W9 + (maxL + 11) + rm.locals ≤ R.locals)
    (hws : ∀ w ∈ ws, ∀ a' U, s.WarmedH U.vm → w.before a' U = true) (hcode : Cond.codeWith y bytes maxL ret hh ∈ ws) (hinit : ∀ a' U, s.WarmedH U.vm → (Cond.initialized y.cls).before a' U = true) :
    vx_Back l R p e below s sargs y len W9 (PreOf R mc ms Pc) (PostOf Qc mc ms free) (vx_Post XC mc ms free) := by
  intro m meth c A g ig mk a X hg hsize hdg hW hn hp
  have h1 : (headSpec ws rm).pre.before a A.U = true := atoms_intro fun w hw => hws w hw _ _ X.warmed
  have h2 : (Cond.codeWith y bytes maxL ret hh).before a A.U = true := hws _ hcode _ _ X.warmed
  have h3 : (Cond.initialized y.cls).before a A.U = true := hinit _ _ X.warmed
  have h4 : A.cells + (headSpec ws rm).room.cells ≤ R.cells := by rw [show (headSpec ws rm).room.cells = mc from hrc]; exact hp.1
  have h5 : A.slots + (headSpec ws rm).room.slots ≤ R.slots := by rw [show (headSpec ws rm).room.slots = ms from hrs]; exact hp.2.1
  have hPc : Pc a (A.U.calling g mk a) := hblind _ _ _ _ hp.2.2
  obtain ⟨U, Ls, c0, s0⟩ := A
  dsimp only [Pt.U, Pt.locs, Pt.cells, Pt.slots] at h1 h2 h3 h4 h5 X hn hPc ⊢
  obtain ⟨m9, methY, cY, hn9, hmY, hcY, -, hlY, -⟩ := Cond.codeWith_spec h2
  cases Option.some.inj (hn9.symm.trans hn)
  obtain ⟨kY, hkY, -⟩ := className_of_methodNamed hn
  have hinitY : kY.init = .initialized := Cond.initialized_spec (findClass_of_methodNamed hn) hkY h3
  have h : At U g.method c below := by rw [hg]; exact X.here
  have hlocals9 : W9 + (maxL + 11) + (headSpec ws rm).room.locals ≤ R.locals := hlocals
  have happ : (headSpec ws rm).appliesLoose y e.platform (U.calling g mk a) = true :=
    Spec.appliesLoose_calling (g := g) h hdg hn hkY hinitY
      (X.room_calling (g := g) (R' := (headSpec ws rm).room) hsize hmY hcY hframes (by rw [hlY]; omega) h4 h5) h1
  obtain ⟨mid, hmid⟩ := h.above
  have hfr : (U.setTop g).frames = (.java g :: mid) ++ below := by rw [State.frames_setTop' g h.top, hmid]; rfl
  obtain ⟨o, s₂, hsteps, -, hend, hq⟩ := Steps.callFree hM p X.admits X.cas X.clock (acts := []) hfr happ hPc trivial
  have hq' : vx_Q Qc XC mc ms free a (U.calling g mk a) o s₂ := hq
  rw [State.frames_setTop' g h.top] at hend
  obtain ⟨g₀, hg0⟩ := Option.isSome_iff_exists.mp h.top
  obtain ⟨r, hr⟩ := State.topJava?_eq_some.mp hg0
  have hr' : (({ U with heap := s₂.heap, slotsUsed := s₂.slotsUsed } : State).setVm s₂.vm).frames = .java g₀ :: r := hr
  rcases hq' with ⟨hqc, L, hfe, hL⟩ | ⟨q, rfl, E, ce, L, hx, hce, hcv, hcl, hW₂, hsm, hL⟩
  · obtain ⟨⟨v, rfl⟩, hW₂, e2, q2, q3, q4, q5, q6⟩ := id hfe
    have e3 : s₂ = ({ (U.calling g mk a).setFrames s₂.frames with heap := s₂.heap, slotsUsed := s₂.slotsUsed } : State).setVm s₂.vm := by
      have : s₂ = ({ s₂ with vm := (U.calling g mk a).vm } : State).setVm s₂.vm := rfl
      rw [e2] at this
      exact this
    obtain ⟨c₂, i₂, len₂, hc₂, hd₂, hf₂⟩ := hend
    have hW' : U.WarmedH s₂.vm := hW₂
    have hcc : c₂ = c := by
      have h1 : s₂.code? g.method = U.code? g.method := by
        rw [State.code?_eq, State.code?_eq, hW'.alike.method?]
      exact Option.some.inj (hc₂.symm.trans (h1.trans h.code))
    subst hcc
    have hlen : len₂ = len := by rw [hdg] at hd₂; cases hd₂; rfl
    subst hlen
    have hs₂ : s₂ = (({ U with heap := s₂.heap, slotsUsed := s₂.slotsUsed } : State).setVm s₂.vm).setTop { g with pc := g.pc + len₂, stack := v.toList ++ g.stack } := by
      refine e3.trans ?_
      rw [hf₂, State.calling_eq h.top, State.setFrames_setFrames, State.setTop_of_frames _ hr', hr]
      rfl
    have hsame : U.sameButNew ({ U with heap := s₂.heap, slotsUsed := s₂.slotsUsed } : State) L mc ms := by
      refine ⟨?_, q2, q3, q4, q5, q6⟩
      obtain ⟨t, ht, -⟩ := State.frames_cons hr
      show ({ U with heap := s₂.heap, slotsUsed := s₂.slotsUsed } : State) = { U.setFrames U.frames with heap := s₂.heap, slotsUsed := s₂.slotsUsed }
      rw [State.setFrames_self ht]
    subst hg
    refine Or.inl ⟨v, ⟨(({ U with heap := s₂.heap, slotsUsed := s₂.slotsUsed } : State).setVm s₂.vm), Ls ++ L, c0 + mc, s0 + ms⟩,
      ⟨X.admits, X.cas, X.clock, X.frames, X.room, X.hears, X.method, X.code, (X.here.setHeapUsed s₂.heap s₂.slotsUsed).setVm hW'.alike, X.tail, State.WarmedH.trans X.warmed hW', X.limits, X.bytes, X.same.trans (hsame.setVm s.vm)⟩,
      ⟨g, mk, s₂, L, rfl, rfl, hqc, rfl, hL, rfl, rfl⟩, ?_⟩
    show Steps p.tables e below _ ((({ U with heap := s₂.heap, slotsUsed := s₂.slotsUsed } : State).setVm s₂.vm).setTop { g with pc := g.pc + len₂, stack := v.toList ++ g.stack })
    rw [← hs₂]
    exact hsteps
  · obtain ⟨e2, q2, q3, q4, q5, q6⟩ := id hsm
    have e3 : s₂ = ({ (U.calling g mk a).setFrames s₂.frames with heap := s₂.heap, slotsUsed := s₂.slotsUsed } : State).setVm s₂.vm := by
      have : s₂ = ({ s₂ with vm := (U.calling g mk a).vm } : State).setVm s₂.vm := rfl
      rw [e2] at this
      exact this
    have hf₂ : s₂.frames = .throwing q :: .java g :: U.frames.tail := hend
    have hW' : U.WarmedH s₂.vm := hW₂
    have hs₂ : s₂ = ((({ U with heap := s₂.heap, slotsUsed := s₂.slotsUsed } : State).setVm s₂.vm).setTop g).pushFrame (.throwing q) := by
      refine e3.trans ?_
      rw [hf₂, State.calling_eq h.top, State.setFrames_setFrames, State.pushFrame, State.frames_setTop _ hr', State.setTop_of_frames _ hr', State.setFrames_setFrames, hr]
      rfl
    have hsame : U.sameButNew ({ U with heap := s₂.heap, slotsUsed := s₂.slotsUsed } : State) L mc ms := by
      refine ⟨?_, q2, q3, q4, q5, q6⟩
      obtain ⟨t, ht, -⟩ := State.frames_cons hr
      show ({ U with heap := s₂.heap, slotsUsed := s₂.slotsUsed } : State) = { U.setFrames U.frames with heap := s₂.heap, slotsUsed := s₂.slotsUsed }
      rw [State.setFrames_self ht]
    subst hg
    refine Or.inr ⟨q, ⟨(({ U with heap := s₂.heap, slotsUsed := s₂.slotsUsed } : State).setVm s₂.vm), Ls ++ L, c0 + mc, s0 + ms⟩,
      ⟨X.admits, X.cas, X.clock, X.frames, X.room, X.hears, X.method, X.code, (X.here.setHeapUsed s₂.heap s₂.slotsUsed).setVm hW'.alike, X.tail, State.WarmedH.trans X.warmed hW', X.limits, X.bytes, X.same.trans (hsame.setVm s.vm)⟩,
      ⟨g, mk, s₂, L, E, ce, rfl, rfl, hx, hce, hcv, hcl, rfl, hL, rfl, rfl⟩, ?_⟩
    show Steps p.tables e below _ (((({ U with heap := s₂.heap, slotsUsed := s₂.slotsUsed } : State).setVm s₂.vm).setTop g).pushFrame (.throwing q))
    rw [← hs₂]
    exact hsteps
end
variable {p : Program} {l : Launch} {e : Env} {R : Room} {s : State} {m : MethodId} {args : Array Value} {below : List Frame} {meth : Method} {c : Code} {T : State} {H : Heap} {locs : List Loc} {cells slots : Nat}
theorem vx_callVX (X : Stand p l e R s m args below meth c T locs cells slots) (hexec : p.tables.exec = Jvm.exec) {own C : String} {index : Nat} {y : MethodName} {bytes : ByteArray} {maxL : Nat} {ret : Option FieldType} {hh : List (Nat × Nat × Nat × Nat)}
    (hown : s.vm.findClass own = some m.cls) (hlink : (Cond.methodLink own index y).before args s = true) (hinst : (Cond.instanceMethod y).before args s = true) (hsel : (Cond.selects C y y).before args s = true)
    (hcode : (Cond.codeWith y bytes maxL ret hh).before args s = true) (hy : y.cls ≠ "java/lang/invoke/MethodHandle" ∧ y.cls ≠ "java/lang/invoke/VarHandle")
    {W9 : Nat} {Pre : Pt → Array Value → Prop} {Post : Pt → Array Value → Option Value → Pt → Prop} {PostX : Pt → Array Value → Addr → Pt → Prop} (hK : vx_Back l R p e below s args y 3 W9 Pre Post PostX)
    {b : Addr} {cellB : Cell} (hcell : T.heap[b]? = some cellB) (hobj : cellB.vm.isStatics = false) (hcls : s.vm.findClass C = some cellB.cls)
    {g : JFrame} (hg : g.method = m) (hsize : g.locals.size = c.maxLocals) {argsL rest : List Value} (hlen : ∀ sig, parseMethodDescriptor y.desc = some sig → argsL.length = sig.parameters.length)
    (hstack : g.stack = argsL.reverse ++ .ref b :: rest) (hW : 2 * g.monitorRoom + (rest.map fun v => v.category).sum ≤ W9) (hdg : decode c.code g.pc = .ok (.invokevirtual index, 3))
    (hpre : ∀ vm₁, s.WarmedH vm₁ → Pre ⟨T.setVm vm₁, locs, cells, slots⟩ (Value.ref b :: argsL).toArray) :
    (∃ (v : Option Value) (vm₁ : Vm) (B : Pt), s.WarmedH vm₁ ∧ Stand p l e R s m args below meth c B.U B.locs B.cells B.slots ∧ Post ⟨T.setVm vm₁, locs, cells, slots⟩ (Value.ref b :: argsL).toArray v B ∧
      ∀ target, Steps p.tables e below (B.U.setTop { g with pc := g.pc + 3, stack := v.toList ++ rest }) target → Steps p.tables e below (T.setTop g) target) ∨
    (∃ (q : Addr) (vm₁ : Vm) (B : Pt), s.WarmedH vm₁ ∧ Stand p l e R s m args below meth c B.U B.locs B.cells B.slots ∧ PostX ⟨T.setVm vm₁, locs, cells, slots⟩ (Value.ref b :: argsL).toArray q B ∧
      Steps p.tables e below (T.setTop g) ((B.U.setTop { g with stack := rest }).pushFrame (.throwing q))) := by
  obtain ⟨mk, methM, hnamed, hmethM, hstM, habM⟩ := Cond.instanceMethod_spec hinst
  obtain ⟨m8, methM', cM, hn8, hmethM', -, -, -, -, -, -, hsigM⟩ := Cond.codeWith_spec hcode
  cases Option.some.inj (hn8.symm.trans hnamed)
  cases hmethM.symm.trans hmethM'
  obtain ⟨c2, r2, m2, q1, q2, q3, q4, kP, hkP, hkPi⟩ := Cond.selects_spec hsel
  cases hcls.symm.trans q1
  cases (State.methodFound?_of_named hnamed hy).symm.trans q2
  cases hnamed.symm.trans q3
  have hselP : selectMethod e.platform s.vm cellB.cls mk = .method mk := by rw [Launch.admits_selectMethod X.admits]; exact q4
  obtain ⟨vm₁, X₁, hstep₁⟩ := X.invokevirtual hexec hown hlink hnamed hmethM hstM hkP hkPi hy (a := b) (cell := cellB) hcell
    (fun z h => by rw [h] at hobj; cases hobj) hselP hmethM habM hkP hkPi (g := g) hg (argsL := argsL) (rest := rest) (hlen _ hsigM) hstack hdg
  rcases hK m meth c ⟨T.setVm vm₁, locs, cells, slots⟩ { g with stack := rest } (.invokevirtual index) mk (Value.ref b :: argsL).toArray X₁ hg hsize hdg hW (X₁.named hnamed) (hpre vm₁ X₁.warmed) with ⟨v, B, X', hpost, hsteps⟩ | ⟨q, B, X', hpost, hsteps⟩
  · exact Or.inl ⟨v, vm₁, B, X₁.warmed, X', hpost, fun target h => hstep₁ _ fun acts => by rw [doInvoke_state]; exact hsteps.trans h⟩
  · exact Or.inr ⟨q, vm₁, B, X₁.warmed, X', hpost, hstep₁ _ fun acts => by rw [doInvoke_state]; exact hsteps⟩
theorem vx_callSX (X : Stand p l e R s m args below meth c T locs cells slots) (hexec : p.tables.exec = Jvm.exec) {own : String} {index : Nat} {y : MethodName} {bytes : ByteArray} {maxL : Nat} {ret : Option FieldType} {hh : List (Nat × Nat × Nat × Nat)}
    (hown : s.vm.findClass own = some m.cls) (hlink : (Cond.methodLink own index y).before args s = true) (hstat : (Cond.static y).before args s = true) (hinit : (Cond.initialized y.cls).before args s = true)
    (hcode : (Cond.codeWith y bytes maxL ret hh).before args s = true) (hy : y.cls ≠ "java/lang/invoke/MethodHandle" ∧ y.cls ≠ "java/lang/invoke/VarHandle")
    {W9 : Nat} {Pre : Pt → Array Value → Prop} {Post : Pt → Array Value → Option Value → Pt → Prop} {PostX : Pt → Array Value → Addr → Pt → Prop} (hK : vx_Back l R p e below s args y 3 W9 Pre Post PostX)
    {g : JFrame} (hg : g.method = m) (hsize : g.locals.size = c.maxLocals) {argsL rest : List Value} (hlen : ∀ sig, parseMethodDescriptor y.desc = some sig → argsL.length = sig.parameters.length)
    (hstack : g.stack = argsL.reverse ++ rest) (hW : 2 * g.monitorRoom + (rest.map fun v => v.category).sum ≤ W9) (hdg : decode c.code g.pc = .ok (.invokestatic index, 3))
    (hpre : ∀ vm₁, s.WarmedH vm₁ → Pre ⟨T.setVm vm₁, locs, cells, slots⟩ argsL.toArray) :
    (∃ (v : Option Value) (vm₁ : Vm) (B : Pt), s.WarmedH vm₁ ∧ Stand p l e R s m args below meth c B.U B.locs B.cells B.slots ∧ Post ⟨T.setVm vm₁, locs, cells, slots⟩ argsL.toArray v B ∧
      ∀ target, Steps p.tables e below (B.U.setTop { g with pc := g.pc + 3, stack := v.toList ++ rest }) target → Steps p.tables e below (T.setTop g) target) ∨
    (∃ (q : Addr) (vm₁ : Vm) (B : Pt), s.WarmedH vm₁ ∧ Stand p l e R s m args below meth c B.U B.locs B.cells B.slots ∧ PostX ⟨T.setVm vm₁, locs, cells, slots⟩ argsL.toArray q B ∧
      Steps p.tables e below (T.setTop g) ((B.U.setTop { g with stack := rest }).pushFrame (.throwing q))) := by
  obtain ⟨mk, methM, cM, hnamed, hmethM, -, -, -, -, -, -, hsigM⟩ := Cond.codeWith_spec hcode
  have hstatic : methM.isStatic = true := Cond.static_spec hnamed hmethM hstat
  obtain ⟨kP, hkP, -⟩ := className_of_methodNamed hnamed
  have hinitP : kP.init = .initialized := Cond.initialized_spec (findClass_of_methodNamed hnamed) hkP hinit
  obtain ⟨vm₁, X₁, hstep₁⟩ := X.invokestatic hexec hown hlink hnamed hmethM hstatic hkP hinitP hy (g := g) hg (argsL := argsL) (rest := rest) (hlen _ hsigM) hstack hdg
  rcases hK m meth c ⟨T.setVm vm₁, locs, cells, slots⟩ { g with stack := rest } (.invokestatic index) mk argsL.toArray X₁ hg hsize hdg hW (X₁.named hnamed) (hpre vm₁ X₁.warmed) with ⟨v, B, X', hpost, hsteps⟩ | ⟨q, B, X', hpost, hsteps⟩
  · exact Or.inl ⟨v, vm₁, B, X₁.warmed, X', hpost, fun target h => hstep₁ _ fun acts => by rw [doInvoke_state]; exact hsteps.trans h⟩
  · exact Or.inr ⟨q, vm₁, B, X₁.warmed, X', hpost, hstep₁ _ fun acts => by rw [doInvoke_state]; exact hsteps⟩
theorem vx_callVW (X : Stand p l e R s m args below meth c T locs cells slots) (hexec : p.tables.exec = Jvm.exec) {own C : String} {index : Nat} {y : MethodName} {bytes : ByteArray} {maxL : Nat} {ret : Option FieldType} {hh : List (Nat × Nat × Nat × Nat)}
    (hown : s.vm.findClass own = some m.cls) (hlink : (Cond.methodLink own index y).before args s = true) (hinst : (Cond.instanceMethod y).before args s = true) (hsel : (Cond.selects C y y).before args s = true)
    (hcode : (Cond.codeWith y bytes maxL ret hh).before args s = true) (hy : y.cls ≠ "java/lang/invoke/MethodHandle" ∧ y.cls ≠ "java/lang/invoke/VarHandle")
    {W9 : Nat} {Pre : Pt → Array Value → Prop} {Post : Pt → Array Value → Option Value → Pt → Prop} (hK : Back l R p e below s args y 3 W9 Pre Post)
    {b : Addr} {cellB : Cell} (hcell : T.heap[b]? = some cellB) (hobj : cellB.vm.isStatics = false) (hcls : s.vm.findClass C = some cellB.cls)
    {g : JFrame} (hg : g.method = m) (hsize : g.locals.size = c.maxLocals) {argsL rest : List Value} (hlen : ∀ sig, parseMethodDescriptor y.desc = some sig → argsL.length = sig.parameters.length)
    (hstack : g.stack = argsL.reverse ++ .ref b :: rest) (hW : 2 * g.monitorRoom + (rest.map fun v => v.category).sum ≤ W9) (hdg : decode c.code g.pc = .ok (.invokevirtual index, 3))
    (hpre : ∀ vm₁, s.WarmedH vm₁ → Pre ⟨T.setVm vm₁, locs, cells, slots⟩ (Value.ref b :: argsL).toArray) :
    ∃ (v : Option Value) (vm₁ : Vm) (B : Pt), s.WarmedH vm₁ ∧ Stand p l e R s m args below meth c B.U B.locs B.cells B.slots ∧ Post ⟨T.setVm vm₁, locs, cells, slots⟩ (Value.ref b :: argsL).toArray v B ∧
      ∀ target, Steps p.tables e below (B.U.setTop { g with pc := g.pc + 3, stack := v.toList ++ rest }) target → Steps p.tables e below (T.setTop g) target := by
  obtain ⟨mk, methM, hnamed, hmethM, hstM, habM⟩ := Cond.instanceMethod_spec hinst
  obtain ⟨m8, methM', cM, hn8, hmethM', -, -, -, -, -, -, hsigM⟩ := Cond.codeWith_spec hcode
  cases Option.some.inj (hn8.symm.trans hnamed)
  cases hmethM.symm.trans hmethM'
  obtain ⟨c2, r2, m2, q1, q2, q3, q4, kP, hkP, hkPi⟩ := Cond.selects_spec hsel
  cases hcls.symm.trans q1
  cases (State.methodFound?_of_named hnamed hy).symm.trans q2
  cases hnamed.symm.trans q3
  have hselP : selectMethod e.platform s.vm cellB.cls mk = .method mk := by rw [Launch.admits_selectMethod X.admits]; exact q4
  obtain ⟨vm₁, X₁, hstep₁⟩ := X.invokevirtual hexec hown hlink hnamed hmethM hstM hkP hkPi hy (a := b) (cell := cellB) hcell
    (fun z h => by rw [h] at hobj; cases hobj) hselP hmethM habM hkP hkPi (g := g) hg (argsL := argsL) (rest := rest) (hlen _ hsigM) hstack hdg
  obtain ⟨v, B, X', hpost, hsteps⟩ := hK m meth c ⟨T.setVm vm₁, locs, cells, slots⟩ { g with stack := rest } (.invokevirtual index) mk (Value.ref b :: argsL).toArray X₁ hg hsize hdg hW (X₁.named hnamed) (hpre vm₁ X₁.warmed)
  exact ⟨v, vm₁, B, X₁.warmed, X', hpost, fun target h => hstep₁ _ fun acts => by rw [doInvoke_state]; exact hsteps.trans h⟩
abbrev vx_CVW (R : Room) (s : State) (args : Array Value) (own C : String) (index : Nat) (y : MethodName) (bytes : ByteArray) (maxL : Nat) (ret : Option FieldType) (hh : List (Nat × Nat × Nat × Nat)) (ws : List Cond) (rm : Room) (mc ms n : Nat) : Prop :=
  (rm.cells = mc ∧ rm.slots = ms ∧ rm.frames + 1 ≤ R.frames ∧ 8 + (maxL + 11) + rm.locals ≤ R.locals ∧ (∀ w ∈ ws, ∀ (a' : Array Value) (U : State), s.WarmedH U.vm → w.before a' U = true) ∧ Cond.codeWith y bytes maxL ret hh ∈ ws) ∧
  (Cond.codeWith y bytes maxL ret hh).before args s = true ∧ (Cond.initialized y.cls).before args s = true ∧ (y.cls ≠ "java/lang/invoke/MethodHandle" ∧ y.cls ≠ "java/lang/invoke/VarHandle") ∧
  (∀ sig, parseMethodDescriptor y.desc = some sig → n = sig.parameters.length) ∧ (Cond.methodLink own index y).before args s = true ∧ (Cond.instanceMethod y).before args s = true ∧ (Cond.selects C y y).before args s = true
theorem vx_cwVW {own C : String} {index maxL mc ms : Nat} {y : MethodName} {bytes : ByteArray} {ret : Option FieldType} {hh : List (Nat × Nat × Nat × Nat)} {Ts ws ws' : List Cond} {rm : Room} (n : Nat) (ht : ∀ w ∈ Ts, w.before args s = true) (hT : GoodIn Ts (wsV own index C y ws)) (hw : ws = Cond.codeWith y bytes maxL ret hh :: ws') (hrc : rm.cells = mc) (hrs : rm.slots = ms)
    (hd : y.cls = C ∧ y.cls ≠ "java/lang/invoke/MethodHandle" ∧ y.cls ≠ "java/lang/invoke/VarHandle" ∧ (parseMethodDescriptor y.desc).map (fun d => d.parameters.length) = some n) (hR : rm.frames + 1 ≤ R.frames ∧ 8 + (maxL + 11) + rm.locals ≤ R.locals) :
    vx_CVW R s args own C index y bytes maxL ret hh ws rm mc ms n := by
  obtain ⟨hC, hd⟩ := hd
  subst hC
  have ok : ∀ w ∈ wsV own index y.cls y ws, w.before args s = true := fun w h => ht w (hT w h).1
  have hG : GoodIn Ts ws := fun w h => hT w (by unfold wsV; exact List.mem_append_right _ h)
  have hc : Cond.codeWith y bytes maxL ret hh ∈ ws := by rw [hw]; exact List.mem_cons_self
  refine ⟨⟨hrc, hrs, hR.1, hR.2, pay_in ht hG, hc⟩, ht _ (hG _ hc).1, ok _ (by simp [wsV]), ⟨hd.1, hd.2.1⟩, fun sig h => ?_, ok _ (by simp [wsV]), ok _ (by simp [wsV]), ok _ (by simp [wsV])⟩
  have h2 := hd.2.2
  rw [h] at h2
  exact (Option.some.inj h2).symm
theorem vx_runVW {y : MethodName} {bytes cc : ByteArray} {maxL nL mc ms n index : Nat} {ret : Option FieldType} {hh : List (Nat × Nat × Nat × Nat)} {ws : List Cond} {rm : Room} {Pc : Array Value → State → Prop} {Qc : Array Value → State → Outcome → State → Prop} {free : Addr → Prop} {Ts : List Cond} {own C : String} {b : Addr} {As rest : List Value} {g : JFrame}
    (S : CallFix p m c cc nL s args Ts own) (hM : Met l y ws rm Pc Qc mc ms free) (cw : vx_CVW R s args own C index y bytes maxL ret hh ws rm mc ms n) (hp : PreV s H C b Pc As)
    (hg : g.method = m) (hn : As.length = n) (hsize : g.locals.size = nL) (hstack : g.stack = As.reverse ++ .ref b :: rest) (hW : 2 * g.monitorRoom + (rest.map fun v => v.category).sum ≤ 8) (hdg : decode cc g.pc = .ok (.invokevirtual index, 3)) (hf : cells + mc ≤ R.cells ∧ slots + ms ≤ R.slots) :
    va_Run p l e R s m args below meth c H locs cells slots mc ms g rest (Qc (Value.ref b :: As).toArray) free := by
  obtain ⟨⟨hrc, hrs, hfr, hlo, hws, hcw⟩, hcode, hini, hy, hlen, hl, hin, hse⟩ := cw
  have hK : Back l R p e below s args y 3 8 (PreOf R mc ms Pc) (PostOf Qc mc ms free) := va_backW (hh := hh) (bytes := bytes) (maxL := maxL) (ret := ret) hM hp.1 hrc hrs hfr hlo hws hcw (fun a' U hW => word_at hW (Or.inl (by first | rfl | simp [Cond.onTables, Cond.keeps, Cond.steady])) hini)
  obtain ⟨hx, hb, hml, ho, -⟩ := S
  obtain ⟨-, ⟨cellB, hcB, hoB, hclB⟩, hPc⟩ := hp
  intro T hT X
  obtain ⟨v, vm₁, ⟨U', l2, c2, s2⟩, hW₁, X', ⟨g', mk, t, L, e1, e2, hq, h1, hL, h2, h3⟩, st⟩ := vx_callVW X hx (C := C) (hh := hh) (bytes := bytes) (maxL := maxL) (ret := ret) ho hl hin hse hcode hy hK (by rw [hT]; exact hcB) hoB hclB hg (hsize.trans hml.symm) (argsL := As) (rest := rest) (fun sig h => hn.trans (hlen sig h)) hstack hW (by rw [hb]; exact hdg)
    (fun vm₁ hW₁ => ⟨hf.1, hf.2, hPc (T.setVm vm₁) hT hW₁⟩)
  dsimp only [Pt.U, Pt.locs, Pt.cells, Pt.slots] at X' e1 e2 h1 h2 h3 st
  subst h1; subst h2; subst h3
  exact ⟨v, (T.setVm vm₁).calling g' mk (Value.ref b :: As).toArray, t, U', L, hT, X', hL, e1, e2, hq, st⟩
section
variable {y : MethodName} {bytes cc : ByteArray} {maxL nL mc ms n index : Nat} {ret : Option FieldType} {ws : List Cond} {rm : Room} {Pc : Array Value → State → Prop} {Qc : Array Value → State → Outcome → State → Prop} {XC : String → State → State → Prop} {free : Addr → Prop} {Ts : List Cond} {own C : String} {b : Addr} {As rest : List Value} {g : JFrame}
theorem vx_runVX {hh : List (Nat × Nat × Nat × Nat)} (S : CallFix p m c cc nL s args Ts own) (hM : vx_Met l y ws rm Pc Qc XC mc ms free) (cw : vx_CVW R s args own C index y bytes maxL ret hh ws rm mc ms n) (hp : PreV s H C b Pc As)
    (hg : g.method = m) (hn : As.length = n) (hsize : g.locals.size = nL) (hstack : g.stack = As.reverse ++ .ref b :: rest) (hW : 2 * g.monitorRoom + (rest.map fun v => v.category).sum ≤ 8) (hdg : decode cc g.pc = .ok (.invokevirtual index, 3)) (hf : cells + mc ≤ R.cells ∧ slots + ms ≤ R.slots) :
    vx_Run p l e R s m args below meth c H locs cells slots mc ms g rest (Qc (Value.ref b :: As).toArray) XC free := by
  obtain ⟨⟨hrc, hrs, hfr, hlo, hws, hcw⟩, hcode, hini, hy, hlen, hl, hin, hse⟩ := cw
  have hK : vx_Back l R p e below s args y 3 8 (PreOf R mc ms Pc) (PostOf Qc mc ms free) (vx_Post XC mc ms free) := vx_backW (hh := hh) (bytes := bytes) (maxL := maxL) (ret := ret) hM hp.1 hrc hrs hfr hlo hws hcw (fun a' U hW => word_at hW (Or.inl (by first | rfl | simp [Cond.onTables, Cond.keeps, Cond.steady])) hini)
  obtain ⟨hx, hb, hml, ho, -⟩ := S
  obtain ⟨-, ⟨cellB, hcB, hoB, hclB⟩, hPc⟩ := hp
  intro T hT X
  rcases vx_callVX X hx (C := C) (hh := hh) (bytes := bytes) (maxL := maxL) (ret := ret) ho hl hin hse hcode hy hK (by rw [hT]; exact hcB) hoB hclB hg (hsize.trans hml.symm) (argsL := As) (rest := rest) (fun sig h => hn.trans (hlen sig h)) hstack hW (by rw [hb]; exact hdg)
    (fun vm₁ hW₁ => ⟨hf.1, hf.2, hPc (T.setVm vm₁) hT hW₁⟩) with ⟨v, vm₁, ⟨U', l2, c2, s2⟩, hW₁, X', ⟨g', mk, t, L, e1, e2, hq, h1, hL, h2, h3⟩, st⟩ | ⟨q, vm₁, ⟨U', l2, c2, s2⟩, hW₁, X', ⟨g', mk, t, L, E, ce, e1, e2, hq, hce, hcv, hcl, h1, hL, h2, h3⟩, st⟩
  · dsimp only [Pt.U, Pt.locs, Pt.cells, Pt.slots] at X' e1 e2 h1 h2 h3 st
    subst h1; subst h2; subst h3
    exact Or.inl ⟨v, (T.setVm vm₁).calling g' mk (Value.ref b :: As).toArray, t, U', L, hT, X', hL, e1, e2, hq, st⟩
  · dsimp only [Pt.U, Pt.locs, Pt.cells, Pt.slots] at X' e1 e2 h1 h2 h3 st hcl
    subst h1; subst h2; subst h3
    exact Or.inr ⟨q, (T.setVm vm₁).calling g' mk (Value.ref b :: As).toArray, t, U', L, E, ce, hT, X', hL, e1, e2, hq, hce, hcv, vx_cls hW₁ hcl, st⟩
theorem vx_runSX {hh : List (Nat × Nat × Nat × Nat)} (S : CallFix p m c cc nL s args Ts own) (hM : vx_Met l y ws rm Pc Qc XC mc ms free) (cw : vx_CSW R s args own index y bytes maxL ret hh ws rm mc ms n) (hp : PreS s H Pc As)
    (hg : g.method = m) (hn : As.length = n) (hsize : g.locals.size = nL) (hstack : g.stack = As.reverse ++ rest) (hW : 2 * g.monitorRoom + (rest.map fun v => v.category).sum ≤ 8) (hdg : decode cc g.pc = .ok (.invokestatic index, 3)) (hf : cells + mc ≤ R.cells ∧ slots + ms ≤ R.slots) :
    vx_Run p l e R s m args below meth c H locs cells slots mc ms g rest (Qc As.toArray) XC free := by
  obtain ⟨⟨hrc, hrs, hfr, hlo, hws, hcw⟩, hcode, hini, hy, hlen, hl, hstt⟩ := cw
  have hK : vx_Back l R p e below s args y 3 8 (PreOf R mc ms Pc) (PostOf Qc mc ms free) (vx_Post XC mc ms free) := vx_backW (hh := hh) (bytes := bytes) (maxL := maxL) (ret := ret) hM hp.1 hrc hrs hfr hlo hws hcw (fun a' U hW => word_at hW (Or.inl (by first | rfl | simp [Cond.onTables, Cond.keeps, Cond.steady])) hini)
  obtain ⟨hx, hb, hml, ho, -⟩ := S
  intro T hT X
  rcases vx_callSX X hx (hh := hh) (bytes := bytes) (maxL := maxL) (ret := ret) ho hl hstt hini hcode hy hK hg (hsize.trans hml.symm) (argsL := As) (rest := rest) (fun sig h => hn.trans (hlen sig h)) hstack hW (by rw [hb]; exact hdg)
    (fun vm₁ hW₁ => ⟨hf.1, hf.2, hp.2 (T.setVm vm₁) hT hW₁⟩) with ⟨v, vm₁, ⟨U', l2, c2, s2⟩, hW₁, X', ⟨g', mk, t, L, e1, e2, hq, h1, hL, h2, h3⟩, st⟩ | ⟨q, vm₁, ⟨U', l2, c2, s2⟩, hW₁, X', ⟨g', mk, t, L, E, ce, e1, e2, hq, hce, hcv, hcl, h1, hL, h2, h3⟩, st⟩
  · dsimp only [Pt.U, Pt.locs, Pt.cells, Pt.slots] at X' e1 e2 h1 h2 h3 st
    subst h1; subst h2; subst h3
    exact Or.inl ⟨v, (T.setVm vm₁).calling g' mk As.toArray, t, U', L, hT, X', hL, e1, e2, hq, st⟩
  · dsimp only [Pt.U, Pt.locs, Pt.cells, Pt.slots] at X' e1 e2 h1 h2 h3 st hcl
    subst h1; subst h2; subst h3
    exact Or.inr ⟨q, (T.setVm vm₁).calling g' mk As.toArray, t, U', L, E, ce, hT, X', hL, e1, e2, hq, hce, hcv, vx_cls hW₁ hcl, st⟩
end
end VXH
theorem vx_ofWH {l : Launch} {y : MethodName} {ws ws' : List Cond} {rm : Room} {Pc : Array Value → State → Prop} {Qc : Array Value → State → Outcome → State → Prop} {XC : String → State → State → Prop} {mc ms : Nat} {free : Addr → Prop} {cc : ByteArray} {maxL : Nat} {ret : Option FieldType} {hh : List (Nat × Nat × Nat × Nat)}
    (hy : plainName y.cls = true) (hw : ws = Cond.codeWith y cc maxL ret hh :: ws')
    (body : ∀ p e s m args below meth c s₁, BodyLoose p l y (headSpec ws rm) cc maxL ret e s m args below meth c s₁ → c.maxLocals = maxL → Pc args s →
      W p l e (headSpec ws rm).room s m args below meth c s.heap [] 0 0 (vx_MQ below Qc XC args s mc ms free) (entryFrame m args maxL)) : vx_Met l y ws rm Pc Qc XC mc ms free := by
  refine MetFree.of_bodyS (code := cc) (maxLocals := maxL) (ret := ret) hy ?_ ?_
  · intro args s m h hn
    obtain ⟨m9, meth, c, hn9, h1, h2, h3, h4, -, h5, h6, -⟩ := Cond.codeWith_spec (atoms_spec (ws := ws) h _ (by rw [hw]; exact List.mem_cons_self))
    cases hn.symm.trans hn9
    exact ⟨meth, c, h1, h2, h3, h4, h5, h6⟩
  · intro p e s m args below meth c s₁ B hml hP _
    have hh0 : s₁.heap = s.heap := by rw [B.state]; rfl
    obtain ⟨t, a1, o, b1, b2, b3⟩ := body p e s m args below meth c s₁ B hml hP s₁ hh0 (Stand.of_body B)
    exact ⟨t, o, a1, b1, b2, b3⟩
/-! ===== END ===== -/
end
section
def RX0 : String := "CrushLoad$Links"
def TX0 : u_T := fun k => match k with
  | 0 => ("CrushLoad$Links", "count", "I", false)
  | 1 => ("CrushLoad$Links", "ordered", "Z", false)
  | 2 => ("CrushLoad$Links", "kind", "[I", true)
  | 3 => ("CrushLoad$Links", "from", "[I", true)
  | 4 => ("CrushLoad$Links", "to", "[I", true)
  | 5 => ("CrushLoad$Links", "steps", "[I", true)
  | 6 => ("CrushLoad$Links", "rate", "[I", true)
  | 7 => ("CrushLoad$Links", "begunForth", "[I", true)
  | 8 => ("CrushLoad$Links", "begunBack", "[I", true)
  | 9 => ("CrushLoad$Links", "closed", "[Z", true)
  | 10 => ("CrushLoad$Links", "announced", "[Z", true)
  | 11 => ("CrushLoad$Links", "turned", "[Z", true)
  | _ => ("CrushLoad$Links", "stopped", "[Z", true)
def tyX0 : Nat → FieldType := fun k => match k with
  | 0 => .int
  | 1 => .boolean
  | 2 => .array .int
  | 3 => .array .int
  | 4 => .array .int
  | 5 => .array .int
  | 6 => .array .int
  | 7 => .array .int
  | 8 => .array .int
  | 9 => .array .boolean
  | 10 => .array .boolean
  | 11 => .array .boolean
  | _ => .array .boolean
abbrev wsX00 : List Cond := u_ws RX0 TX0 13
theorem nmX0 : ∀ a, a < 13 → ∀ b, b < 13 → a ≠ b → (TX0 a).2.1 ≠ (TX0 b).2.1 := by decide +kernel
theorem tyX0_ok : ∀ k, k < 13 → parseFieldDescriptor (TX0 k).2.2.1 = some (tyX0 k) := by decide +kernel
abbrev cX0_init : ByteArray := prog_2_method_1_code
def yX0_init : MethodName := ⟨RX0, "<init>", "()V"⟩
abbrev cX0_has : ByteArray := prog_2_method_2_code
def yX0_has : MethodName := ⟨RX0, "has", "(I)Z"⟩
abbrev cX0_add : ByteArray := prog_2_method_3_code
def yX0_add : MethodName := ⟨RX0, "add", "(IIIII)I"⟩
abbrev cX0_announceClosings : ByteArray := prog_2_method_4_code
def yX0_announceClosings : MethodName := ⟨RX0, "announceClosings", "()I"⟩
abbrev cX0_rateAsItIs : ByteArray := prog_2_method_5_code
def yX0_rateAsItIs : MethodName := ⟨RX0, "rateAsItIs", "(I)I"⟩
abbrev cX0_isClosed : ByteArray := prog_2_method_6_code
def yX0_isClosed : MethodName := ⟨RX0, "isClosed", "(I)Z"⟩
abbrev cX0_roomBehind : ByteArray := prog_2_method_7_code
def yX0_roomBehind : MethodName := ⟨RX0, "roomBehind", "(III)I"⟩
abbrev cX0_isOpenTo : ByteArray := prog_2_method_8_code
def yX0_isOpenTo : MethodName := ⟨RX0, "isOpenTo", "(II)Z"⟩
abbrev cX0_carries : ByteArray := prog_2_method_9_code
def yX0_carries : MethodName := ⟨RX0, "carries", "(II)Z"⟩
abbrev cX0_goesForth : ByteArray := prog_2_method_10_code
def yX0_goesForth : MethodName := ⟨RX0, "goesForth", "(I)Z"⟩
abbrev cX0_goesBack : ByteArray := prog_2_method_11_code
def yX0_goesBack : MethodName := ⟨RX0, "goesBack", "(I)Z"⟩
abbrev cX0_copyFrom : ByteArray := prog_2_method_12_code
def yX0_copyFrom : MethodName := ⟨RX0, "copyFrom", "(LCrushLoad$Links;)V"⟩
def RX1 : String := "CrushLoad$Persons"
def TX1 : u_T := fun k => match k with
  | 0 => ("CrushLoad$Persons", "count", "I", false)
  | 1 => ("CrushLoad$Persons", "state", "[I", true)
  | 2 => ("CrushLoad$Persons", "room", "[I", true)
  | 3 => ("CrushLoad$Persons", "goal", "[I", true)
  | 4 => ("CrushLoad$Persons", "walker", "[I", true)
  | 5 => ("CrushLoad$Persons", "group", "[I", true)
  | 6 => ("CrushLoad$Persons", "came", "[I", true)
  | _ => ("CrushLoad$Persons", "wantsTrain", "[Z", true)
def tyX1 : Nat → FieldType := fun k => match k with
  | 0 => .int
  | 1 => .array .int
  | 2 => .array .int
  | 3 => .array .int
  | 4 => .array .int
  | 5 => .array .int
  | 6 => .array .int
  | _ => .array .boolean
abbrev wsX10 : List Cond := u_ws RX1 TX1 8
theorem nmX1 : ∀ a, a < 8 → ∀ b, b < 8 → a ≠ b → (TX1 a).2.1 ≠ (TX1 b).2.1 := by decide +kernel
theorem tyX1_ok : ∀ k, k < 8 → parseFieldDescriptor (TX1 k).2.2.1 = some (tyX1 k) := by decide +kernel
abbrev cX1_init : ByteArray := prog_3_method_1_code
def yX1_init : MethodName := ⟨RX1, "<init>", "()V"⟩
abbrev cX1_has : ByteArray := prog_3_method_2_code
def yX1_has : MethodName := ⟨RX1, "has", "(I)Z"⟩
abbrev cX1_add : ByteArray := prog_3_method_3_code
def yX1_add : MethodName := ⟨RX1, "add", "(IIIII)I"⟩
abbrev cX1_isWaiting : ByteArray := prog_3_method_4_code
def yX1_isWaiting : MethodName := ⟨RX1, "isWaiting", "(I)Z"⟩
abbrev cX1_isInside : ByteArray := prog_3_method_5_code
def yX1_isInside : MethodName := ⟨RX1, "isInside", "(I)Z"⟩
abbrev cX1_isKnowing : ByteArray := prog_3_method_6_code
def yX1_isKnowing : MethodName := ⟨RX1, "isKnowing", "(I)Z"⟩
abbrev cX1_isAnyInside : ByteArray := prog_3_method_7_code
def yX1_isAnyInside : MethodName := ⟨RX1, "isAnyInside", "()Z"⟩
abbrev cX1_firstForTrain : ByteArray := prog_3_method_8_code
def yX1_firstForTrain : MethodName := ⟨RX1, "firstForTrain", "(I)I"⟩
abbrev cX1_isAhead : ByteArray := prog_3_method_9_code
def yX1_isAhead : MethodName := ⟨RX1, "isAhead", "(IIZ)Z"⟩
abbrev cX1_copyFrom : ByteArray := prog_3_method_10_code
def yX1_copyFrom : MethodName := ⟨RX1, "copyFrom", "(LCrushLoad$Persons;)V"⟩
def RX2 : String := "CrushLoad$Rooms"
def TX2 : u_T := fun k => match k with
  | 0 => ("CrushLoad$Rooms", "count", "I", false)
  | 1 => ("CrushLoad$Rooms", "kind", "[I", true)
  | 2 => ("CrushLoad$Rooms", "limit", "[I", true)
  | 3 => ("CrushLoad$Rooms", "coming", "[I", true)
  | 4 => ("CrushLoad$Rooms", "came", "[I", true)
  | 5 => ("CrushLoad$Rooms", "left", "[I", true)
  | _ => ("CrushLoad$Rooms", "alarm", "[Z", true)
def tyX2 : Nat → FieldType := fun k => match k with
  | 0 => .int
  | 1 => .array .int
  | 2 => .array .int
  | 3 => .array .int
  | 4 => .array .int
  | 5 => .array .int
  | _ => .array .boolean
abbrev wsX20 : List Cond := u_ws RX2 TX2 7
theorem nmX2 : ∀ a, a < 7 → ∀ b, b < 7 → a ≠ b → (TX2 a).2.1 ≠ (TX2 b).2.1 := by decide +kernel
theorem tyX2_ok : ∀ k, k < 7 → parseFieldDescriptor (TX2 k).2.2.1 = some (tyX2 k) := by decide +kernel
abbrev cX2_init : ByteArray := prog_4_method_1_code
def yX2_init : MethodName := ⟨RX2, "<init>", "()V"⟩
abbrev cX2_has : ByteArray := prog_4_method_2_code
def yX2_has : MethodName := ⟨RX2, "has", "(I)Z"⟩
abbrev cX2_add : ByteArray := prog_4_method_3_code
def yX2_add : MethodName := ⟨RX2, "add", "(II)I"⟩
abbrev cX2_isStreet : ByteArray := prog_4_method_4_code
def yX2_isStreet : MethodName := ⟨RX2, "isStreet", "(I)Z"⟩
abbrev cX2_waiting : ByteArray := prog_4_method_5_code
def yX2_waiting : MethodName := ⟨RX2, "waiting", "(I)I"⟩
abbrev cX2_places : ByteArray := prog_4_method_6_code
def yX2_places : MethodName := ⟨RX2, "places", "(II)I"⟩
abbrev cX2_setAlarms : ByteArray := prog_4_method_7_code
def yX2_setAlarms : MethodName := ⟨RX2, "setAlarms", "()V"⟩
abbrev cX2_copyFrom : ByteArray := prog_4_method_8_code
def yX2_copyFrom : MethodName := ⟨RX2, "copyFrom", "(LCrushLoad$Rooms;)V"⟩
def RX3 : String := "CrushLoad$Station"
def TX3 : u_T := fun k => match k with
  | 0 => ("CrushLoad$Station", "rooms", "LCrushLoad$Rooms;", true)
  | 1 => ("CrushLoad$Station", "links", "LCrushLoad$Links;", true)
  | 2 => ("CrushLoad$Station", "persons", "LCrushLoad$Persons;", true)
  | 3 => ("CrushLoad$Station", "trains", "LCrushLoad$Trains;", true)
  | 4 => ("CrushLoad$Station", "ways", "LCrushLoad$Ways;", true)
  | 5 => ("CrushLoad$Station", "second", "I", false)
  | 6 => ("CrushLoad$Station", "next", "[I", true)
  | 7 => ("CrushLoad$Station", "queue", "[I", true)
  | 8 => ("CrushLoad$Station", "queued", "I", false)
  | _ => ("CrushLoad$Station", "begun", "I", false)
def tyX3 : Nat → FieldType := fun k => match k with
  | 0 => .object "CrushLoad$Rooms"
  | 1 => .object "CrushLoad$Links"
  | 2 => .object "CrushLoad$Persons"
  | 3 => .object "CrushLoad$Trains"
  | 4 => .object "CrushLoad$Ways"
  | 5 => .int
  | 6 => .array .int
  | 7 => .array .int
  | 8 => .int
  | _ => .int
abbrev wsX30 : List Cond := u_ws RX3 TX3 10
theorem nmX3 : ∀ a, a < 10 → ∀ b, b < 10 → a ≠ b → (TX3 a).2.1 ≠ (TX3 b).2.1 := by decide +kernel
theorem tyX3_ok : ∀ k, k < 10 → parseFieldDescriptor (TX3 k).2.2.1 = some (tyX3 k) := by decide +kernel
abbrev cX3_init : ByteArray := prog_5_method_1_code
def yX3_init : MethodName := ⟨RX3, "<init>", "()V"⟩
abbrev cX3_copyFrom : ByteArray := prog_5_method_2_code
def yX3_copyFrom : MethodName := ⟨RX3, "copyFrom", "(LCrushLoad$Station;)V"⟩
abbrev cX3_reckonWays : ByteArray := prog_5_method_3_code
def yX3_reckonWays : MethodName := ⟨RX3, "reckonWays", "()V"⟩
abbrev cX3_distance : ByteArray := prog_5_method_4_code
def yX3_distance : MethodName := ⟨RX3, "distance", "(I)I"⟩
abbrev cX3_nextLink : ByteArray := prog_5_method_5_code
def yX3_nextLink : MethodName := ⟨RX3, "nextLink", "(I)I"⟩
abbrev cX3_waitingFor : ByteArray := prog_5_method_6_code
def yX3_waitingFor : MethodName := ⟨RX3, "waitingFor", "(I)I"⟩
abbrev cX3_comeFromOutside : ByteArray := prog_5_method_7_code
def yX3_comeFromOutside : MethodName := ⟨RX3, "comeFromOutside", "(IIII)I"⟩
abbrev cX3_alight : ByteArray := prog_5_method_8_code
def yX3_alight : MethodName := ⟨RX3, "alight", "(III)I"⟩
abbrev cX3_goOutAtGoal : ByteArray := prog_5_method_9_code
def yX3_goOutAtGoal : MethodName := ⟨RX3, "goOutAtGoal", "(I)V"⟩
abbrev cX3_orderToClear : ByteArray := prog_5_method_10_code
def yX3_orderToClear : MethodName := ⟨RX3, "orderToClear", "()I"⟩
abbrev cX3_takeNearestStreet : ByteArray := prog_5_method_11_code
def yX3_takeNearestStreet : MethodName := ⟨RX3, "takeNearestStreet", "(I)Z"⟩
abbrev cX3_passSecond : ByteArray := prog_5_method_12_code
def yX3_passSecond : MethodName := ⟨RX3, "passSecond", "()V"⟩
abbrev cX3_arrive : ByteArray := prog_5_method_13_code
def yX3_arrive : MethodName := ⟨RX3, "arrive", "()V"⟩
abbrev cX3_serve : ByteArray := prog_5_method_14_code
def yX3_serve : MethodName := ⟨RX3, "serve", "(I)V"⟩
abbrev cX3_goAboard : ByteArray := prog_5_method_15_code
def yX3_goAboard : MethodName := ⟨RX3, "goAboard", "(II)V"⟩
abbrev cX3_chooseNextLinks : ByteArray := prog_5_method_16_code
def yX3_chooseNextLinks : MethodName := ⟨RX3, "chooseNextLinks", "()V"⟩
abbrev cX3_beginOn : ByteArray := prog_5_method_17_code
def yX3_beginOn : MethodName := ⟨RX3, "beginOn", "(I)V"⟩
abbrev cX3_lineUp : ByteArray := prog_5_method_18_code
def yX3_lineUp : MethodName := ⟨RX3, "lineUp", "(I)V"⟩
abbrev cX3_lineUpPerson : ByteArray := prog_5_method_19_code
def yX3_lineUpPerson : MethodName := ⟨RX3, "lineUpPerson", "(IZ)V"⟩
abbrev cX3_beginTogether : ByteArray := prog_5_method_20_code
def yX3_beginTogether : MethodName := ⟨RX3, "beginTogether", "(II)V"⟩
abbrev cX3_sizeOfReadyParty : ByteArray := prog_5_method_21_code
def yX3_sizeOfReadyParty : MethodName := ⟨RX3, "sizeOfReadyParty", "(II)I"⟩
abbrev cX3_hasPlaceFor : ByteArray := prog_5_method_22_code
def yX3_hasPlaceFor : MethodName := ⟨RX3, "hasPlaceFor", "(III)Z"⟩
abbrev cX3_begin : ByteArray := prog_5_method_23_code
def yX3_begin : MethodName := ⟨RX3, "begin", "(II)V"⟩
def RX4 : String := "CrushLoad$Trains"
def TX4 : u_T := fun k => match k with
  | 0 => ("CrushLoad$Trains", "count", "I", false)
  | 1 => ("CrushLoad$Trains", "platform", "[I", true)
  | 2 => ("CrushLoad$Trains", "space", "[I", true)
  | 3 => ("CrushLoad$Trains", "stays", "[I", true)
  | 4 => ("CrushLoad$Trains", "longer", "[I", true)
  | 5 => ("CrushLoad$Trains", "aboard", "[I", true)
  | _ => ("CrushLoad$Trains", "alighted", "[I", true)
def tyX4 : Nat → FieldType := fun k => match k with
  | 0 => .int
  | 1 => .array .int
  | 2 => .array .int
  | 3 => .array .int
  | 4 => .array .int
  | 5 => .array .int
  | _ => .array .int
abbrev wsX40 : List Cond := u_ws RX4 TX4 7
theorem nmX4 : ∀ a, a < 7 → ∀ b, b < 7 → a ≠ b → (TX4 a).2.1 ≠ (TX4 b).2.1 := by decide +kernel
theorem tyX4_ok : ∀ k, k < 7 → parseFieldDescriptor (TX4 k).2.2.1 = some (tyX4 k) := by decide +kernel
abbrev cX4_init : ByteArray := prog_6_method_1_code
def yX4_init : MethodName := ⟨RX4, "<init>", "()V"⟩
abbrev cX4_has : ByteArray := prog_6_method_2_code
def yX4_has : MethodName := ⟨RX4, "has", "(I)Z"⟩
abbrev cX4_add : ByteArray := prog_6_method_3_code
def yX4_add : MethodName := ⟨RX4, "add", "(IIII)I"⟩
abbrev cX4_isThere : ByteArray := prog_6_method_4_code
def yX4_isThere : MethodName := ⟨RX4, "isThere", "(I)Z"⟩
abbrev cX4_isOneAt : ByteArray := prog_6_method_5_code
def yX4_isOneAt : MethodName := ⟨RX4, "isOneAt", "(I)Z"⟩
abbrev cX4_copyFrom : ByteArray := prog_6_method_6_code
def yX4_copyFrom : MethodName := ⟨RX4, "copyFrom", "(LCrushLoad$Trains;)V"⟩
def RX5 : String := "CrushLoad$Ways"
def TX5 : u_T := fun k => match k with
  | 0 => ("CrushLoad$Ways", "distances", "[I", true)
  | _ => ("CrushLoad$Ways", "nexts", "[I", true)
def tyX5 : Nat → FieldType := fun k => match k with
  | 0 => .array .int
  | _ => .array .int
abbrev wsX50 : List Cond := u_ws RX5 TX5 2
theorem nmX5 : ∀ a, a < 2 → ∀ b, b < 2 → a ≠ b → (TX5 a).2.1 ≠ (TX5 b).2.1 := by decide +kernel
theorem tyX5_ok : ∀ k, k < 2 → parseFieldDescriptor (TX5 k).2.2.1 = some (tyX5 k) := by decide +kernel
abbrev cX5_init : ByteArray := prog_7_method_1_code
def yX5_init : MethodName := ⟨RX5, "<init>", "()V"⟩
abbrev cX5_distance : ByteArray := prog_7_method_2_code
def yX5_distance : MethodName := ⟨RX5, "distance", "(III)I"⟩
abbrev cX5_next : ByteArray := prog_7_method_3_code
def yX5_next : MethodName := ⟨RX5, "next", "(III)I"⟩
abbrev cX5_reckon : ByteArray := prog_7_method_4_code
def yX5_reckon : MethodName := ⟨RX5, "reckon", "(ILCrushLoad$Links;)V"⟩
abbrev cX5_cell : ByteArray := prog_7_method_5_code
def yX5_cell : MethodName := ⟨RX5, "cell", "(III)I"⟩
abbrev cX5_clean : ByteArray := prog_7_method_6_code
def yX5_clean : MethodName := ⟨RX5, "clean", "(I)V"⟩
abbrev cX5_lay : ByteArray := prog_7_method_7_code
def yX5_lay : MethodName := ⟨RX5, "lay", "(IIILCrushLoad$Links;)V"⟩
abbrev cX5_join : ByteArray := prog_7_method_8_code
def yX5_join : MethodName := ⟨RX5, "join", "(II)V"⟩
abbrev cX5_choose : ByteArray := prog_7_method_9_code
def yX5_choose : MethodName := ⟨RX5, "choose", "(IIILCrushLoad$Links;)V"⟩
abbrev cX5_copyFrom : ByteArray := prog_7_method_10_code
def yX5_copyFrom : MethodName := ⟨RX5, "copyFrom", "(LCrushLoad$Ways;)V"⟩
def RX6 : String := "CrushLoad"
def TX6 : u_T := fun k => match k with
  | 0 => ("CrushLoad", "station", "LCrushLoad$Station;", true)
  | _ => ("CrushLoad", "foretold", "LCrushLoad$Station;", true)
def tyX6 : Nat → FieldType := fun k => match k with
  | 0 => .object "CrushLoad$Station"
  | _ => .object "CrushLoad$Station"
abbrev wsX60 : List Cond := u_ws RX6 TX6 2
theorem nmX6 : ∀ a, a < 2 → ∀ b, b < 2 → a ≠ b → (TX6 a).2.1 ≠ (TX6 b).2.1 := by decide +kernel
theorem tyX6_ok : ∀ k, k < 2 → parseFieldDescriptor (TX6 k).2.2.1 = some (tyX6 k) := by decide +kernel
abbrev cX6_init : ByteArray := prog_1_method_1_code
def yX6_init : MethodName := ⟨RX6, "<init>", "()V"⟩
abbrev cX6_room : ByteArray := prog_1_method_2_code
def yX6_room : MethodName := ⟨RX6, "room", "(II)I"⟩
abbrev cX6_link : ByteArray := prog_1_method_3_code
def yX6_link : MethodName := ⟨RX6, "link", "(IIIII)I"⟩
abbrev cX6_close : ByteArray := prog_1_method_4_code
def yX6_close : MethodName := ⟨RX6, "close", "(IZ)Z"⟩
abbrev cX6_announce : ByteArray := prog_1_method_5_code
def yX6_announce : MethodName := ⟨RX6, "announce", "()I"⟩
abbrev cX6_turn : ByteArray := prog_1_method_6_code
def yX6_turn : MethodName := ⟨RX6, "turn", "(I)Z"⟩
abbrev cX6_stop : ByteArray := prog_1_method_7_code
def yX6_stop : MethodName := ⟨RX6, "stop", "(IZ)Z"⟩
abbrev cX6_meter : ByteArray := prog_1_method_8_code
def yX6_meter : MethodName := ⟨RX6, "meter", "(II)I"⟩
abbrev cX6_enter : ByteArray := prog_1_method_9_code
def yX6_enter : MethodName := ⟨RX6, "enter", "(IIZZI)I"⟩
abbrev cX6_train : ByteArray := prog_1_method_10_code
def yX6_train : MethodName := ⟨RX6, "train", "(IIIII)I"⟩
abbrev cX6_clear : ByteArray := prog_1_method_11_code
def yX6_clear : MethodName := ⟨RX6, "clear", "()I"⟩
abbrev cX6_pass : ByteArray := prog_1_method_12_code
def yX6_pass : MethodName := ⟨RX6, "pass", "(I)I"⟩
abbrev cX6_now : ByteArray := prog_1_method_13_code
def yX6_now : MethodName := ⟨RX6, "now", "()I"⟩
abbrev cX6_ofRoom : ByteArray := prog_1_method_14_code
def yX6_ofRoom : MethodName := ⟨RX6, "ofRoom", "(II)I"⟩
abbrev cX6_ofLink : ByteArray := prog_1_method_15_code
def yX6_ofLink : MethodName := ⟨RX6, "ofLink", "(II)I"⟩
abbrev cX6_person : ByteArray := prog_1_method_16_code
def yX6_person : MethodName := ⟨RX6, "person", "(II)I"⟩
abbrev cX6_ofTrain : ByteArray := prog_1_method_17_code
def yX6_ofTrain : MethodName := ⟨RX6, "ofTrain", "(II)I"⟩
abbrev cX6_foretell : ByteArray := prog_1_method_18_code
def yX6_foretell : MethodName := ⟨RX6, "foretell", "(II)I"⟩
abbrev cX6_clears : ByteArray := prog_1_method_19_code
def yX6_clears : MethodName := ⟨RX6, "clears", "()I"⟩
abbrev cX6_alone : ByteArray := prog_1_method_20_code
def yX6_alone : MethodName := ⟨RX6, "alone", "(I)I"⟩
abbrev cX6_aloneAnew : ByteArray := prog_1_method_21_code
def yX6_aloneAnew : MethodName := ⟨RX6, "aloneAnew", "(I)I"⟩
abbrev cX6_needRange : ByteArray := prog_1_method_22_code
def yX6_needRange : MethodName := ⟨RX6, "needRange", "(III)V"⟩
abbrev cX6_needFit : ByteArray := prog_1_method_23_code
def yX6_needFit : MethodName := ⟨RX6, "needFit", "(Z)V"⟩
abbrev cX6_needPlace : ByteArray := prog_1_method_24_code
def yX6_needPlace : MethodName := ⟨RX6, "needPlace", "(Z)V"⟩
abbrev cX6_needRoom : ByteArray := prog_1_method_25_code
def yX6_needRoom : MethodName := ⟨RX6, "needRoom", "(I)V"⟩
abbrev cX6_needLink : ByteArray := prog_1_method_26_code
def yX6_needLink : MethodName := ⟨RX6, "needLink", "(I)V"⟩
abbrev cX6_needPerson : ByteArray := prog_1_method_27_code
def yX6_needPerson : MethodName := ⟨RX6, "needPerson", "(I)V"⟩
abbrev cX6_needTrain : ByteArray := prog_1_method_28_code
def yX6_needTrain : MethodName := ⟨RX6, "needTrain", "(I)V"⟩
abbrev cX6_tryAllWays : ByteArray := prog_1_method_29_code
def yX6_tryAllWays : MethodName := ⟨RX6, "tryAllWays", "(LCrushLoad$Links;IIIII)I"⟩
def RJ9 : String := "java/lang/Math"
def TJ9 : u_T := fun k => match k with
  | _ => ("", "", "", false)
def tyJ9 : Nat → FieldType := fun k => match k with
  | _ => .int
abbrev wsJ90 : List Cond := u_ws RJ9 TJ9 0
theorem nmJ9 : ∀ a, a < 0 → ∀ b, b < 0 → a ≠ b → (TJ9 a).2.1 ≠ (TJ9 b).2.1 := by decide +kernel
theorem tyJ9_ok : ∀ k, k < 0 → parseFieldDescriptor (TJ9 k).2.2.1 = some (tyJ9 k) := by decide +kernel
abbrev cJ9_max_7cf53 : ByteArray := prog_14_method_65_code
def yJ9_max_7cf53 : MethodName := ⟨RJ9, "max", "(II)I"⟩
abbrev cJ9_min_7cf53 : ByteArray := prog_14_method_69_code
def yJ9_min_7cf53 : MethodName := ⟨RJ9, "min", "(II)I"⟩
def RJ0 : String := "java/lang/String"
def TJ0 : u_T := fun k => match k with
  | _ => ("", "", "", false)
def tyJ0 : Nat → FieldType := fun k => match k with
  | _ => .int
abbrev wsJ00 : List Cond := u_ws RJ0 TJ0 0
theorem nmJ0 : ∀ a, a < 0 → ∀ b, b < 0 → a ≠ b → (TJ0 a).2.1 ≠ (TJ0 b).2.1 := by decide +kernel
theorem tyJ0_ok : ∀ k, k < 0 → parseFieldDescriptor (TJ0 k).2.2.1 = some (tyJ0 k) := by decide +kernel
def RL : String := "CrushLoadLaw"
abbrev cL_from : ByteArray := method_2_code
def yL_from : MethodName := ⟨RL, "from", "([III)I"⟩
abbrev cL_to : ByteArray := method_3_code
def yL_to : MethodName := ⟨RL, "to", "([I[I[IIII)I"⟩
abbrev cL_distance : ByteArray := method_4_code
def yL_distance : MethodName := ⟨RL, "distance", "([I[I[IIII)I"⟩
abbrev cL_next : ByteArray := method_5_code
def yL_next : MethodName := ⟨RL, "next", "([I[I[II)I"⟩
abbrev cL_many : ByteArray := method_6_code
def yL_many : MethodName := ⟨RL, "many", "([I[III)I"⟩
abbrev cL_places : ByteArray := method_7_code
def yL_places : MethodName := ⟨RL, "places", "([I[I[II)I"⟩
abbrev cL_out : ByteArray := method_8_code
def yL_out : MethodName := ⟨RL, "out", "([I[II)V"⟩
abbrev cL_come : ByteArray := method_9_code
def yL_come : MethodName := ⟨RL, "come", "([I[I[II)V"⟩
abbrev cL_board : ByteArray := method_10_code
def yL_board : MethodName := ⟨RL, "board", "([I[I[I[II)V"⟩
abbrev cL_isAhead : ByteArray := method_11_code
def yL_isAhead : MethodName := ⟨RL, "isAhead", "([I[IIII)Z"⟩
abbrev cL_serve : ByteArray := method_12_code
def yL_serve : MethodName := ⟨RL, "serve", "([I[I[I[I[II)V"⟩
abbrev cL_second : ByteArray := method_13_code
def yL_second : MethodName := ⟨RL, "second", "([I[I[I[I[I)V"⟩
abbrev cL_clear : ByteArray := method_14_code
def yL_clear : MethodName := ⟨RL, "clear", "([I[I[I[I)I"⟩
abbrev cL_copy : ByteArray := method_15_code
def yL_copy : MethodName := ⟨RL, "copy", "([I[II)V"⟩
abbrev cL_foretold : ByteArray := method_16_code
def yL_foretold : MethodName := ⟨RL, "foretold", "([I[I[I[I[III)I"⟩
abbrev cL_isClear : ByteArray := method_17_code
def yL_isClear : MethodName := ⟨RL, "isClear", "([I[I)Z"⟩
abbrev cL_isSame : ByteArray := method_18_code
def yL_isSame : MethodName := ⟨RL, "isSame", "(LCrushLoad;[I[I[I[I[II)Z"⟩
abbrev cL_isEntered : ByteArray := method_19_code
def yL_isEntered : MethodName := ⟨RL, "isEntered", "(LCrushLoad;[I[I[IIII)Z"⟩
abbrev cL_isTrain : ByteArray := method_20_code
def yL_isTrain : MethodName := ⟨RL, "isTrain", "(LCrushLoad;[I[I[I[IIII)Z"⟩
abbrev cL_isLink : ByteArray := method_21_code
def yL_isLink : MethodName := ⟨RL, "isLink", "(LCrushLoad;[I[III)Z"⟩
abbrev cL_isBegun : ByteArray := method_22_code
def yL_isBegun : MethodName := ⟨RL, "isBegun", "(LCrushLoad;[I[I[I[I)Z"⟩
abbrev cL_holds : ByteArray := method_23_code
def yL_holds : MethodName := ⟨RL, "holds", "([I)Z"⟩
abbrev cL_isHeld : ByteArray := method_24_code
def yL_isHeld : MethodName := ⟨RL, "isHeld", "([I)Z"⟩
abbrev cL_law : ByteArray := code
def yL_law : MethodName := ⟨RL, "law", "([I)Z"⟩
abbrev mj_cl : List vw_C := [(RX0, TX0, 13), (RX1, TX1, 8), (RX2, TX2, 7), (RX3, TX3, 10), (RX4, TX4, 7), (RX5, TX5, 2), (RX6, TX6, 2)]
end
section
abbrev mj_M : Type := Nat → Nat → Int32
abbrev mj_K : Type := Nat → Int32 → mj_M → Prop
abbrev mj_D : Type := (Nat × List (Option Nat)) ⊕ (Nat × Nat)
abbrev mj_I : Type := Instr × Nat × Nat × List Nat
-- written by a program (wip/whole/gen/tab.py): methods, shapes, words
abbrev k2_has : Nat := 0
abbrev k2_add : Nat := 1
abbrev k2_isStreet : Nat := 2
abbrev k2_waiting : Nat := 3
abbrev k2_places : Nat := 4
abbrev k2_setAlarms : Nat := 5
abbrev k2_copyFrom : Nat := 6
abbrev k0_has : Nat := 7
abbrev k0_add : Nat := 8
abbrev k0_announceClosings : Nat := 9
abbrev k0_rateAsItIs : Nat := 10
abbrev k0_isClosed : Nat := 11
abbrev k0_roomBehind : Nat := 12
abbrev k0_isOpenTo : Nat := 13
abbrev k0_carries : Nat := 14
abbrev k0_goesForth : Nat := 15
abbrev k0_goesBack : Nat := 16
abbrev k0_copyFrom : Nat := 17
abbrev k1_has : Nat := 18
abbrev k1_add : Nat := 19
abbrev k1_isWaiting : Nat := 20
abbrev k1_isInside : Nat := 21
abbrev k1_isKnowing : Nat := 22
abbrev k1_isAnyInside : Nat := 23
abbrev k1_firstForTrain : Nat := 24
abbrev k1_isAhead : Nat := 25
abbrev k1_copyFrom : Nat := 26
abbrev k4_has : Nat := 27
abbrev k4_add : Nat := 28
abbrev k4_isThere : Nat := 29
abbrev k4_isOneAt : Nat := 30
abbrev k4_copyFrom : Nat := 31
abbrev k5_distance : Nat := 32
abbrev k5_next : Nat := 33
abbrev k5_reckon : Nat := 34
abbrev k5_cell : Nat := 35
abbrev k5_clean : Nat := 36
abbrev k5_lay : Nat := 37
abbrev k5_join : Nat := 38
abbrev k5_choose : Nat := 39
abbrev k5_copyFrom : Nat := 40
abbrev k3_copyFrom : Nat := 41
abbrev k3_reckonWays : Nat := 42
abbrev k3_distance : Nat := 43
abbrev k3_nextLink : Nat := 44
abbrev k3_waitingFor : Nat := 45
abbrev k3_comeFromOutside : Nat := 46
abbrev k3_alight : Nat := 47
abbrev k3_goOutAtGoal : Nat := 48
abbrev k3_orderToClear : Nat := 49
abbrev k3_takeNearestStreet : Nat := 50
abbrev k3_passSecond : Nat := 51
abbrev k3_arrive : Nat := 52
abbrev k3_serve : Nat := 53
abbrev k3_goAboard : Nat := 54
abbrev k3_chooseNextLinks : Nat := 55
abbrev k3_beginOn : Nat := 56
abbrev k3_lineUp : Nat := 57
abbrev k3_lineUpPerson : Nat := 58
abbrev k3_beginTogether : Nat := 59
abbrev k3_sizeOfReadyParty : Nat := 60
abbrev k3_hasPlaceFor : Nat := 61
abbrev k3_begin : Nat := 62
abbrev k6_room : Nat := 63
abbrev k6_link : Nat := 64
abbrev k6_close : Nat := 65
abbrev k6_announce : Nat := 66
abbrev k6_turn : Nat := 67
abbrev k6_stop : Nat := 68
abbrev k6_meter : Nat := 69
abbrev k6_enter : Nat := 70
abbrev k6_train : Nat := 71
abbrev k6_clear : Nat := 72
abbrev k6_pass : Nat := 73
abbrev k6_now : Nat := 74
abbrev k6_ofRoom : Nat := 75
abbrev k6_ofLink : Nat := 76
abbrev k6_person : Nat := 77
abbrev k6_ofTrain : Nat := 78
abbrev k6_foretell : Nat := 79
abbrev k6_clears : Nat := 80
abbrev k6_alone : Nat := 81
abbrev k6_aloneAnew : Nat := 82
abbrev k6_needRange : Nat := 83
abbrev k6_needFit : Nat := 84
abbrev k6_needPlace : Nat := 85
abbrev k6_needRoom : Nat := 86
abbrev k6_needLink : Nat := 87
abbrev k6_needPerson : Nat := 88
abbrev k6_needTrain : Nat := 89
abbrev k6_tryAllWays : Nat := 90
abbrev k7_from : Nat := 91
abbrev k7_to : Nat := 92
abbrev k7_distance : Nat := 93
abbrev k7_next : Nat := 94
abbrev k7_many : Nat := 95
abbrev k7_places : Nat := 96
abbrev k7_out : Nat := 97
abbrev k7_come : Nat := 98
abbrev k7_board : Nat := 99
abbrev k7_isAhead : Nat := 100
abbrev k7_serve : Nat := 101
abbrev k7_second : Nat := 102
abbrev k7_clear : Nat := 103
abbrev k7_copy : Nat := 104
abbrev k7_foretold : Nat := 105
abbrev k7_isClear : Nat := 106
abbrev k7_isSame : Nat := 107
abbrev k7_isEntered : Nat := 108
abbrev k7_isTrain : Nat := 109
abbrev k7_isLink : Nat := 110
abbrev k7_isBegun : Nat := 111
abbrev k7_holds : Nat := 112
def mj_N : Nat := 113
def mj_yT : List MethodName := [yX2_has, yX2_add, yX2_isStreet, yX2_waiting, yX2_places, yX2_setAlarms, yX2_copyFrom, yX0_has, yX0_add, yX0_announceClosings, yX0_rateAsItIs, yX0_isClosed, yX0_roomBehind, yX0_isOpenTo, yX0_carries, yX0_goesForth, yX0_goesBack, yX0_copyFrom, yX1_has, yX1_add, yX1_isWaiting, yX1_isInside, yX1_isKnowing, yX1_isAnyInside, yX1_firstForTrain, yX1_isAhead, yX1_copyFrom, yX4_has, yX4_add, yX4_isThere, yX4_isOneAt, yX4_copyFrom, yX5_distance, yX5_next, yX5_reckon, yX5_cell, yX5_clean, yX5_lay, yX5_join, yX5_choose, yX5_copyFrom, yX3_copyFrom, yX3_reckonWays, yX3_distance, yX3_nextLink, yX3_waitingFor, yX3_comeFromOutside, yX3_alight, yX3_goOutAtGoal, yX3_orderToClear, yX3_takeNearestStreet, yX3_passSecond, yX3_arrive, yX3_serve, yX3_goAboard, yX3_chooseNextLinks, yX3_beginOn, yX3_lineUp, yX3_lineUpPerson, yX3_beginTogether, yX3_sizeOfReadyParty, yX3_hasPlaceFor, yX3_begin, yX6_room, yX6_link, yX6_close, yX6_announce, yX6_turn, yX6_stop, yX6_meter, yX6_enter, yX6_train, yX6_clear, yX6_pass, yX6_now, yX6_ofRoom, yX6_ofLink, yX6_person, yX6_ofTrain, yX6_foretell, yX6_clears, yX6_alone, yX6_aloneAnew, yX6_needRange, yX6_needFit, yX6_needPlace, yX6_needRoom, yX6_needLink, yX6_needPerson, yX6_needTrain, yX6_tryAllWays, yL_from, yL_to, yL_distance, yL_next, yL_many, yL_places, yL_out, yL_come, yL_board, yL_isAhead, yL_serve, yL_second, yL_clear, yL_copy, yL_foretold, yL_isClear, yL_isSame, yL_isEntered, yL_isTrain, yL_isLink, yL_isBegun, yL_holds]
def mj_cT : List ByteArray := [cX2_has, cX2_add, cX2_isStreet, cX2_waiting, cX2_places, cX2_setAlarms, cX2_copyFrom, cX0_has, cX0_add, cX0_announceClosings, cX0_rateAsItIs, cX0_isClosed, cX0_roomBehind, cX0_isOpenTo, cX0_carries, cX0_goesForth, cX0_goesBack, cX0_copyFrom, cX1_has, cX1_add, cX1_isWaiting, cX1_isInside, cX1_isKnowing, cX1_isAnyInside, cX1_firstForTrain, cX1_isAhead, cX1_copyFrom, cX4_has, cX4_add, cX4_isThere, cX4_isOneAt, cX4_copyFrom, cX5_distance, cX5_next, cX5_reckon, cX5_cell, cX5_clean, cX5_lay, cX5_join, cX5_choose, cX5_copyFrom, cX3_copyFrom, cX3_reckonWays, cX3_distance, cX3_nextLink, cX3_waitingFor, cX3_comeFromOutside, cX3_alight, cX3_goOutAtGoal, cX3_orderToClear, cX3_takeNearestStreet, cX3_passSecond, cX3_arrive, cX3_serve, cX3_goAboard, cX3_chooseNextLinks, cX3_beginOn, cX3_lineUp, cX3_lineUpPerson, cX3_beginTogether, cX3_sizeOfReadyParty, cX3_hasPlaceFor, cX3_begin, cX6_room, cX6_link, cX6_close, cX6_announce, cX6_turn, cX6_stop, cX6_meter, cX6_enter, cX6_train, cX6_clear, cX6_pass, cX6_now, cX6_ofRoom, cX6_ofLink, cX6_person, cX6_ofTrain, cX6_foretell, cX6_clears, cX6_alone, cX6_aloneAnew, cX6_needRange, cX6_needFit, cX6_needPlace, cX6_needRoom, cX6_needLink, cX6_needPerson, cX6_needTrain, cX6_tryAllWays, cL_from, cL_to, cL_distance, cL_next, cL_many, cL_places, cL_out, cL_come, cL_board, cL_isAhead, cL_serve, cL_second, cL_clear, cL_copy, cL_foretold, cL_isClear, cL_isSame, cL_isEntered, cL_isTrain, cL_isLink, cL_isBegun, cL_holds]
def mj_nT : List Nat := [2, 4, 2, 2, 3, 3, 3, 2, 7, 3, 2, 2, 4, 3, 3, 2, 2, 3, 2, 7, 2, 2, 2, 2, 5, 5, 3, 2, 6, 2, 3, 3, 5, 5, 6, 4, 4, 6, 9, 9, 3, 2, 1, 2, 2, 4, 6, 7, 3, 3, 8, 2, 3, 5, 3, 2, 4, 4, 4, 6, 7, 7, 5, 4, 7, 4, 2, 3, 4, 4, 7, 7, 1, 3, 1, 3, 3, 3, 3, 4, 2, 2, 4, 3, 1, 1, 2, 2, 2, 2, 10, 4, 10, 11, 10, 6, 4, 4, 4, 12, 6, 18, 9, 10, 4, 14, 4, 14, 8, 13, 9, 11, 14]
def mj_rT : List (Option FieldType) := [some .boolean, some .int, some .boolean, some .int, some .int, none, none, some .boolean, some .int, some .int, some .int, some .boolean, some .int, some .boolean, some .boolean, some .boolean, some .boolean, none, some .boolean, some .int, some .boolean, some .boolean, some .boolean, some .boolean, some .int, some .boolean, none, some .boolean, some .int, some .boolean, some .boolean, none, some .int, some .int, none, some .int, none, none, none, none, none, none, none, some .int, some .int, some .int, some .int, some .int, none, some .int, some .boolean, none, none, none, none, none, none, none, none, none, some .int, some .boolean, none, some .int, some .int, some .boolean, some .int, some .boolean, some .boolean, some .int, some .int, some .int, some .int, some .int, some .int, some .int, some .int, some .int, some .int, some .int, some .int, some .int, some .int, none, none, none, none, none, none, none, some .int, some .int, some .int, some .int, some .int, some .int, some .int, none, none, none, some .boolean, none, none, some .int, none, some .int, some .boolean, some .boolean, some .boolean, some .boolean, some .boolean, some .boolean, some .boolean]
def mj_lT : List Nat := [0, 0, 0, 0, 0, 0, 2, 0, 0, 0, 0, 0, 0, 0, 0, 0, 0, 2, 0, 0, 0, 0, 0, 0, 0, 0, 2, 0, 0, 0, 0, 2, 0, 0, 0, 0, 0, 0, 0, 0, 2, 2, 0, 0, 0, 0, 0, 0, 0, 0, 0, 0, 0, 0, 0, 0, 0, 0, 0, 0, 0, 0, 0, 2, 2, 2, 2, 2, 2, 2, 2, 2, 2, 2, 2, 2, 2, 2, 2, 2, 2, 2, 2, 2, 2, 2, 2, 2, 2, 2, 2, 9, 1, 1, 1, 1, 1, 1, 1, 1, 1, 3, 1, 1, 8, 1, 1, 9, 9, 9, 9, 9, 9]
def mj_hT : List Nat := [1, 1, 2, 2, 2, 3, 1, 1, 1, 1, 2, 2, 2, 1, 1, 1, 1, 1, 1, 1, 2, 2, 2, 3, 3, 2, 1, 1, 1, 2, 3, 1, 2, 2, 4, 1, 1, 3, 1, 3, 1, 2, 5, 3, 3, 4, 4, 5, 3, 6, 3, 6, 4, 4, 2, 4, 5, 4, 3, 4, 3, 3, 3, 6, 6, 6, 6, 6, 6, 3, 5, 6, 7, 7, 1, 3, 5, 4, 3, 7, 7, 4, 16, 1, 1, 1, 2, 2, 2, 2, 3, 1, 1, 2, 3, 1, 2, 1, 2, 1, 1, 3, 4, 3, 1, 5, 1, 17, 6, 7, 7, 7, 18]
def mj_mT : List Nat := [0, 0, 0, 0, 0, 0, 0, 0, 0, 0, 0, 0, 0, 0, 0, 0, 0, 0, 0, 0, 0, 0, 0, 0, 0, 0, 0, 0, 0, 0, 0, 0, 0, 0, 0, 0, 0, 0, 0, 0, 0, 0, 0, 0, 0, 0, 0, 0, 0, 0, 0, 0, 0, 0, 0, 0, 0, 0, 0, 0, 0, 0, 0, 3, 7, 1, 0, 2, 2, 2, 6, 9, 0, 1, 0, 2, 2, 2, 2, 2, 0, 1, 1, 1, 1, 1, 1, 1, 1, 1, 0, 0, 0, 0, 0, 0, 0, 0, 0, 0, 0, 0, 1, 0, 0, 105, 0, 400, 20, 20, 40, 100, 30000]
def mj_xT : List Nat := [2, 2, 2, 2, 2, 2, 2, 0, 0, 0, 0, 0, 0, 0, 0, 0, 0, 0, 1, 1, 1, 1, 1, 1, 1, 1, 1, 4, 4, 4, 4, 4, 5, 5, 5, 5, 5, 5, 5, 5, 5, 3, 3, 3, 3, 3, 3, 3, 3, 3, 3, 3, 3, 3, 3, 3, 3, 3, 3, 3, 3, 3, 3, 6, 6, 6, 6, 6, 6, 6, 6, 6, 6, 6, 6, 6, 6, 6, 6, 6, 6, 6, 6, 6, 6, 6, 6, 6, 6, 6, 6, 7, 7, 7, 7, 7, 7, 7, 7, 7, 7, 7, 7, 7, 7, 7, 7, 7, 7, 7, 7, 7, 7]
def mj_aT : List Nat := [1, 2, 1, 1, 2, 0, 1, 1, 5, 0, 1, 1, 3, 2, 2, 1, 1, 1, 1, 5, 1, 1, 1, 0, 1, 3, 1, 1, 4, 1, 1, 1, 3, 3, 2, 3, 1, 4, 2, 4, 1, 1, 0, 1, 1, 1, 4, 3, 1, 0, 1, 0, 0, 1, 2, 0, 1, 1, 2, 2, 2, 3, 2, 2, 5, 2, 0, 1, 2, 2, 5, 5, 0, 1, 0, 2, 2, 2, 2, 2, 0, 1, 1, 3, 1, 1, 1, 1, 1, 1, 6, 3, 6, 6, 4, 4, 4, 3, 4, 5, 5, 6, 5, 4, 3, 7, 2, 7, 7, 8, 5, 5, 1]
def mj_RT : List String := [RX0, RX1, RX2, RX3, RX4, RX5, RX6, RL]
def mj_FL : List (Nat × Nat × Nat × Nat) := [(0, 9, 0, 2), (0, 15, 0, 3), (0, 18, 0, 4), (0, 21, 0, 5), (0, 24, 0, 6), (0, 27, 0, 7), (0, 30, 0, 8), (0, 33, 0, 9), (0, 37, 0, 10), (0, 40, 0, 11), (0, 43, 0, 12), (0, 46, 0, 0), (0, 67, 0, 1), (1, 9, 1, 1), (1, 15, 1, 2), (1, 18, 1, 3), (1, 21, 1, 4), (1, 24, 1, 5), (1, 27, 1, 6), (1, 30, 1, 7), (1, 34, 1, 0), (2, 9, 2, 1), (2, 15, 2, 2), (2, 18, 2, 3), (2, 21, 2, 4), (2, 24, 2, 5), (2, 27, 2, 6), (2, 31, 2, 0), (3, 12, 3, 0), (3, 21, 3, 1), (3, 28, 3, 2), (3, 35, 3, 3), (3, 42, 3, 4), (3, 46, 3, 6), (3, 50, 3, 7), (3, 69, 3, 5), (3, 73, 2, 0), (3, 84, 1, 4), (3, 87, 1, 2), (3, 90, 1, 3), (3, 102, 1, 0), (3, 112, 1, 7), (3, 116, 2, 1), (3, 119, 0, 1), (3, 123, 2, 4), (3, 146, 1, 1), (3, 149, 2, 5), (3, 164, 4, 0), (3, 171, 0, 0), (3, 172, 0, 9), (3, 181, 1, 6), (3, 182, 2, 3), (3, 188, 4, 1), (3, 191, 4, 2), (3, 194, 4, 5), (3, 204, 4, 3), (3, 207, 4, 4), (3, 220, 3, 9), (3, 223, 3, 8), (3, 230, 0, 2), (3, 246, 1, 5), (3, 258, 0, 3), (3, 261, 0, 7), (3, 264, 0, 8), (3, 267, 0, 5), (4, 9, 4, 1), (4, 15, 4, 2), (4, 18, 4, 3), (4, 21, 4, 4), (4, 24, 4, 5), (4, 27, 4, 6), (4, 30, 4, 0), (5, 9, 5, 0), (5, 15, 5, 1), (5, 32, 0, 0), (5, 38, 0, 3), (5, 45, 0, 4), (5, 58, 0, 5), (6, 10, 6, 0), (6, 16, 6, 1), (6, 23, 3, 0), (6, 27, 2, 0), (6, 51, 3, 1), (6, 55, 0, 0), (6, 64, 0, 9), (6, 72, 0, 2), (6, 76, 0, 11), (6, 79, 0, 12), (6, 82, 0, 6), (6, 89, 2, 1), (6, 90, 3, 2), (6, 94, 1, 0), (6, 101, 3, 3), (6, 105, 4, 0), (6, 123, 3, 5), (6, 130, 2, 3), (6, 133, 2, 6), (6, 136, 2, 4), (6, 139, 2, 5), (6, 142, 0, 7), (6, 145, 0, 8), (6, 157, 1, 1), (6, 160, 1, 2), (6, 163, 1, 3), (6, 172, 1, 7), (6, 175, 1, 6), (6, 179, 4, 5), (6, 182, 4, 6), (6, 188, 4, 3), (6, 202, 1, 4), (6, 243, 0, 5)]
def mj_ML : List (Nat × Nat × Nat) := [(0, 50, 7), (0, 54, 13), (0, 58, 14), (0, 61, 15), (0, 64, 16), (1, 38, 18), (1, 42, 21), (1, 45, 20), (2, 35, 0), (2, 48, 3), (3, 53, 6), (3, 57, 17), (3, 60, 26), (3, 63, 31), (3, 66, 40), (3, 76, 34), (3, 80, 18), (3, 93, 32), (3, 97, 20), (3, 100, 33), (3, 103, 44), (3, 107, 19), (3, 111, 0), (3, 126, 48), (3, 136, 4), (3, 139, 46), (3, 143, 2), (3, 152, 42), (3, 155, 21), (3, 158, 50), (3, 161, 52), (3, 165, 53), (3, 168, 55), (3, 175, 56), (3, 178, 5), (3, 185, 29), (3, 197, 24), (3, 200, 54), (3, 210, 27), (3, 211, 22), (3, 214, 11), (3, 217, 57), (3, 226, 59), (3, 229, 7), (3, 231, 58), (3, 235, 25), (3, 239, 60), (3, 242, 61), (3, 249, 62), (3, 252, 10), (3, 255, 12), (4, 34, 27), (4, 38, 29), (5, 18, 35), (5, 28, 36), (5, 41, 37), (5, 48, 38), (5, 52, 39), (5, 55, 12), (6, 19, 83), (6, 33, 85), (6, 37, 1), (6, 41, 42), (6, 44, 86), (6, 48, 84), (6, 58, 8), (6, 61, 87), (6, 68, 9), (6, 85, 2), (6, 97, 46), (6, 108, 30), (6, 111, 47), (6, 115, 28), (6, 117, 49), (6, 120, 51), (6, 126, 3), (6, 148, 45), (6, 151, 10), (6, 154, 88), (6, 166, 44), (6, 169, 22), (6, 176, 89), (6, 185, 29), (6, 191, 41), (6, 195, 23), (6, 199, 43), (6, 205, 90), (6, 223, 0), (6, 231, 7), (6, 234, 18), (6, 237, 27), (6, 240, 12), (7, 9, 92), (7, 15, 93), (7, 18, 95), (7, 22, 97), (7, 26, 100), (7, 30, 96), (7, 34, 98), (7, 38, 99), (7, 42, 94), (7, 45, 101), (7, 49, 104), (7, 52, 103), (7, 56, 106), (7, 60, 102), (7, 64, 74), (7, 70, 75), (7, 74, 76), (7, 77, 77), (7, 80, 81), (7, 84, 82), (7, 87, 78), (7, 90, 80), (7, 93, 105), (7, 97, 79), (7, 100, 70), (7, 104, 71), (7, 108, 65), (7, 112, 66), (7, 115, 69), (7, 118, 67), (7, 122, 68), (7, 125, 91), (7, 129, 63), (7, 133, 64), (7, 137, 111), (7, 141, 108), (7, 145, 73), (7, 148, 109), (7, 152, 110), (7, 156, 72), (7, 158, 107)]
def mj_Sh0 : List mj_D := [.inl (3, [some 1, some 8, some 20, some 28, some 35, none, some 38, some 39, none, none]), .inl (2, [none, some 2, some 3, some 4, some 5, some 6, some 7]), .inr (0, 10), .inr (0, 10), .inr (0, 10), .inr (0, 10), .inr (0, 10), .inr (1, 10), .inl (0, [none, none, some 9, some 10, some 11, some 12, some 13, some 14, some 15, some 16, some 17, some 18, some 19]), .inr (0, 14), .inr (0, 14), .inr (0, 14), .inr (0, 14), .inr (0, 14), .inr (0, 14), .inr (0, 14), .inr (1, 14), .inr (1, 14), .inr (1, 14), .inr (1, 14), .inl (1, [none, some 21, some 22, some 23, some 24, some 25, some 26, some 27]), .inr (0, 120), .inr (0, 120), .inr (0, 120), .inr (0, 120), .inr (0, 120), .inr (0, 120), .inr (1, 120), .inl (4, [none, some 29, some 30, some 31, some 32, some 33, some 34]), .inr (0, 12), .inr (0, 12), .inr (0, 12), .inr (0, 12), .inr (0, 12), .inr (0, 12), .inl (5, [some 36, some 37]), .inr (0, 400), .inr (0, 400), .inr (0, 120), .inr (0, 120)]
def mj_Sh1 : List mj_D := [.inr (0, 64), .inr (0, 55), .inr (0, 30), .inr (0, 18), .inr (0, 12)]
def mj_Sh2 : List mj_D := [.inl (6, [some 1, some 41]), .inl (3, [some 2, some 9, some 21, some 29, some 36, none, some 39, some 40, none, none]), .inl (2, [none, some 3, some 4, some 5, some 6, some 7, some 8]), .inr (0, 10), .inr (0, 10), .inr (0, 10), .inr (0, 10), .inr (0, 10), .inr (1, 10), .inl (0, [none, none, some 10, some 11, some 12, some 13, some 14, some 15, some 16, some 17, some 18, some 19, some 20]), .inr (0, 14), .inr (0, 14), .inr (0, 14), .inr (0, 14), .inr (0, 14), .inr (0, 14), .inr (0, 14), .inr (1, 14), .inr (1, 14), .inr (1, 14), .inr (1, 14), .inl (1, [none, some 22, some 23, some 24, some 25, some 26, some 27, some 28]), .inr (0, 120), .inr (0, 120), .inr (0, 120), .inr (0, 120), .inr (0, 120), .inr (0, 120), .inr (1, 120), .inl (4, [none, some 30, some 31, some 32, some 33, some 34, some 35]), .inr (0, 12), .inr (0, 12), .inr (0, 12), .inr (0, 12), .inr (0, 12), .inr (0, 12), .inl (5, [some 37, some 38]), .inr (0, 400), .inr (0, 400), .inr (0, 120), .inr (0, 120), .inl (3, [some 42, some 49, some 61, some 69, some 76, none, some 79, some 80, none, none]), .inl (2, [none, some 43, some 44, some 45, some 46, some 47, some 48]), .inr (0, 10), .inr (0, 10), .inr (0, 10), .inr (0, 10), .inr (0, 10), .inr (1, 10), .inl (0, [none, none, some 50, some 51, some 52, some 53, some 54, some 55, some 56, some 57, some 58, some 59, some 60]), .inr (0, 14), .inr (0, 14), .inr (0, 14), .inr (0, 14), .inr (0, 14), .inr (0, 14), .inr (0, 14), .inr (1, 14), .inr (1, 14), .inr (1, 14), .inr (1, 14), .inl (1, [none, some 62, some 63, some 64, some 65, some 66, some 67, some 68]), .inr (0, 120), .inr (0, 120), .inr (0, 120), .inr (0, 120), .inr (0, 120), .inr (0, 120), .inr (1, 120), .inl (4, [none, some 70, some 71, some 72, some 73, some 74, some 75]), .inr (0, 12), .inr (0, 12), .inr (0, 12), .inr (0, 12), .inr (0, 12), .inr (0, 12), .inl (5, [some 77, some 78]), .inr (0, 400), .inr (0, 400), .inr (0, 120), .inr (0, 120)]
def mj_Sh3 : List mj_D := [.inr (0, 64), .inr (0, 55), .inr (0, 30), .inr (0, 18), .inr (0, 12), .inr (0, 8)]
def mj_Sh4 : List mj_D := [.inr (0, 64), .inr (0, 55), .inr (0, 30), .inr (0, 18), .inr (0, 12), .inr (0, 64)]
def mj_Sh5 : List mj_D := [.inr (0, 64), .inr (0, 55), .inr (0, 30), .inr (0, 18), .inr (0, 12), .inr (0, 64), .inr (0, 55)]
def mj_Sh6 : List mj_D := [.inr (0, 64), .inr (0, 55), .inr (0, 30), .inr (0, 18), .inr (0, 12), .inr (0, 64), .inr (0, 55), .inr (0, 30)]
def mj_Sh7 : List mj_D := [.inr (0, 64), .inr (0, 55), .inr (0, 30), .inr (0, 18), .inr (0, 12), .inr (0, 64), .inr (0, 55), .inr (0, 30), .inr (0, 18)]
def mj_Sh8 : List mj_D := [.inr (0, 64), .inr (0, 55), .inr (0, 30), .inr (0, 18), .inr (0, 12), .inr (0, 64), .inr (0, 55), .inr (0, 30), .inr (0, 18), .inr (0, 12)]
def mj_Sh9 : List mj_D := [.inl (6, [some 1, some 41]), .inl (3, [some 2, some 9, some 21, some 29, some 36, none, some 39, some 40, none, none]), .inl (2, [none, some 3, some 4, some 5, some 6, some 7, some 8]), .inr (0, 10), .inr (0, 10), .inr (0, 10), .inr (0, 10), .inr (0, 10), .inr (1, 10), .inl (0, [none, none, some 10, some 11, some 12, some 13, some 14, some 15, some 16, some 17, some 18, some 19, some 20]), .inr (0, 14), .inr (0, 14), .inr (0, 14), .inr (0, 14), .inr (0, 14), .inr (0, 14), .inr (0, 14), .inr (1, 14), .inr (1, 14), .inr (1, 14), .inr (1, 14), .inl (1, [none, some 22, some 23, some 24, some 25, some 26, some 27, some 28]), .inr (0, 120), .inr (0, 120), .inr (0, 120), .inr (0, 120), .inr (0, 120), .inr (0, 120), .inr (1, 120), .inl (4, [none, some 30, some 31, some 32, some 33, some 34, some 35]), .inr (0, 12), .inr (0, 12), .inr (0, 12), .inr (0, 12), .inr (0, 12), .inr (0, 12), .inl (5, [some 37, some 38]), .inr (0, 400), .inr (0, 400), .inr (0, 120), .inr (0, 120), .inl (3, [some 42, some 49, some 61, some 69, some 76, none, some 79, some 80, none, none]), .inl (2, [none, some 43, some 44, some 45, some 46, some 47, some 48]), .inr (0, 10), .inr (0, 10), .inr (0, 10), .inr (0, 10), .inr (0, 10), .inr (1, 10), .inl (0, [none, none, some 50, some 51, some 52, some 53, some 54, some 55, some 56, some 57, some 58, some 59, some 60]), .inr (0, 14), .inr (0, 14), .inr (0, 14), .inr (0, 14), .inr (0, 14), .inr (0, 14), .inr (0, 14), .inr (1, 14), .inr (1, 14), .inr (1, 14), .inr (1, 14), .inl (1, [none, some 62, some 63, some 64, some 65, some 66, some 67, some 68]), .inr (0, 120), .inr (0, 120), .inr (0, 120), .inr (0, 120), .inr (0, 120), .inr (0, 120), .inr (1, 120), .inl (4, [none, some 70, some 71, some 72, some 73, some 74, some 75]), .inr (0, 12), .inr (0, 12), .inr (0, 12), .inr (0, 12), .inr (0, 12), .inr (0, 12), .inl (5, [some 77, some 78]), .inr (0, 400), .inr (0, 400), .inr (0, 120), .inr (0, 120), .inr (0, 64), .inr (0, 55), .inr (0, 30), .inr (0, 18), .inr (0, 12)]
def mj_pFL : List Nat := [117, 120, 123, 125, 129, 131, 134, 137, 140, 141, 143, 111, 116, 181, 184, 187, 190, 193, 195, 198, 178, 73, 76, 77, 80, 83, 86, 70, 269, 271, 273, 275, 277, 280, 281, 278, 72, 191, 185, 188, 179, 199, 74, 115, 81, 182, 84, 226, 114, 139, 196, 78, 228, 230, 237, 232, 235, 283, 282, 119, 194, 122, 133, 136, 127, 227, 229, 231, 234, 236, 239, 224, 262, 263, 113, 121, 124, 126, 305, 306, 270, 71, 272, 112, 138, 118, 142, 144, 130, 75, 274, 180, 276, 225, 279, 79, 87, 82, 85, 132, 135, 183, 186, 189, 200, 197, 238, 240, 233, 192, 128]
def mj_pML : List Nat := [441, 445, 449, 453, 457, 548, 856, 606, 526, 686, 832, 836, 840, 844, 848, 422, 535, 760, 544, 620, 616, 531, 539, 540, 670, 706, 549, 755, 657, 756, 585, 589, 612, 632, 682, 593, 602, 607, 611, 624, 628, 636, 649, 640, 641, 645, 653, 661, 678, 665, 669, 597, 701, 461, 429, 433, 464, 468, 437, 324, 395, 414, 418, 477, 501, 505, 718, 728, 522, 527, 697, 702, 707, 751, 581, 775, 780, 784, 789, 795, 796, 817, 823, 828, 852, 801, 809, 481, 722, 793, 821, 812, 562, 559, 574, 515, 568, 571, 512, 553, 556, 565, 860, 744, 863, 550, 767, 771, 776, 785, 797, 805, 813, 824, 857, 866, 518, 693, 714, 724, 732, 736, 740, 315, 320, 473, 312, 509, 577, 690, 711, 747, 764]
def mj_pC : List Nat := [484, 417, 525, 689, 673, 685, 835, 444, 508, 731, 668, 631, 440, 448, 452, 456, 460, 839, 538, 534, 547, 660, 627, 855, 605, 648, 843, 600, 710, 596, 700, 847, 763, 623, 425, 463, 432, 436, 467, 471, 851, 831, 421, 804, 619, 783, 530, 705, 543, 754, 759, 584, 588, 592, 610, 615, 635, 639, 644, 652, 656, 664, 681, 323, 476, 717, 727, 739, 743, 735, 521, 696, 750, 580, 770, 774, 779, 788, 816, 869, 827, 800, 808, 326, 503, 397, 480, 721, 792, 820, 811, 317, 564, 561, 558, 576, 573, 517, 514, 555, 570, 567, 552, 746, 862, 859, 865, 766, 511, 692, 713, 314, 49]
def mj_kV : List Nat := [0, 1, 2, 3, 4, 5, 6, 7, 8, 9, 10, 11, 12, 13, 14, 15, 16, 17, 18, 19, 20, 21, 22, 23, 24, 25, 26, 27, 28, 29, 30, 31, 32, 33, 34, 36, 37, 38, 39, 40, 41, 42, 43, 44, 45, 46, 47, 48, 49, 50, 51, 52, 53, 54, 55, 56, 57, 58, 59, 60, 61, 62, 63, 64, 65, 66, 67, 68, 69, 70, 71, 72, 73, 74, 75, 76, 77, 78, 79, 80, 81, 82, 86, 87, 88, 89]
def mj_kS : List Nat := [35, 83, 84, 85, 90, 91, 92, 93, 94, 95, 96, 97, 98, 99, 100, 101, 102, 103, 104, 105, 106, 107, 108, 109, 110, 111, 112]
def mj_pI : List Nat := [482, 415, 523, 687, 671, 683, 833, 442, 506, 729, 666, 629, 438, 447, 451, 455, 459, 837, 536, 532, 545, 658, 625, 853, 603, 646, 841, 598, 708, 594, 698, 845, 761, 621, 423, 431, 435, 466, 470, 849, 829, 419, 802, 617, 781, 528, 703, 542, 752, 758, 582, 587, 591, 609, 614, 634, 638, 643, 651, 655, 663, 680, 321, 474, 715, 725, 737, 741, 733, 519, 694, 748, 578, 768, 772, 777, 786, 814, 867, 825, 798, 806, 479, 720, 791, 819]
def mj_pE : List Nat := [483, 416, 524, 688, 672, 684, 834, 443, 507, 730, 667, 630, 439, 3, 4, 5, 6, 838, 537, 533, 546, 659, 626, 854, 604, 647, 842, 599, 709, 595, 699, 846, 762, 622, 424, 1, 2, 7, 8, 850, 830, 420, 803, 618, 782, 529, 704, 10, 753, 23, 583, 11, 12, 13, 14, 15, 16, 17, 18, 19, 20, 21, 322, 475, 716, 726, 738, 742, 734, 520, 695, 749, 579, 769, 773, 778, 787, 815, 868, 826, 799, 807, 9, 22, 24, 25]
def mj_pS : List Nat := [462, 325, 502, 396, 810, 316, 563, 560, 557, 575, 572, 516, 513, 554, 569, 566, 551, 745, 861, 858, 864, 765, 510, 691, 712, 313, 48]
def mj_pN : List Nat := [30, 31, 29, 28, 32, 33, 27, 26]
def mj_pL0 : List Nat := [145, 147, 149, 151, 153, 155, 157, 159, 161, 163, 165, 167, 169]
def mj_pL1 : List Nat := [201, 203, 205, 207, 209, 211, 213, 215]
def mj_pL2 : List Nat := [88, 90, 92, 94, 96, 98, 100]
def mj_pL3 : List Nat := [284, 286, 288, 290, 292, 294, 296, 298, 300, 302]
def mj_pL4 : List Nat := [241, 243, 245, 247, 249, 251, 253]
def mj_pL5 : List Nat := [264, 266]
def mj_pL6 : List Nat := [307, 309]
theorem mj_g_code (y : MethodName) (b : ByteArray) (n : Nat) (r : Option FieldType) : goodWord (.code y b n r) = true := rfl
/-- the words that every method of the claim may use: the good ones of the tables -/
def mj_G : List Cond := lw_tbl.filter goodWord
theorem mj_inG {w : Cond} (h : w ∈ lw_tbl) (g : goodWord w = true) : w ∈ mj_G := List.mem_filter.mpr ⟨h, g⟩
def mj_y (k : Nat) : MethodName := mj_yT.getD k yX2_has
def mj_c (k : Nat) : ByteArray := mj_cT.getD k cX2_has
def mj_n (k : Nat) : Nat := mj_nT.getD k 0
def mj_r (k : Nat) : Option FieldType := mj_rT.getD k none
def mj_lv (k : Nat) : Nat := mj_lT.getD k 0
def mj_ht (k : Nat) : Nat := mj_hT.getD k 1000
def mj_mc (k : Nat) : Nat := mj_mT.getD k 0
def mj_oc (k : Nat) : Nat := mj_xT.getD k 0
def mj_ar (k : Nat) : Nat := mj_aT.getD k 0
def mj_R (x : Nat) : String := mj_RT.getD x RX0
def mj_o (k : Nat) : String := mj_R (mj_oc k)
def mj_Sh (lv : Nat) : List mj_D := match lv with
  | 0 => mj_Sh0
  | 1 => mj_Sh1
  | 2 => mj_Sh2
  | 3 => mj_Sh3
  | 4 => mj_Sh4
  | 5 => mj_Sh5
  | 6 => mj_Sh6
  | 7 => mj_Sh7
  | 8 => mj_Sh8
  | _ => mj_Sh9
def mj_q (ci : Nat) : vw_C := mj_cl.getD ci (RX0, TX0, 13)
def mj_ty0 (ci : Nat) : Nat → FieldType := match ci with
  | 0 => tyX0
  | 1 => tyX1
  | 2 => tyX2
  | 3 => tyX3
  | 4 => tyX4
  | 5 => tyX5
  | _ => tyX6
def mj_ws (k : Nat) : List Cond := .code (mj_y k) (mj_c k) (mj_n k) (mj_r k) :: mj_G
def mj_rm (k d : Nat) : Room := { frames := 2 * d + 20, cells := mj_mc k, slots := 64 * mj_mc k, locals := 40 * d + 300 }
theorem mj_w0 : lw_tbl[484]? = some (Cond.code yX2_has cX2_has 2 (some .boolean)) := by decide +kernel
theorem mj_w1 : lw_tbl[417]? = some (Cond.code yX2_add cX2_add 4 (some .int)) := by decide +kernel
theorem mj_w2 : lw_tbl[525]? = some (Cond.code yX2_isStreet cX2_isStreet 2 (some .boolean)) := by decide +kernel
theorem mj_w3 : lw_tbl[689]? = some (Cond.code yX2_waiting cX2_waiting 2 (some .int)) := by decide +kernel
theorem mj_w4 : lw_tbl[673]? = some (Cond.code yX2_places cX2_places 3 (some .int)) := by decide +kernel
theorem mj_w5 : lw_tbl[685]? = some (Cond.code yX2_setAlarms cX2_setAlarms 3 (none)) := by decide +kernel
theorem mj_w6 : lw_tbl[835]? = some (Cond.code yX2_copyFrom cX2_copyFrom 3 (none)) := by decide +kernel
theorem mj_w7 : lw_tbl[444]? = some (Cond.code yX0_has cX0_has 2 (some .boolean)) := by decide +kernel
theorem mj_w8 : lw_tbl[508]? = some (Cond.code yX0_add cX0_add 7 (some .int)) := by decide +kernel
theorem mj_w9 : lw_tbl[731]? = some (Cond.code yX0_announceClosings cX0_announceClosings 3 (some .int)) := by decide +kernel
theorem mj_w10 : lw_tbl[668]? = some (Cond.code yX0_rateAsItIs cX0_rateAsItIs 2 (some .int)) := by decide +kernel
theorem mj_w11 : lw_tbl[631]? = some (Cond.code yX0_isClosed cX0_isClosed 2 (some .boolean)) := by decide +kernel
theorem mj_w12 : lw_tbl[440]? = some (Cond.code yX0_roomBehind cX0_roomBehind 4 (some .int)) := by decide +kernel
theorem mj_w13 : lw_tbl[448]? = some (Cond.code yX0_isOpenTo cX0_isOpenTo 3 (some .boolean)) := by decide +kernel
theorem mj_w14 : lw_tbl[452]? = some (Cond.code yX0_carries cX0_carries 3 (some .boolean)) := by decide +kernel
theorem mj_w15 : lw_tbl[456]? = some (Cond.code yX0_goesForth cX0_goesForth 2 (some .boolean)) := by decide +kernel
theorem mj_w16 : lw_tbl[460]? = some (Cond.code yX0_goesBack cX0_goesBack 2 (some .boolean)) := by decide +kernel
theorem mj_w17 : lw_tbl[839]? = some (Cond.code yX0_copyFrom cX0_copyFrom 3 (none)) := by decide +kernel
theorem mj_w18 : lw_tbl[538]? = some (Cond.code yX1_has cX1_has 2 (some .boolean)) := by decide +kernel
theorem mj_w19 : lw_tbl[534]? = some (Cond.code yX1_add cX1_add 7 (some .int)) := by decide +kernel
theorem mj_w20 : lw_tbl[547]? = some (Cond.code yX1_isWaiting cX1_isWaiting 2 (some .boolean)) := by decide +kernel
theorem mj_w21 : lw_tbl[660]? = some (Cond.code yX1_isInside cX1_isInside 2 (some .boolean)) := by decide +kernel
theorem mj_w22 : lw_tbl[627]? = some (Cond.code yX1_isKnowing cX1_isKnowing 2 (some .boolean)) := by decide +kernel
theorem mj_w23 : lw_tbl[855]? = some (Cond.code yX1_isAnyInside cX1_isAnyInside 2 (some .boolean)) := by decide +kernel
theorem mj_w24 : lw_tbl[605]? = some (Cond.code yX1_firstForTrain cX1_firstForTrain 5 (some .int)) := by decide +kernel
theorem mj_w25 : lw_tbl[648]? = some (Cond.code yX1_isAhead cX1_isAhead 5 (some .boolean)) := by decide +kernel
theorem mj_w26 : lw_tbl[843]? = some (Cond.code yX1_copyFrom cX1_copyFrom 3 (none)) := by decide +kernel
theorem mj_w27 : lw_tbl[600]? = some (Cond.code yX4_has cX4_has 2 (some .boolean)) := by decide +kernel
theorem mj_w28 : lw_tbl[710]? = some (Cond.code yX4_add cX4_add 6 (some .int)) := by decide +kernel
theorem mj_w29 : lw_tbl[596]? = some (Cond.code yX4_isThere cX4_isThere 2 (some .boolean)) := by decide +kernel
theorem mj_w30 : lw_tbl[700]? = some (Cond.code yX4_isOneAt cX4_isOneAt 3 (some .boolean)) := by decide +kernel
theorem mj_w31 : lw_tbl[847]? = some (Cond.code yX4_copyFrom cX4_copyFrom 3 (none)) := by decide +kernel
theorem mj_w32 : lw_tbl[763]? = some (Cond.code yX5_distance cX5_distance 5 (some .int)) := by decide +kernel
theorem mj_w33 : lw_tbl[623]? = some (Cond.code yX5_next cX5_next 5 (some .int)) := by decide +kernel
theorem mj_w34 : lw_tbl[425]? = some (Cond.code yX5_reckon cX5_reckon 6 (none)) := by decide +kernel
theorem mj_w35 : lw_tbl[463]? = some (Cond.code yX5_cell cX5_cell 4 (some .int)) := by decide +kernel
theorem mj_w36 : lw_tbl[432]? = some (Cond.code yX5_clean cX5_clean 4 (none)) := by decide +kernel
theorem mj_w37 : lw_tbl[436]? = some (Cond.code yX5_lay cX5_lay 6 (none)) := by decide +kernel
theorem mj_w38 : lw_tbl[467]? = some (Cond.code yX5_join cX5_join 9 (none)) := by decide +kernel
theorem mj_w39 : lw_tbl[471]? = some (Cond.code yX5_choose cX5_choose 9 (none)) := by decide +kernel
theorem mj_w40 : lw_tbl[851]? = some (Cond.code yX5_copyFrom cX5_copyFrom 3 (none)) := by decide +kernel
theorem mj_w41 : lw_tbl[831]? = some (Cond.code yX3_copyFrom cX3_copyFrom 2 (none)) := by decide +kernel
theorem mj_w42 : lw_tbl[421]? = some (Cond.code yX3_reckonWays cX3_reckonWays 1 (none)) := by decide +kernel
theorem mj_w43 : lw_tbl[804]? = some (Cond.code yX3_distance cX3_distance 2 (some .int)) := by decide +kernel
theorem mj_w44 : lw_tbl[619]? = some (Cond.code yX3_nextLink cX3_nextLink 2 (some .int)) := by decide +kernel
theorem mj_w45 : lw_tbl[783]? = some (Cond.code yX3_waitingFor cX3_waitingFor 4 (some .int)) := by decide +kernel
theorem mj_w46 : lw_tbl[530]? = some (Cond.code yX3_comeFromOutside cX3_comeFromOutside 6 (some .int)) := by decide +kernel
theorem mj_w47 : lw_tbl[705]? = some (Cond.code yX3_alight cX3_alight 7 (some .int)) := by decide +kernel
theorem mj_w48 : lw_tbl[543]? = some (Cond.code yX3_goOutAtGoal cX3_goOutAtGoal 3 (none)) := by decide +kernel
theorem mj_w49 : lw_tbl[754]? = some (Cond.code yX3_orderToClear cX3_orderToClear 3 (some .int)) := by decide +kernel
theorem mj_w50 : lw_tbl[759]? = some (Cond.code yX3_takeNearestStreet cX3_takeNearestStreet 8 (some .boolean)) := by decide +kernel
theorem mj_w51 : lw_tbl[584]? = some (Cond.code yX3_passSecond cX3_passSecond 2 (none)) := by decide +kernel
theorem mj_w52 : lw_tbl[588]? = some (Cond.code yX3_arrive cX3_arrive 3 (none)) := by decide +kernel
theorem mj_w53 : lw_tbl[592]? = some (Cond.code yX3_serve cX3_serve 5 (none)) := by decide +kernel
theorem mj_w54 : lw_tbl[610]? = some (Cond.code yX3_goAboard cX3_goAboard 3 (none)) := by decide +kernel
theorem mj_w55 : lw_tbl[615]? = some (Cond.code yX3_chooseNextLinks cX3_chooseNextLinks 2 (none)) := by decide +kernel
theorem mj_w56 : lw_tbl[635]? = some (Cond.code yX3_beginOn cX3_beginOn 4 (none)) := by decide +kernel
theorem mj_w57 : lw_tbl[639]? = some (Cond.code yX3_lineUp cX3_lineUp 4 (none)) := by decide +kernel
theorem mj_w58 : lw_tbl[644]? = some (Cond.code yX3_lineUpPerson cX3_lineUpPerson 4 (none)) := by decide +kernel
theorem mj_w59 : lw_tbl[652]? = some (Cond.code yX3_beginTogether cX3_beginTogether 6 (none)) := by decide +kernel
theorem mj_w60 : lw_tbl[656]? = some (Cond.code yX3_sizeOfReadyParty cX3_sizeOfReadyParty 7 (some .int)) := by decide +kernel
theorem mj_w61 : lw_tbl[664]? = some (Cond.code yX3_hasPlaceFor cX3_hasPlaceFor 7 (some .boolean)) := by decide +kernel
theorem mj_w62 : lw_tbl[681]? = some (Cond.code yX3_begin cX3_begin 5 (none)) := by decide +kernel
theorem mj_w63 : lw_tbl[323]? = some (Cond.code yX6_room cX6_room 4 (some .int)) := by decide +kernel
theorem mj_w64 : lw_tbl[476]? = some (Cond.code yX6_link cX6_link 7 (some .int)) := by decide +kernel
theorem mj_w65 : lw_tbl[717]? = some (Cond.code yX6_close cX6_close 4 (some .boolean)) := by decide +kernel
theorem mj_w66 : lw_tbl[727]? = some (Cond.code yX6_announce cX6_announce 2 (some .int)) := by decide +kernel
theorem mj_w67 : lw_tbl[739]? = some (Cond.code yX6_turn cX6_turn 3 (some .boolean)) := by decide +kernel
theorem mj_w68 : lw_tbl[743]? = some (Cond.code yX6_stop cX6_stop 4 (some .boolean)) := by decide +kernel
theorem mj_w69 : lw_tbl[735]? = some (Cond.code yX6_meter cX6_meter 4 (some .int)) := by decide +kernel
theorem mj_w70 : lw_tbl[521]? = some (Cond.code yX6_enter cX6_enter 7 (some .int)) := by decide +kernel
theorem mj_w71 : lw_tbl[696]? = some (Cond.code yX6_train cX6_train 7 (some .int)) := by decide +kernel
theorem mj_w72 : lw_tbl[750]? = some (Cond.code yX6_clear cX6_clear 1 (some .int)) := by decide +kernel
theorem mj_w73 : lw_tbl[580]? = some (Cond.code yX6_pass cX6_pass 3 (some .int)) := by decide +kernel
theorem mj_w74 : lw_tbl[770]? = some (Cond.code yX6_now cX6_now 1 (some .int)) := by decide +kernel
theorem mj_w75 : lw_tbl[774]? = some (Cond.code yX6_ofRoom cX6_ofRoom 3 (some .int)) := by decide +kernel
theorem mj_w76 : lw_tbl[779]? = some (Cond.code yX6_ofLink cX6_ofLink 3 (some .int)) := by decide +kernel
theorem mj_w77 : lw_tbl[788]? = some (Cond.code yX6_person cX6_person 3 (some .int)) := by decide +kernel
theorem mj_w78 : lw_tbl[816]? = some (Cond.code yX6_ofTrain cX6_ofTrain 3 (some .int)) := by decide +kernel
theorem mj_w79 : lw_tbl[869]? = some (Cond.code yX6_foretell cX6_foretell 4 (some .int)) := by decide +kernel
theorem mj_w80 : lw_tbl[827]? = some (Cond.code yX6_clears cX6_clears 2 (some .int)) := by decide +kernel
theorem mj_w81 : lw_tbl[800]? = some (Cond.code yX6_alone cX6_alone 2 (some .int)) := by decide +kernel
theorem mj_w82 : lw_tbl[808]? = some (Cond.code yX6_aloneAnew cX6_aloneAnew 4 (some .int)) := by decide +kernel
theorem mj_w83 : lw_tbl[326]? = some (Cond.code yX6_needRange cX6_needRange 3 (none)) := by decide +kernel
theorem mj_w84 : lw_tbl[503]? = some (Cond.code yX6_needFit cX6_needFit 1 (none)) := by decide +kernel
theorem mj_w85 : lw_tbl[397]? = some (Cond.code yX6_needPlace cX6_needPlace 1 (none)) := by decide +kernel
theorem mj_w86 : lw_tbl[480]? = some (Cond.code yX6_needRoom cX6_needRoom 2 (none)) := by decide +kernel
theorem mj_w87 : lw_tbl[721]? = some (Cond.code yX6_needLink cX6_needLink 2 (none)) := by decide +kernel
theorem mj_w88 : lw_tbl[792]? = some (Cond.code yX6_needPerson cX6_needPerson 2 (none)) := by decide +kernel
theorem mj_w89 : lw_tbl[820]? = some (Cond.code yX6_needTrain cX6_needTrain 2 (none)) := by decide +kernel
theorem mj_w90 : lw_tbl[811]? = some (Cond.code yX6_tryAllWays cX6_tryAllWays 10 (some .int)) := by decide +kernel
theorem mj_w91 : lw_tbl[317]? = some (Cond.code yL_from cL_from 4 (some .int)) := by decide +kernel
set_option maxRecDepth 1000000 in
theorem mj_w92 : lw_tbl[564]? = some (Cond.code yL_to cL_to 10 (some .int)) := rfl
theorem mj_w93 : lw_tbl[561]? = some (Cond.code yL_distance cL_distance 11 (some .int)) := by decide +kernel
theorem mj_w94 : lw_tbl[558]? = some (Cond.code yL_next cL_next 10 (some .int)) := by decide +kernel
theorem mj_w95 : lw_tbl[576]? = some (Cond.code yL_many cL_many 6 (some .int)) := by decide +kernel
theorem mj_w96 : lw_tbl[573]? = some (Cond.code yL_places cL_places 4 (some .int)) := by decide +kernel
theorem mj_w97 : lw_tbl[517]? = some (Cond.code yL_out cL_out 4 (none)) := by decide +kernel
theorem mj_w98 : lw_tbl[514]? = some (Cond.code yL_come cL_come 4 (none)) := by decide +kernel
set_option maxRecDepth 1000000 in
theorem mj_w99 : lw_tbl[555]? = some (Cond.code yL_board cL_board 12 (none)) := rfl
theorem mj_w100 : lw_tbl[570]? = some (Cond.code yL_isAhead cL_isAhead 6 (some .boolean)) := by decide +kernel
set_option maxRecDepth 1000000 in
theorem mj_w101 : lw_tbl[567]? = some (Cond.code yL_serve cL_serve 18 (none)) := rfl
set_option maxRecDepth 1000000 in
theorem mj_w102 : lw_tbl[552]? = some (Cond.code yL_second cL_second 9 (none)) := rfl
set_option maxRecDepth 1000000 in
theorem mj_w103 : lw_tbl[746]? = some (Cond.code yL_clear cL_clear 10 (some .int)) := rfl
theorem mj_w104 : lw_tbl[862]? = some (Cond.code yL_copy cL_copy 4 (none)) := by decide +kernel
theorem mj_w105 : lw_tbl[859]? = some (Cond.code yL_foretold cL_foretold 14 (some .int)) := by decide +kernel
theorem mj_w106 : lw_tbl[865]? = some (Cond.code yL_isClear cL_isClear 4 (some .boolean)) := by decide +kernel
set_option maxRecDepth 1000000 in
theorem mj_w107 : lw_tbl[766]? = some (Cond.code yL_isSame cL_isSame 14 (some .boolean)) := rfl
theorem mj_w108 : lw_tbl[511]? = some (Cond.code yL_isEntered cL_isEntered 8 (some .boolean)) := by decide +kernel
set_option maxRecDepth 1000000 in
theorem mj_w109 : lw_tbl[692]? = some (Cond.code yL_isTrain cL_isTrain 13 (some .boolean)) := rfl
set_option maxRecDepth 1000000 in
theorem mj_w110 : lw_tbl[713]? = some (Cond.code yL_isLink cL_isLink 9 (some .boolean)) := rfl
set_option maxRecDepth 1000000 in
theorem mj_w111 : lw_tbl[314]? = some (Cond.code yL_isBegun cL_isBegun 11 (some .boolean)) := rfl
set_option maxRecDepth 1000000 in
theorem mj_w112 : lw_tbl[49]? = some (Cond.code yL_holds cL_holds 14 (some .boolean)) := rfl

def mj_PC (k : Nat) : Prop := ∃ i : Nat, lw_tbl[i]? = some (Cond.code (mj_y k) (mj_c k) (mj_n k) (mj_r k))
theorem mj_pc0 : ∀ a, a < 21 → mj_PC a := (lt_s (lt_s (lt_s (lt_s (lt_s (lt_s (lt_s (lt_s (lt_s (lt_s (lt_s (lt_s (lt_s (lt_s (lt_s (lt_s (lt_s (lt_s (lt_s (lt_s (lt_s lt_0 ⟨484, mj_w0⟩) ⟨417, mj_w1⟩) ⟨525, mj_w2⟩) ⟨689, mj_w3⟩) ⟨673, mj_w4⟩) ⟨685, mj_w5⟩) ⟨835, mj_w6⟩) ⟨444, mj_w7⟩) ⟨508, mj_w8⟩) ⟨731, mj_w9⟩) ⟨668, mj_w10⟩) ⟨631, mj_w11⟩) ⟨440, mj_w12⟩) ⟨448, mj_w13⟩) ⟨452, mj_w14⟩) ⟨456, mj_w15⟩) ⟨460, mj_w16⟩) ⟨839, mj_w17⟩) ⟨538, mj_w18⟩) ⟨534, mj_w19⟩) ⟨547, mj_w20⟩)
theorem mj_pc1 : ∀ a, a < 42 → mj_PC a := (lt_s (lt_s (lt_s (lt_s (lt_s (lt_s (lt_s (lt_s (lt_s (lt_s (lt_s (lt_s (lt_s (lt_s (lt_s (lt_s (lt_s (lt_s (lt_s (lt_s (lt_s mj_pc0 ⟨660, mj_w21⟩) ⟨627, mj_w22⟩) ⟨855, mj_w23⟩) ⟨605, mj_w24⟩) ⟨648, mj_w25⟩) ⟨843, mj_w26⟩) ⟨600, mj_w27⟩) ⟨710, mj_w28⟩) ⟨596, mj_w29⟩) ⟨700, mj_w30⟩) ⟨847, mj_w31⟩) ⟨763, mj_w32⟩) ⟨623, mj_w33⟩) ⟨425, mj_w34⟩) ⟨463, mj_w35⟩) ⟨432, mj_w36⟩) ⟨436, mj_w37⟩) ⟨467, mj_w38⟩) ⟨471, mj_w39⟩) ⟨851, mj_w40⟩) ⟨831, mj_w41⟩)
theorem mj_pc2 : ∀ a, a < 63 → mj_PC a := (lt_s (lt_s (lt_s (lt_s (lt_s (lt_s (lt_s (lt_s (lt_s (lt_s (lt_s (lt_s (lt_s (lt_s (lt_s (lt_s (lt_s (lt_s (lt_s (lt_s (lt_s mj_pc1 ⟨421, mj_w42⟩) ⟨804, mj_w43⟩) ⟨619, mj_w44⟩) ⟨783, mj_w45⟩) ⟨530, mj_w46⟩) ⟨705, mj_w47⟩) ⟨543, mj_w48⟩) ⟨754, mj_w49⟩) ⟨759, mj_w50⟩) ⟨584, mj_w51⟩) ⟨588, mj_w52⟩) ⟨592, mj_w53⟩) ⟨610, mj_w54⟩) ⟨615, mj_w55⟩) ⟨635, mj_w56⟩) ⟨639, mj_w57⟩) ⟨644, mj_w58⟩) ⟨652, mj_w59⟩) ⟨656, mj_w60⟩) ⟨664, mj_w61⟩) ⟨681, mj_w62⟩)
theorem mj_pc3 : ∀ a, a < 84 → mj_PC a := (lt_s (lt_s (lt_s (lt_s (lt_s (lt_s (lt_s (lt_s (lt_s (lt_s (lt_s (lt_s (lt_s (lt_s (lt_s (lt_s (lt_s (lt_s (lt_s (lt_s (lt_s mj_pc2 ⟨323, mj_w63⟩) ⟨476, mj_w64⟩) ⟨717, mj_w65⟩) ⟨727, mj_w66⟩) ⟨739, mj_w67⟩) ⟨743, mj_w68⟩) ⟨735, mj_w69⟩) ⟨521, mj_w70⟩) ⟨696, mj_w71⟩) ⟨750, mj_w72⟩) ⟨580, mj_w73⟩) ⟨770, mj_w74⟩) ⟨774, mj_w75⟩) ⟨779, mj_w76⟩) ⟨788, mj_w77⟩) ⟨816, mj_w78⟩) ⟨869, mj_w79⟩) ⟨827, mj_w80⟩) ⟨800, mj_w81⟩) ⟨808, mj_w82⟩) ⟨326, mj_w83⟩)
theorem mj_pc4 : ∀ a, a < 105 → mj_PC a := (lt_s (lt_s (lt_s (lt_s (lt_s (lt_s (lt_s (lt_s (lt_s (lt_s (lt_s (lt_s (lt_s (lt_s (lt_s (lt_s (lt_s (lt_s (lt_s (lt_s (lt_s mj_pc3 ⟨503, mj_w84⟩) ⟨397, mj_w85⟩) ⟨480, mj_w86⟩) ⟨721, mj_w87⟩) ⟨792, mj_w88⟩) ⟨820, mj_w89⟩) ⟨811, mj_w90⟩) ⟨317, mj_w91⟩) ⟨564, mj_w92⟩) ⟨561, mj_w93⟩) ⟨558, mj_w94⟩) ⟨576, mj_w95⟩) ⟨573, mj_w96⟩) ⟨517, mj_w97⟩) ⟨514, mj_w98⟩) ⟨555, mj_w99⟩) ⟨570, mj_w100⟩) ⟨567, mj_w101⟩) ⟨552, mj_w102⟩) ⟨746, mj_w103⟩) ⟨862, mj_w104⟩)
theorem mj_pc5 : ∀ a, a < 113 → mj_PC a := (lt_s (lt_s (lt_s (lt_s (lt_s (lt_s (lt_s (lt_s mj_pc4 ⟨859, mj_w105⟩) ⟨865, mj_w106⟩) ⟨766, mj_w107⟩) ⟨511, mj_w108⟩) ⟨692, mj_w109⟩) ⟨713, mj_w110⟩) ⟨314, mj_w111⟩) ⟨49, mj_w112⟩)
theorem mj_pcAll : ∀ a, a < mj_N → mj_PC a := mj_pc5
end
section
-- the words, out of the tables
theorem mj_memp {ws : List Cond} (ps : List Nat) (h : ws = ps.filterMap (fun i => lw_tbl[i]?)) {w : Cond} (hw : w ∈ ws) : w ∈ lw_tbl := by
  rw [h] at hw
  obtain ⟨i, -, hi⟩ := List.mem_filterMap.mp hw
  first | exact List.mem_of_getElem? hi | exact List.getElem?_mem hi
set_option maxRecDepth 100000 in
theorem mj_wI : mj_kV.map (fun k => Cond.instanceMethod (mj_y k)) = mj_pI.filterMap (fun i => lw_tbl[i]?) := by decide +kernel
set_option maxRecDepth 100000 in
theorem mj_wE : mj_kV.map (fun k => Cond.selects (mj_o k) (mj_y k) (mj_y k)) = mj_pE.filterMap (fun i => lw_tbl[i]?) := by decide +kernel
set_option maxRecDepth 100000 in
theorem mj_wS : mj_kS.map (fun k => Cond.static (mj_y k)) = mj_pS.filterMap (fun i => lw_tbl[i]?) := by decide +kernel
set_option maxRecDepth 100000 in
theorem mj_wN : (List.range 8).map (fun x => Cond.initialized (mj_R x)) = mj_pN.filterMap (fun i => lw_tbl[i]?) := by decide +kernel
set_option maxRecDepth 100000 in
theorem mj_wF : mj_FL.map (fun e => Cond.fieldLink (mj_R e.1) e.2.1 ((mj_q e.2.2.1).2.1 e.2.2.2).1 ((mj_q e.2.2.1).2.1 e.2.2.2).2.1 ((mj_q e.2.2.1).2.1 e.2.2.2).2.2.1) = mj_pFL.filterMap (fun i => lw_tbl[i]?) := by decide +kernel
set_option maxRecDepth 100000 in
theorem mj_wM : mj_ML.map (fun e => Cond.methodLink (mj_R e.1) e.2.1 (mj_y e.2.2)) = mj_pML.filterMap (fun i => lw_tbl[i]?) := by decide +kernel
set_option maxRecDepth 100000 in
theorem mj_wL : [u_ws RX0 TX0 13, u_ws RX1 TX1 8, u_ws RX2 TX2 7, u_ws RX3 TX3 10, u_ws RX4 TX4 7, u_ws RX5 TX5 2, u_ws RX6 TX6 2] = [mj_pL0, mj_pL1, mj_pL2, mj_pL3, mj_pL4, mj_pL5, mj_pL6].map (fun ps => ps.filterMap (fun i => lw_tbl[i]?)) := by decide +kernel
theorem mj_inC {k : Nat} (h : k < mj_N) : Cond.code (mj_y k) (mj_c k) (mj_n k) (mj_r k) ∈ mj_G := by
  obtain ⟨i, hi⟩ := mj_pcAll k h
  exact mj_inG (List.mem_of_getElem? hi) rfl
theorem mj_inI {k : Nat} (h : k ∈ mj_kV) : Cond.instanceMethod (mj_y k) ∈ mj_G := mj_inG (mj_memp mj_pI mj_wI (List.mem_map.mpr ⟨k, h, rfl⟩)) rfl
theorem mj_inE {k : Nat} (h : k ∈ mj_kV) : Cond.selects (mj_o k) (mj_y k) (mj_y k) ∈ mj_G := mj_inG (mj_memp mj_pE mj_wE (List.mem_map.mpr ⟨k, h, rfl⟩)) rfl
theorem mj_inS {k : Nat} (h : k ∈ mj_kS) : Cond.static (mj_y k) ∈ mj_G := mj_inG (mj_memp mj_pS mj_wS (List.mem_map.mpr ⟨k, h, rfl⟩)) rfl
theorem mj_inN {x : Nat} (h : x < 8) : Cond.initialized (mj_R x) ∈ mj_G := mj_inG (mj_memp mj_pN mj_wN (List.mem_map.mpr ⟨x, List.mem_range.mpr h, rfl⟩)) rfl
theorem mj_inF {e : Nat × Nat × Nat × Nat} (h : e ∈ mj_FL) : Cond.fieldLink (mj_R e.1) e.2.1 ((mj_q e.2.2.1).2.1 e.2.2.2).1 ((mj_q e.2.2.1).2.1 e.2.2.2).2.1 ((mj_q e.2.2.1).2.1 e.2.2.2).2.2.1 ∈ mj_G := mj_inG (mj_memp mj_pFL mj_wF (List.mem_map.mpr ⟨e, h, rfl⟩)) rfl
theorem mj_inM {e : Nat × Nat × Nat} (h : e ∈ mj_ML) : Cond.methodLink (mj_R e.1) e.2.1 (mj_y e.2.2) ∈ mj_G := mj_inG (mj_memp mj_pML mj_wM (List.mem_map.mpr ⟨e, h, rfl⟩)) rfl
theorem mj_goodL (C : String) (T : u_T) (N : Nat) : ∀ w ∈ u_ws C T N, goodWord w = true := by
  intro w hw
  obtain ⟨k, -, rfl⟩ := List.mem_map.mp hw
  unfold u_lay
  split <;> rfl
theorem mj_inL {ci : Nat} (h : ci < 7) : ∀ w ∈ u_ws (mj_q ci).1 (mj_q ci).2.1 (mj_q ci).2.2, w ∈ mj_G := by
  intro w hw
  have hg := mj_goodL _ _ _ w hw
  refine mj_inG ?_ hg
  have key : ∀ (i : Nat) (ws : List Cond) (ps : List Nat), ([u_ws RX0 TX0 13, u_ws RX1 TX1 8, u_ws RX2 TX2 7, u_ws RX3 TX3 10, u_ws RX4 TX4 7, u_ws RX5 TX5 2, u_ws RX6 TX6 2] : List (List Cond))[i]? = some ws → [mj_pL0, mj_pL1, mj_pL2, mj_pL3, mj_pL4, mj_pL5, mj_pL6][i]? = some ps → ws = ps.filterMap (fun i => lw_tbl[i]?) := by
    intro i ws ps h1 h2
    rw [mj_wL, List.getElem?_map, h2] at h1
    exact (Option.some.inj h1).symm
  match ci, h with
  | 0, _ => exact mj_memp _ (key 0 _ _ rfl rfl) hw
  | 1, _ => exact mj_memp _ (key 1 _ _ rfl rfl) hw
  | 2, _ => exact mj_memp _ (key 2 _ _ rfl rfl) hw
  | 3, _ => exact mj_memp _ (key 3 _ _ rfl rfl) hw
  | 4, _ => exact mj_memp _ (key 4 _ _ rfl rfl) hw
  | 5, _ => exact mj_memp _ (key 5 _ _ rfl rfl) hw
  | 6, _ => exact mj_memp _ (key 6 _ _ rfl rfl) hw
theorem mj_cl_q {ci : Nat} (h : ci < 7) : mj_cl[ci]? = some (mj_q ci) := by
  match ci, h with
  | 0, _ => rfl
  | 1, _ => rfl
  | 2, _ => rfl
  | 3, _ => rfl
  | 4, _ => rfl
  | 5, _ => rfl
  | 6, _ => rfl
theorem mj_tyok {ci : Nat} (h : ci < 7) : ∀ k, k < (mj_q ci).2.2 → parseFieldDescriptor ((mj_q ci).2.1 k).2.2.1 = some (mj_ty0 ci k) := by
  match ci, h with
  | 0, _ => exact tyX0_ok
  | 1, _ => exact tyX1_ok
  | 2, _ => exact tyX2_ok
  | 3, _ => exact tyX3_ok
  | 4, _ => exact tyX4_ok
  | 5, _ => exact tyX5_ok
  | 6, _ => exact tyX6_ok
theorem mj_nm {ci : Nat} (h : ci < 7) : ∀ a, a < (mj_q ci).2.2 → ∀ b, b < (mj_q ci).2.2 → a ≠ b → ((mj_q ci).2.1 a).2.1 ≠ ((mj_q ci).2.1 b).2.1 := by
  match ci, h with
  | 0, _ => exact nmX0
  | 1, _ => exact nmX1
  | 2, _ => exact nmX2
  | 3, _ => exact nmX3
  | 4, _ => exact nmX4
  | 5, _ => exact nmX5
  | 6, _ => exact nmX6
/-- what a program decides of each method: its class, its place, its arguments -/
def mj_yok (k : Nat) : Bool := decide (plainName (mj_y k).cls = true) && decide ((mj_y k).cls = mj_o k) && decide ((mj_y k).cls ≠ "java/lang/invoke/MethodHandle") && decide ((mj_y k).cls ≠ "java/lang/invoke/VarHandle") && decide ((parseMethodDescriptor (mj_y k).desc).map (fun d => d.parameters.length) = some (mj_ar k)) && decide (mj_oc k < 8) && decide (mj_n k ≤ 21) && decide (mj_r k = none ∨ mj_r k = some .int ∨ mj_r k = some .boolean)
set_option maxRecDepth 100000 in
theorem mj_yall : (List.range mj_N).all mj_yok = true := by decide +kernel
theorem mj_yof {k : Nat} (h : k < mj_N) : plainName (mj_y k).cls = true ∧ (mj_y k).cls = mj_o k ∧ (mj_y k).cls ≠ "java/lang/invoke/MethodHandle" ∧ (mj_y k).cls ≠ "java/lang/invoke/VarHandle" ∧ (parseMethodDescriptor (mj_y k).desc).map (fun d => d.parameters.length) = some (mj_ar k) ∧ mj_oc k < 8 ∧ mj_n k ≤ 21 ∧ (mj_r k = none ∨ mj_r k = some .int ∨ mj_r k = some .boolean) := by
  have h1 := List.all_eq_true.mp mj_yall k (List.mem_range.mpr h)
  simp only [mj_yok, Bool.and_eq_true, decide_eq_true_eq] at h1
  obtain ⟨⟨⟨⟨⟨⟨⟨a, b⟩, c⟩, d⟩, e⟩, f⟩, g⟩, i⟩ := h1
  exact ⟨a, b, c, d, e, f, g, i⟩
end
section
-- the world as a row of numbers: cell c, place i, holds M c i; references stand in the shape
def mj_u (M : mj_M) (c i : Nat) (v : Int32) : mj_M := fun c' => bif Nat.beq c' c then upd (M c) i v else M c'
def mj_f (ad : Nat → Nat) (f : Nat → Int32) : Nat → List (Option Nat) → List Value
  | _, [] => []
  | i, none :: l => .int (f i) :: mj_f ad f (i + 1) l
  | i, some q :: l => .ref (ad q) :: mj_f ad f (i + 1) l
def mj_e (cA : Nat → ClassId) (ad : Nat → Nat) (M : mj_M) (k : Nat) : mj_D → va_E
  | .inl (ci, fs) => .inr (ci, mj_f ad (M k) 0 fs)
  | .inr (t, n) => .inl (cA t, n, .inl (M k))
def mj_w (cA : Nat → ClassId) (ad : Nat → Nat) (M : mj_M) (Sh : List mj_D) : va_W := Sh.mapIdx fun k d => (ad k, mj_e cA ad M k d)
def mj_tr (ad : Nat → Nat) : Value → Value
  | .ref k => .ref (ad k)
  | v => v
theorem mj_u_same (M : mj_M) (c i : Nat) (v : Int32) : mj_u M c i v c = upd (M c) i v := by
  simp [mj_u]
theorem mj_u_ne (M : mj_M) {c c' : Nat} (i : Nat) (v : Int32) (h : c' ≠ c) : mj_u M c i v c' = M c' := by
  have h1 : Nat.beq c' c = false := by
    cases hq : Nat.beq c' c with
    | false => rfl
    | true => exact absurd (Nat.eq_of_beq_eq_true hq) h
  simp only [mj_u, h1, cond_false]
theorem mj_f_get (ad : Nat → Nat) (f : Nat → Int32) : ∀ (l : List (Option Nat)) (i j : Nat), (mj_f ad f i l)[j]? = (l[j]?).map (fun o => match o with | none => Value.int (f (i + j)) | some q => Value.ref (ad q))
  | [], i, j => by simp [mj_f]
  | none :: l, i, 0 => by simp [mj_f]
  | some q :: l, i, 0 => by simp [mj_f]
  | none :: l, i, j + 1 => by
    simp only [mj_f, List.getElem?_cons_succ]
    rw [mj_f_get ad f l (i + 1) j, show i + 1 + j = i + (j + 1) by omega]
  | some q :: l, i, j + 1 => by
    simp only [mj_f, List.getElem?_cons_succ]
    rw [mj_f_get ad f l (i + 1) j, show i + 1 + j = i + (j + 1) by omega]
theorem mj_f_len (ad : Nat → Nat) (f : Nat → Int32) : ∀ (l : List (Option Nat)) (i : Nat), (mj_f ad f i l).length = l.length
  | [], i => rfl
  | none :: l, i => by simp [mj_f, mj_f_len ad f l (i + 1)]
  | some q :: l, i => by simp [mj_f, mj_f_len ad f l (i + 1)]
theorem mj_f_set (ad : Nat → Nat) (f : Nat → Int32) (l : List (Option Nat)) (j : Nat) (v : Int32) (h : l[j]? = some none) : (mj_f ad f 0 l).set j (.int v) = mj_f ad (upd f j v) 0 l := by
  apply List.ext_getElem?
  intro i
  rw [List.getElem?_set, mj_f_get, mj_f_get, mj_f_len]
  by_cases hij : j = i
  · subst hij
    have hl := (List.getElem?_eq_some_iff.mp h).1
    rw [if_pos rfl, if_pos hl, h]
    simp [upd]
  · rw [if_neg hij]
    cases hq : l[i]? with
    | none => rfl
    | some o =>
      cases o with
      | none => simp [upd, show ¬ i = j from fun e => hij e.symm]
      | some q => rfl
theorem mj_w_get (cA : Nat → ClassId) (ad : Nat → Nat) (M : mj_M) (Sh : List mj_D) (k : Nat) : (mj_w cA ad M Sh)[k]? = (Sh[k]?).map (fun d => (ad k, mj_e cA ad M k d)) := by
  simp [mj_w, List.getElem?_mapIdx]
theorem mj_w_some {cA : Nat → ClassId} {ad : Nat → Nat} {M : mj_M} {Sh : List mj_D} {k : Nat} {d : mj_D} (h : Sh[k]? = some d) : (mj_w cA ad M Sh)[k]? = some (ad k, mj_e cA ad M k d) := by
  rw [mj_w_get, h]; rfl
theorem mj_w_len (cA : Nat → ClassId) (ad : Nat → Nat) (M : mj_M) (Sh : List mj_D) : (mj_w cA ad M Sh).length = Sh.length := by
  simp [mj_w]
theorem mj_w_set {cA : Nat → ClassId} {ad : Nat → Nat} {M : mj_M} {Sh : List mj_D} {k : Nat} {d : mj_D} (i : Nat) (v : Int32) (h : Sh[k]? = some d) (e : va_E) (he : e = mj_e cA ad (mj_u M k i v) k d) : (mj_w cA ad M Sh).set k (ad k, e) = mj_w cA ad (mj_u M k i v) Sh := by
  apply List.ext_getElem?
  intro j
  rw [List.getElem?_set, mj_w_get, mj_w_get, mj_w_len]
  have hl := (List.getElem?_eq_some_iff.mp h).1
  by_cases hkj : k = j
  · subst hkj
    rw [if_pos rfl, if_pos hl, h, he]; rfl
  · rw [if_neg hkj]
    cases hq : Sh[j]? with
    | none => rfl
    | some d' =>
      simp only [Option.map_some]
      congr 2
      have hne : j ≠ k := fun e => hkj e.symm
      cases d' with
      | inl o =>
        obtain ⟨ci, fs⟩ := o
        simp only [mj_e]
        rw [mj_u_ne M i v hne]
      | inr a =>
        obtain ⟨t, n⟩ := a
        simp only [mj_e]
        rw [mj_u_ne M i v hne]
def mj_inj (ad : Nat → Nat) (n : Nat) : Prop := ∀ i j, i < n → j < n → ad i = ad j → i = j
def mj_A (ad : Nat → Nat) (n sz : Nat) : Nat → Prop := fun q => (∃ k, k < n ∧ q = ad k) ∨ sz ≤ q
theorem mj_D_of {cA : Nat → ClassId} {ad : Nat → Nat} {M : mj_M} {Sh : List mj_D} {sz : Nat} (hi : mj_inj ad Sh.length) : va_D (mj_A ad Sh.length sz) (mj_w cA ad M Sh) := by
  have key : ∀ (i : Nat) (p : Nat × va_E), (mj_w cA ad M Sh)[i]? = some p → i < Sh.length ∧ p.1 = ad i := by
    intro i p h
    have hl := (List.getElem?_eq_some_iff.mp h).1
    rw [mj_w_len] at hl
    rw [mj_w_get] at h
    refine ⟨hl, ?_⟩
    cases hq : Sh[i]? with
    | none => rw [hq] at h; cases h
    | some d => rw [hq] at h; cases h; rfl
  refine ⟨fun i j p q hp hq hpq => ?_, fun k q hq => ?_⟩
  · obtain ⟨h1, h2⟩ := key i p hp
    obtain ⟨h3, h4⟩ := key j q hq
    exact hi i j h1 h3 (by rw [← h2, ← h4, hpq])
  · obtain ⟨h1, h2⟩ := key k q hq
    exact Or.inl ⟨k, h1, h2⟩
def mj_tys (cA : Nat → ClassId) : List (ClassId × FieldType) := [(cA 0, .int), (cA 1, .boolean)]
-- the texts of the seven exceptions: entry of CrushLoad's pool, text
def mj_tx : List (Nat × String) := [(211, "out of range"), (216, "does not fit"), (220, "no place for one more"), (228, "no such room"), (232, "no such link"), (235, "no such person"), (238, "no such train")]
def mj_E (e : Nat) : String := match e with
  | 0 => "java/lang/IndexOutOfBoundsException"
  | 1 => "java/lang/IllegalArgumentException"
  | _ => "java/lang/IllegalStateException"
def mj_dc : List MethodName := [⟨"java/lang/RuntimeException", "<init>", "()V"⟩, ⟨"java/lang/RuntimeException", "<init>", "(Ljava/lang/String;)V"⟩, ⟨"java/lang/Exception", "<init>", "()V"⟩, ⟨"java/lang/Exception", "<init>", "(Ljava/lang/String;)V"⟩, ⟨"java/lang/Throwable", "<init>", "()V"⟩, ⟨"java/lang/Throwable", "<init>", "(Ljava/lang/String;)V"⟩]
/-- what a throw needs of the start: statics of Throwable, the texts, the words that only the tables decide -/
def mj_X (lv : Nat) (ad : Nat → Nat) (A : Nat → Prop) (U : State) (H : Heap) : Prop := ((lv = 2 ∨ lv = 9) → vx_Zq Bundle.tN "UNASSIGNED_STACK" Bundle.steD A U H ∧ vx_Zq Bundle.tN "SUPPRESSED_SENTINEL" Bundle.listD A U H ∧ (∀ q ∈ mj_tx, ∃ sa, vk_R RX6 q.1 q.2 sa U) ∧ (∀ e, e < 3 → va_Nw (.castable (mj_E e) (mj_E e)) U) ∧ (∀ y ∈ mj_dc, va_Nw (.declares y) U)) ∧ (lv = 9 → ∃ (L : Nat) (xs : Nat → Int32), L ≤ 260 ∧ va_X (ad 999) L xs U H ∧ ad 999 < H.size ∧ ¬ A (ad 999))
theorem mj_X.of {lv : Nat} {ad : Nat → Nat} {A : Nat → Prop} {U : State} {H : Heap} (h2 : lv ≠ 2) (h9 : lv ≠ 9) : mj_X lv ad A U H := ⟨fun h => (h.elim h2 h9).elim, fun h => (h9 h).elim⟩
theorem va_X.warm {b L : Nat} {xs : Nat → Int32} {s U : State} {H : Heap} (hW : s.WarmedH U.vm) (h : va_X b L xs s H) : va_X b L xs U H := by
  obtain ⟨scr, h1, h2, h3, h4, h5⟩ := h
  refine ⟨scr, h1, ?_, h3, h4, h5⟩
  exact State.isArrayOf_alike hW.alike h2
theorem mj_X.warm {lv : Nat} {ad : Nat → Nat} {A : Nat → Prop} {s U : State} {H : Heap} (hW : s.WarmedH U.vm) (h : mj_X lv ad A s H) : mj_X lv ad A U H := by
  obtain ⟨hz, hs⟩ := h
  refine ⟨fun hlv => ?_, fun hlv => ?_⟩
  · obtain ⟨h1, h2, h3, h4, h5⟩ := hz hlv
    refine ⟨vx_Zq.moved hW.alike h1, vx_Zq.moved hW.alike h2, fun q hq => ?_, fun e he => va_Nw.warmC hW (h4 e he), fun y hy => va_Nw.warmD hW (h5 y hy)⟩
    obtain ⟨sa, hsa⟩ := h3 q hq
    exact ⟨sa, vk_R.warm hW hsa⟩
  · obtain ⟨L, xs, h1, h2, h3⟩ := hs hlv
    exact ⟨L, xs, h1, va_X.warm hW h2, h3⟩
theorem mj_X.kept {lv lv' : Nat} {ad ad' : Nat → Nat} {A B : Nat → Prop} {U : State} {H H1 : Heap} (h : mj_X lv ad A U H) (hq : ∀ a : Nat, a < H.size → ¬ A a → H1[a]? = H[a]?) (hz : H.size ≤ H1.size) (hAB : ∀ q, B q → A q) (h2 : lv' = 2 → lv = 2 ∨ lv = 9) (h9 : lv' = 9 → lv = 9) (had : ad' 999 = ad 999) : mj_X lv' ad' B U H1 := by
  obtain ⟨ha, hs⟩ := h
  refine ⟨fun hlv => ?_, fun hlv => ?_⟩
  · obtain ⟨h1, h2, h3, h4, h5⟩ := ha (by rcases hlv with e | e; exact h2 e; exact Or.inr (h9 e))
    exact ⟨(h1.kept hq).narrow hAB, (h2.kept hq).narrow hAB, h3, h4, h5⟩
  · obtain ⟨L, xs, h1, ⟨scr, g1, g2⟩, h3, h4⟩ := hs (h9 hlv)
    rw [had]
    exact ⟨L, xs, h1, ⟨scr, by rw [hq _ h3 h4]; exact g1, g2⟩, Nat.lt_of_lt_of_le h3 hz, fun q => h4 (hAB _ q)⟩
theorem mj_A_mono {ad : Nat → Nat} {n a b : Nat} (h : a ≤ b) : ∀ q, mj_A ad n b q → mj_A ad n a q := by
  intro q hq
  rcases hq with hq | hq
  · exact Or.inl hq
  · exact Or.inr (Nat.le_trans h hq)
def mj_B (D : va_G) (cA : Nat → ClassId) (ad : Nat → Nat) (Sh : List mj_D) (M : mj_M) (t : State) : Prop := va_P D mj_cl (mj_w cA ad M Sh) t.heap
def mj_Q (r : Option FieldType) (D : va_G) (cA : Nat → ClassId) (ad : Nat → Nat) (Sh : List mj_D) (K : mj_K) (A : Nat → Prop) : Array Value → State → Outcome → State → Prop := match r with
  | none => va_Qv (fun u : mj_M => K 0 0 u) (mj_B D cA ad Sh) A
  | some _ => va_Qi (fun (v : Int32) (u : mj_M) => K 0 v u) (mj_B D cA ad Sh) A
def mj_XC (D : va_G) (cA : Nat → ClassId) (ad : Nat → Nat) (Sh : List mj_D) (K : mj_K) (A : Nat → Prop) : String → State → State → Prop := vx_X (fun u : Nat × mj_M => K (u.1 + 1) 0 u.2) (fun E u t => E = mj_E u.1 ∧ mj_B D cA ad Sh u.2 t) A
def mj_Pc (lv : Nat) (D : va_G) (cA : Nat → ClassId) (ad : Nat → Nat) (As : List Value) (M : mj_M) (sz : Nat) : Array Value → State → Prop := va_Pc (As.map (mj_tr ad)) (fun U => U.heap.size = sz ∧ va_P D mj_cl (mj_w cA ad M (mj_Sh lv)) U.heap ∧ va_K D mj_cl (mj_tys cA) U ∧ mj_X lv ad (mj_A ad (mj_Sh lv).length sz) U U.heap)
/-- THE CONTRACT of method k, with calls at most d deep below it: from the arguments As and the world M it comes to an end of which K holds -/
def mj_Cm (k d : Nat) (As : List Value) (M : mj_M) (K : mj_K) : Prop :=
  ∀ (l : Launch) (D : va_G) (cA : Nat → ClassId) (ad : Nat → Nat) (sz : Nat), l.stackTraces = false → mj_inj ad (mj_Sh (mj_lv k)).length →
    vx_Met l (mj_y k) (mj_ws k) (mj_rm k d) (mj_Pc (mj_lv k) D cA ad As M sz) (mj_Q (mj_r k) D cA ad (mj_Sh (mj_lv k)) K (mj_A ad (mj_Sh (mj_lv k)).length sz)) (mj_XC D cA ad (mj_Sh (mj_lv k)) K (mj_A ad (mj_Sh (mj_lv k)).length sz)) (mj_mc k) (64 * mj_mc k) (mj_A ad (mj_Sh (mj_lv k)).length sz)
/-- locals: by place, what is known of them -/
def mj_L (ad : Nat → Nat) (lsA : Array Slot) (n : Nat) (ls : List (Option Value)) : Prop := lsA.size = n ∧ ls.length = n ∧ lv_wf lsA ∧ ∀ (i : Nat) (v : Value), ls[i]? = some (some v) → v.category = 1 ∧ lsA[i]? = some (.val (mj_tr ad v))
def mj_C (lv k : Nat) (p : Program) (l : Launch) (s : State) (m : MethodId) (args : Array Value) (meth : Method) (c : Code) (D : va_G) (cA : Nat → ClassId) (ad : Nat → Nat) : Prop :=
  p.tables.exec = Jvm.exec ∧ l.stackTraces = false ∧ c.code = mj_c k ∧ c.maxLocals = mj_n k ∧ s.vm.findClass (mj_o k) = some m.cls ∧ (∀ w ∈ mj_G, w.before args s = true) ∧ meth.sig.returnType = mj_r k ∧ meth.locks = false ∧ (∀ x ∈ c.exceptionTable.toList, False) ∧ mj_inj ad (mj_Sh lv).length ∧ va_K D mj_cl (mj_tys cA) s ∧ mj_X lv ad (mj_A ad (mj_Sh lv).length s.heap.size) s s.heap
/-- method k, standing at pc: it comes to an end of which K holds -/
def mj_W (lv k d pc : Nat) (ls : List (Option Value)) (st : List Value) (M : mj_M) (cn : Nat) (K : mj_K) : Prop :=
  ∀ (p : Program) (l : Launch) (e : Env) (s : State) (m : MethodId) (args : Array Value) (below : List Frame) (meth : Method) (c : Code) (D : va_G) (cA : Nat → ClassId) (ad : Nat → Nat), mj_C lv k p l s m args meth c D cA ad →
    ∀ (H : Heap) (locs : List Loc) (lsA : Array Slot), mj_L ad lsA (mj_n k) ls → va_P D mj_cl (mj_w cA ad M (mj_Sh lv)) H → va_S (mj_A ad (mj_Sh lv).length s.heap.size) s.heap H locs →
      W p l e (mj_rm k d) s m args below meth c H locs cn (64 * cn) (vx_MQ below (mj_Q (mj_r k) D cA ad (mj_Sh lv) K (mj_A ad (mj_Sh lv).length s.heap.size)) (mj_XC D cA ad (mj_Sh lv) K (mj_A ad (mj_Sh lv).length s.heap.size)) args s (mj_mc k) (64 * mj_mc k) (mj_A ad (mj_Sh lv).length s.heap.size)) (F0 m pc lsA (st.map (mj_tr ad)))
theorem mj_tr_cat (ad : Nat → Nat) (v : Value) : (mj_tr ad v).category = v.category := by
  cases v <;> rfl
theorem mj_lg_sl (ad : Nat → Nat) : ∀ (As : List Value), (∀ v ∈ As, v.category = 1) → lg_sl (As.map (mj_tr ad)) = As.map (fun v => Slot.val (mj_tr ad v))
  | [], _ => rfl
  | v :: l, h => by
    have h1 : ¬ (mj_tr ad v).category = 2 := by rw [mj_tr_cat, h v List.mem_cons_self]; decide
    have h2 := mj_lg_sl ad l (fun w hw => h w (List.mem_cons_of_mem _ hw))
    simp only [lg_sl, List.map_cons, List.flatMap_cons, if_neg h1] at h2 ⊢
    rw [h2]; rfl
theorem mj_entry {k d : Nat} {As : List Value} {M : mj_M} {K : mj_K} (hk : k < mj_N) (hc : ∀ v ∈ As, v.category = 1) (hn : As.length ≤ mj_n k) (h : mj_W (mj_lv k) k d 0 (As.map some ++ List.replicate (mj_n k - As.length) none) [] M 0 K) : mj_Cm k d As M K := by
  intro l D cA ad sz hl hinj
  obtain ⟨y1, y2, y3, y4, y5, y6, y7, y8⟩ := mj_yof hk
  refine vx_ofW (cc := mj_c k) (maxL := mj_n k) (ret := mj_r k) y1 rfl ?_
  intro p e s m args below meth c s₁ B hml htab hv
  obtain ⟨rfl, hsz, hP, hK, hX⟩ := hv
  have hown : s.vm.findClass (mj_o k) = some m.cls := by rw [← y2]; exact findClass_of_methodNamed B.named
  have hts := atoms_spec (ws := mj_ws k) B.pre
  subst hsz
  rw [lg_entry_eq, mj_lg_sl ad As hc]
  have hlen : (As.map (fun v => Slot.val (mj_tr ad v))).length = As.length := List.length_map _
  rw [hlen]
  refine h p l e s m _ below meth c D cA ad ⟨B.exec, hl, B.bytes, hml, hown, fun w hw => hts w (List.mem_cons_of_mem _ hw), B.returns, B.notSynchronized, htab, hinj, hK, hX⟩ s.heap [] _ ?_ hP va_S.rf
  have hval : ∀ (i : Nat), (As.map (fun v => Slot.val (mj_tr ad v)) ++ List.replicate (mj_n k - As.length) Slot.unset).toArray[i]? = if i < As.length then (As[i]?).map (fun v => Slot.val (mj_tr ad v)) else if i < mj_n k then some .unset else none := by
    intro i
    rw [List.getElem?_toArray]
    by_cases hi : i < As.length
    · rw [if_pos hi, List.getElem?_append_left (by rw [hlen]; exact hi), List.getElem?_map]
    · rw [if_neg hi, List.getElem?_append_right (by rw [hlen]; omega), hlen, List.getElem?_replicate]
      by_cases h2 : i < mj_n k
      · rw [if_pos h2, if_pos (by omega)]
      · rw [if_neg h2, if_neg (by omega)]
  refine ⟨by simp; omega, by simp; omega, ⟨fun i v hv h2 => ?_, fun i hv => ?_⟩, fun i v hv => ?_⟩
  · rw [hval] at hv
    split at hv
    · cases hq : As[i]? with
      | none => rw [hq] at hv; cases hv
      | some w =>
        rw [hq] at hv
        cases hv
        rw [mj_tr_cat, hc w (List.mem_of_getElem? hq)] at h2
        cases h2
    · split at hv <;> cases hv
  · rw [hval] at hv
    split at hv
    · cases hq : As[i]? with
      | none => rw [hq] at hv; cases hv
      | some w => rw [hq] at hv; cases hv
    · split at hv <;> cases hv
  · have hi : i < As.length := by
      rcases Nat.lt_or_ge i As.length with q | q
      · exact q
      · rw [List.getElem?_append_right (by simpa using q), List.getElem?_replicate] at hv
        split at hv <;> cases hv
    rw [List.getElem?_append_left (by simpa using hi), List.getElem?_map] at hv
    cases hq : As[i]? with
    | none => rw [hq] at hv; cases hv
    | some w =>
      rw [hq] at hv
      cases hv
      refine ⟨hc v (List.mem_of_getElem? hq), ?_⟩
      rw [hval, if_pos hi, hq]; rfl
end
section
-- one row an instruction
section MJ
variable {lv k d pc cn : Nat} {ls : List (Option Value)} {st rest : List Value} {M : mj_M} {K : mj_K}
def mj_al (ad : Nat → Nat) (ls : List (Option Value)) : List (Nat × Value) := (List.range ls.length).filterMap (fun i => match ls[i]? with | some (some v) => some (i, mj_tr ad v) | _ => none)
theorem mj_al_mem {ad : Nat → Nat} {ls : List (Option Value)} {q : Nat × Value} : q ∈ mj_al ad ls ↔ ∃ v, ls[q.1]? = some (some v) ∧ q.2 = mj_tr ad v := by
  unfold mj_al
  rw [List.mem_filterMap]
  constructor
  · rintro ⟨i, hi, h⟩
    split at h
    · rename_i v hv
      cases h
      exact ⟨v, hv, rfl⟩
    · cases h
  · rintro ⟨v, hv, h2⟩
    refine ⟨q.1, List.mem_range.mpr (List.getElem?_eq_some_iff.mp hv).1, ?_⟩
    rw [hv]
    simp only [← h2]
theorem mj_L.has {ad : Nat → Nat} {lsA : Array Slot} {n : Nat} (h : mj_L ad lsA n ls) : lv_has lsA n (mj_al ad ls) := by
  refine ⟨h.1, h.2.2.1, fun q hq => ?_⟩
  obtain ⟨v, hv, h2⟩ := mj_al_mem.mp hq
  rw [h2]
  exact (h.2.2.2 q.1 v hv).2
theorem mj_L.put {ad : Nat → Nat} {lsA lsB : Array Slot} {n i : Nat} {v : Value} (h : mj_L ad lsA n ls) (hc : v.category = 1) (hn : i < n) (h' : lv_has lsB n ((i, mj_tr ad v) :: (mj_al ad ls).filter (fun q => !(q.1 == i) && !(q.1 + 1 == i && q.2.category == 2)))) : mj_L ad lsB n (ls.set i (some v)) := by
  refine ⟨h'.1, by rw [List.length_set]; exact h.2.1, h'.2.1, fun j w hw => ?_⟩
  by_cases hj : j = i
  · subst hj
    rw [List.getElem?_set_self (by rw [h.2.1]; exact hn)] at hw
    cases hw
    exact ⟨hc, h'.2.2 (j, mj_tr ad v) List.mem_cons_self⟩
  · rw [List.getElem?_set_ne (fun e => hj e.symm)] at hw
    have h1 := (h.2.2.2 j w hw).1
    refine ⟨h1, h'.2.2 (j, mj_tr ad w) (List.mem_cons_of_mem _ (List.mem_filter.mpr ⟨mj_al_mem.mpr ⟨w, hw, rfl⟩, ?_⟩))⟩
    have e1 : (j == i) = false := by simpa using hj
    have e2 : ((mj_tr ad w).category == 2) = false := by rw [mj_tr_cat, h1]; rfl
    simp only [e1, e2, Bool.and_false, Bool.not_false, Bool.and_self]
theorem mj_L.idx {ad : Nat → Nat} {lsA : Array Slot} {n i : Nat} {v : Value} (h : mj_L ad lsA n ls) (hv : ls[i]? = some (some v)) : ∃ q : Nat, (mj_al ad ls)[q]? = some (i, mj_tr ad v) := List.getElem?_of_mem (mj_al_mem.mpr ⟨v, hv, rfl⟩)
theorem mj_r_iconst {n : Int} (hd : decode (mj_c k) pc = .ok (.iconst n, 1)) (h : mj_W lv k d (pc + 1) ls (.int (Int32.ofInt n) :: st) M cn K) : mj_W lv k d pc ls st M cn K := by
  intro p l e s m args below meth c D cA ad C H locs lsA hl hP hS
  obtain ⟨hx, -, hb, -⟩ := id C
  exact lv_iconst hx hb hd rfl (h p l e s m args below meth c D cA ad C H locs lsA hl hP hS)
theorem mj_r_bipush {n : Int} (hd : decode (mj_c k) pc = .ok (.bipush n, 2)) (h : mj_W lv k d (pc + 2) ls (.int (Int8.ofInt n).toInt32 :: st) M cn K) : mj_W lv k d pc ls st M cn K := by
  intro p l e s m args below meth c D cA ad C H locs lsA hl hP hS
  obtain ⟨hx, -, hb, -⟩ := id C
  exact lv_bipush hx hb hd rfl (h p l e s m args below meth c D cA ad C H locs lsA hl hP hS)
theorem mj_r_sipush {n : Int} (hd : decode (mj_c k) pc = .ok (.sipush n, 3)) (h : mj_W lv k d (pc + 3) ls (.int (Int16.ofInt n).toInt32 :: st) M cn K) : mj_W lv k d pc ls st M cn K := by
  intro p l e s m args below meth c D cA ad C H locs lsA hl hP hS
  obtain ⟨hx, -, hb, -⟩ := id C
  exact lv_sipush hx hb hd rfl (h p l e s m args below meth c D cA ad C H locs lsA hl hP hS)
theorem mj_r_iload_n {j : Fin 4} {x : Int32} (hd : decode (mj_c k) pc = .ok (.iload_n j, 1)) (hv : ls[(j : Nat)]? = some (some (.int x))) (h : mj_W lv k d (pc + 1) ls (.int x :: st) M cn K) : mj_W lv k d pc ls st M cn K := by
  intro p l e s m args below meth c D cA ad C H locs lsA hl hP hS
  obtain ⟨hx, -, hb, -⟩ := id C
  exact lv_iload_n hx hb hd rfl (hl.2.2.2 _ _ hv).2 (h p l e s m args below meth c D cA ad C H locs lsA hl hP hS)
theorem mj_r_iload {j : Nat} {x : Int32} (hd : decode (mj_c k) pc = .ok (.iload j, 2)) (hv : ls[j]? = some (some (.int x))) (h : mj_W lv k d (pc + 2) ls (.int x :: st) M cn K) : mj_W lv k d pc ls st M cn K := by
  intro p l e s m args below meth c D cA ad C H locs lsA hl hP hS
  obtain ⟨hx, -, hb, -⟩ := id C
  exact lv_iload hx hb hd (hl.2.2.2 _ _ hv).2 (h p l e s m args below meth c D cA ad C H locs lsA hl hP hS)
theorem mj_r_aload_n {j : Fin 4} {x : Nat} (hd : decode (mj_c k) pc = .ok (.aload_n j, 1)) (hv : ls[(j : Nat)]? = some (some (.ref x))) (h : mj_W lv k d (pc + 1) ls (.ref x :: st) M cn K) : mj_W lv k d pc ls st M cn K := by
  intro p l e s m args below meth c D cA ad C H locs lsA hl hP hS
  obtain ⟨hx, -, hb, -⟩ := id C
  exact lv_aload_n hx hb hd rfl (hl.2.2.2 _ _ hv).2 (h p l e s m args below meth c D cA ad C H locs lsA hl hP hS)
theorem mj_r_aload {j : Nat} {x : Nat} (hd : decode (mj_c k) pc = .ok (.aload j, 2)) (hv : ls[j]? = some (some (.ref x))) (h : mj_W lv k d (pc + 2) ls (.ref x :: st) M cn K) : mj_W lv k d pc ls st M cn K := by
  intro p l e s m args below meth c D cA ad C H locs lsA hl hP hS
  obtain ⟨hx, -, hb, -⟩ := id C
  exact lv_aload hx hb hd (hl.2.2.2 _ _ hv).2 (h p l e s m args below meth c D cA ad C H locs lsA hl hP hS)
theorem mj_r_istore_n {j : Fin 4} {x : Int32} (hn : (j : Nat) < mj_n k) (hd : decode (mj_c k) pc = .ok (.istore_n j, 1)) (h : mj_W lv k d (pc + 1) (ls.set (j : Nat) (some (.int x))) st M cn K) : mj_W lv k d pc ls (.int x :: st) M cn K := by
  intro p l e s m args below meth c D cA ad C H locs lsA hl hP hS
  obtain ⟨hx, -, hb, -⟩ := id C
  exact lv_istore_n hx hb hd rfl hl.has hn rfl (fun lsB h' => h p l e s m args below meth c D cA ad C H locs lsB (hl.put (v := .int x) rfl hn h') hP hS)
theorem mj_r_istore {j : Nat} {x : Int32} (hn : j < mj_n k) (hd : decode (mj_c k) pc = .ok (.istore j, 2)) (h : mj_W lv k d (pc + 2) (ls.set j (some (.int x))) st M cn K) : mj_W lv k d pc ls (.int x :: st) M cn K := by
  intro p l e s m args below meth c D cA ad C H locs lsA hl hP hS
  obtain ⟨hx, -, hb, -⟩ := id C
  exact lv_istore hx hb hd hl.has hn rfl (fun lsB h' => h p l e s m args below meth c D cA ad C H locs lsB (hl.put (v := .int x) rfl hn h') hP hS)
theorem mj_r_iinc {j : Nat} {n : Int} {x : Int32} (hn : j < mj_n k) (hd : decode (mj_c k) pc = .ok (.iinc j n, 3)) (hv : ls[j]? = some (some (.int x))) (h : mj_W lv k d (pc + 3) (ls.set j (some (.int (x + Int32.ofInt n)))) st M cn K) : mj_W lv k d pc ls st M cn K := by
  intro p l e s m args below meth c D cA ad C H locs lsA hl hP hS
  obtain ⟨hx, -, hb, -⟩ := id C
  obtain ⟨q, hq⟩ := hl.idx hv
  exact lv_iinc hx hb hd hl.has hq rfl hn rfl (fun lsB h' => h p l e s m args below meth c D cA ad C H locs lsB (hl.put (v := .int (x + Int32.ofInt n)) rfl hn h') hP hS)
theorem mj_r_iadd {x y : Int32} (hd : decode (mj_c k) pc = .ok (.iadd, 1)) (h : mj_W lv k d (pc + 1) ls (.int (x + y) :: st) M cn K) : mj_W lv k d pc ls (.int y :: .int x :: st) M cn K := by
  intro p l e s m args below meth c D cA ad C H locs lsA hl hP hS
  obtain ⟨hx, -, hb, -⟩ := id C
  exact lv_iadd hx hb hd (h p l e s m args below meth c D cA ad C H locs lsA hl hP hS)
theorem mj_r_isub {x y : Int32} (hd : decode (mj_c k) pc = .ok (.isub, 1)) (h : mj_W lv k d (pc + 1) ls (.int (x - y) :: st) M cn K) : mj_W lv k d pc ls (.int y :: .int x :: st) M cn K := by
  intro p l e s m args below meth c D cA ad C H locs lsA hl hP hS
  obtain ⟨hx, -, hb, -⟩ := id C
  exact lv_isub hx hb hd (h p l e s m args below meth c D cA ad C H locs lsA hl hP hS)
theorem mj_r_imul {x y : Int32} (hd : decode (mj_c k) pc = .ok (.imul, 1)) (h : mj_W lv k d (pc + 1) ls (.int (x * y) :: st) M cn K) : mj_W lv k d pc ls (.int y :: .int x :: st) M cn K := by
  intro p l e s m args below meth c D cA ad C H locs lsA hl hP hS
  obtain ⟨hx, -, hb, -⟩ := id C
  exact lv_imul hx hb hd (h p l e s m args below meth c D cA ad C H locs lsA hl hP hS)
theorem mj_r_idiv {x y : Int32} (hd : decode (mj_c k) pc = .ok (.idiv, 1)) (hy : ¬ y = 0) (h : mj_W lv k d (pc + 1) ls (.int (x / y) :: st) M cn K) : mj_W lv k d pc ls (.int y :: .int x :: st) M cn K := by
  intro p l e s m args below meth c D cA ad C H locs lsA hl hP hS
  obtain ⟨hx, -, hb, -⟩ := id C
  exact lv_idiv hx hb hd hy (h p l e s m args below meth c D cA ad C H locs lsA hl hP hS)
theorem mj_r_irem {x y : Int32} (hd : decode (mj_c k) pc = .ok (.irem, 1)) (hy : ¬ y = 0) (h : mj_W lv k d (pc + 1) ls (.int (x - x / y * y) :: st) M cn K) : mj_W lv k d pc ls (.int y :: .int x :: st) M cn K := by
  intro p l e s m args below meth c D cA ad C H locs lsA hl hP hS
  obtain ⟨hx, -, hb, -⟩ := id C
  exact lv_irem hx hb hd hy (h p l e s m args below meth c D cA ad C H locs lsA hl hP hS)
theorem mj_r_iand {x y : Int32} (hd : decode (mj_c k) pc = .ok (.iand, 1)) (h : mj_W lv k d (pc + 1) ls (.int (x &&& y) :: st) M cn K) : mj_W lv k d pc ls (.int y :: .int x :: st) M cn K := by
  intro p l e s m args below meth c D cA ad C H locs lsA hl hP hS
  obtain ⟨hx, -, hb, -⟩ := id C
  exact lv_iand hx hb hd (h p l e s m args below meth c D cA ad C H locs lsA hl hP hS)
theorem mj_r_ior {x y : Int32} (hd : decode (mj_c k) pc = .ok (.ior, 1)) (h : mj_W lv k d (pc + 1) ls (.int (x ||| y) :: st) M cn K) : mj_W lv k d pc ls (.int y :: .int x :: st) M cn K := by
  intro p l e s m args below meth c D cA ad C H locs lsA hl hP hS
  obtain ⟨hx, -, hb, -⟩ := id C
  exact lv_ior hx hb hd (h p l e s m args below meth c D cA ad C H locs lsA hl hP hS)
theorem mj_r_ishl {x y : Int32} (hd : decode (mj_c k) pc = .ok (.ishl, 1)) (h : mj_W lv k d (pc + 1) ls (.int (x <<< (y &&& 31)) :: st) M cn K) : mj_W lv k d pc ls (.int y :: .int x :: st) M cn K := by
  intro p l e s m args below meth c D cA ad C H locs lsA hl hP hS
  obtain ⟨hx, -, hb, -⟩ := id C
  exact lv_ishl hx hb hd (h p l e s m args below meth c D cA ad C H locs lsA hl hP hS)
theorem mj_r_dup {v : Value} (hc : v.category = 1) (hd : decode (mj_c k) pc = .ok (.dup, 1)) (h : mj_W lv k d (pc + 1) ls (v :: v :: st) M cn K) : mj_W lv k d pc ls (v :: st) M cn K := by
  intro p l e s m args below meth c D cA ad C H locs lsA hl hP hS
  obtain ⟨hx, -, hb, -⟩ := id C
  exact lv_dup hx hb hd (by rw [mj_tr_cat, hc]) (h p l e s m args below meth c D cA ad C H locs lsA hl hP hS)
theorem mj_r_dup2 {v w : Value} (hc : v.category = 1) (hw : w.category = 1) (hd : decode (mj_c k) pc = .ok (.dup2, 1)) (h : mj_W lv k d (pc + 1) ls (v :: w :: v :: w :: st) M cn K) : mj_W lv k d pc ls (v :: w :: st) M cn K := by
  intro p l e s m args below meth c D cA ad C H locs lsA hl hP hS
  obtain ⟨hx, -, hb, -⟩ := id C
  exact lv_dup2_11 hx hb hd (by rw [mj_tr_cat, hc]) (by rw [mj_tr_cat, hw]) (h p l e s m args below meth c D cA ad C H locs lsA hl hP hS)
theorem mj_r_pop {v : Value} (hc : v.category = 1) (hd : decode (mj_c k) pc = .ok (.pop, 1)) (h : mj_W lv k d (pc + 1) ls st M cn K) : mj_W lv k d pc ls (v :: st) M cn K := by
  intro p l e s m args below meth c D cA ad C H locs lsA hl hP hS
  obtain ⟨hx, -, hb, -⟩ := id C
  exact lv_pop hx hb hd (by rw [mj_tr_cat, hc]) (h p l e s m args below meth c D cA ad C H locs lsA hl hP hS)
theorem mj_r_goto {off : Int} {tgt : Nat} (hd : decode (mj_c k) pc = .ok (.goto off, 3)) (ht : (pc : Int) + off = (tgt : Int)) (h : mj_W lv k d tgt ls st M cn K) : mj_W lv k d pc ls st M cn K := by
  intro p l e s m args below meth c D cA ad C H locs lsA hl hP hS
  obtain ⟨hx, -, hb, -⟩ := id C
  exact lv_goto hx hb hd ht (h p l e s m args below meth c D cA ad C H locs lsA hl hP hS)
/-- a field: ci its class, sl its slot -/
theorem mj_r_get {idx ci sl x : Nat} {fs : List (Option Nat)} {v : Value} (hd : decode (mj_c k) pc = .ok (.getfield idx, 3)) (hF : (mj_oc k, idx, ci, sl) ∈ mj_FL) (hci : ci < 7) (hsl : sl < (mj_q ci).2.2) (hsh : (mj_Sh lv)[x]? = some (.inl (ci, fs))) (hv : (fs[sl]?).map (fun o => match o with | none => Value.int (M x sl) | some q => Value.ref q) = some v) (h : mj_W lv k d (pc + 3) ls (v :: st) M cn K) : mj_W lv k d pc ls (.ref x :: st) M cn K := by
  intro p l e s m args below meth c D cA ad C H locs lsA hl hP hS
  obtain ⟨hx, -, hb, -, hown, hts, -, -, -, hinj, hK, -⟩ := id C
  refine va_get (C := (mj_q ci).1) (T := (mj_q ci).2.1) (N := (mj_q ci).2.2) (ref := ((mj_q ci).2.1 sl).1) hx hb hts (mj_inL hci) hown hK hP x (mj_w_some hsh) (mj_cl_q hci) sl hsl (hts _ (mj_inF hF)) (fun _ h => h) (v := mj_tr ad v) ?_ hd (h p l e s m args below meth c D cA ad C H locs lsA hl hP hS)
  rw [mj_f_get]
  cases hq : fs[sl]? with
  | none => rw [hq] at hv; cases hv
  | some o =>
    rw [hq] at hv
    cases o with
    | none => cases hv; simp [mj_tr]
    | some q => cases hv; rfl
theorem mj_r_put {idx ci sl x : Nat} {fs : List (Option Nat)} {v : Int32} {ty : FieldType} (hd : decode (mj_c k) pc = .ok (.putfield idx, 3)) (hF : (mj_oc k, idx, ci, sl) ∈ mj_FL) (hci : ci < 7) (hsl : sl < (mj_q ci).2.2) (hfin : ((mj_q ci).2.1 sl).2.2.2 = false) (hty : mj_ty0 ci sl = ty) (hn : narrow ty (.int v) = .int v) (hfit : fits ty (.int v) = true) (hsh : (mj_Sh lv)[x]? = some (.inl (ci, fs))) (hv : fs[sl]? = some none) (h : mj_W lv k d (pc + 3) ls st (mj_u M x sl v) cn K) : mj_W lv k d pc ls (.int v :: .ref x :: st) M cn K := by
  intro p l e s m args below meth c D cA ad C H locs lsA hl hP hS
  obtain ⟨hx, -, hb, -, hown, hts, -, -, -, hinj, hK, -⟩ := id C
  refine va_put (C := (mj_q ci).1) (T := (mj_q ci).2.1) (N := (mj_q ci).2.2) (ref := ((mj_q ci).2.1 sl).1) hx hb hts (mj_inL hci) (mj_ty0 ci) (mj_tyok hci) (mj_nm hci) hown hK hP (mj_D_of hinj) hS x (mj_w_some hsh) (mj_cl_q hci) sl hsl (hts _ (mj_inF hF)) (fun _ h => h) hfin (ty := ty) (by rw [← hty]; exact mj_tyok hci sl hsl) hn hfit (by rw [mj_f_len]; exact (List.getElem?_eq_some_iff.mp hv).1) hd (fun H1 locs1 hP1 hD1 hS1 => ?_)
  rw [mj_w_set sl v hsh _ (by simp only [mj_e, mj_tr]; rw [mj_u_same, mj_f_set ad (M x) fs sl v hv])] at hP1
  exact h p l e s m args below meth c D cA ad C H1 locs1 lsA hl hP1 hS1
theorem mj_r_iald {x n : Nat} {i : Int32} (hd : decode (mj_c k) pc = .ok (.iaload, 1)) (hsh : (mj_Sh lv)[x]? = some (.inr (0, n))) (hin : vp_in i n) (h : mj_W lv k d (pc + 1) ls (.int (M x i.toNatClampNeg) :: st) M cn K) : mj_W lv k d pc ls (.int i :: .ref x :: st) M cn K := by
  intro p l e s m args below meth c D cA ad C H locs lsA hl hP hS
  obtain ⟨hx, -, hb, -, hown, hts, -, -, -, hinj, hK, -⟩ := id C
  exact va_iald hx hb hK hP x 0 (mj_w_some hsh) rfl hin hd (h p l e s m args below meth c D cA ad C H locs lsA hl hP hS)
theorem mj_r_ishr {x y : Int32} (hd : decode (mj_c k) pc = .ok (.ishr, 1)) (h : mj_W lv k d (pc + 1) ls (.int (x >>> (y &&& 31)) :: st) M cn K) : mj_W lv k d pc ls (.int y :: .int x :: st) M cn K := by
  intro p l e s m args below meth c D cA ad C H locs lsA hl hP hS
  obtain ⟨hx, -, hb, -⟩ := id C
  exact lv_ishr hx hb hd (h p l e s m args below meth c D cA ad C H locs lsA hl hP hS)
theorem mj_r_bald {x n : Nat} {i : Int32} (hd : decode (mj_c k) pc = .ok (.baload, 1)) (hsh : (mj_Sh lv)[x]? = some (.inr (1, n))) (hin : vp_in i n) (h : mj_W lv k d (pc + 1) ls (.int (M x i.toNatClampNeg) :: st) M cn K) : mj_W lv k d pc ls (.int i :: .ref x :: st) M cn K := by
  intro p l e s m args below meth c D cA ad C H locs lsA hl hP hS
  obtain ⟨hx, -, hb, -, hown, hts, -, -, -, hinj, hK, -⟩ := id C
  exact va_zald hx hb hK hP x 1 (mj_w_some hsh) rfl hin hd (h p l e s m args below meth c D cA ad C H locs lsA hl hP hS)
theorem mj_r_iast {x n : Nat} {i v : Int32} (hd : decode (mj_c k) pc = .ok (.iastore, 1)) (hsh : (mj_Sh lv)[x]? = some (.inr (0, n))) (hin : vp_in i n) (h : mj_W lv k d (pc + 1) ls st (mj_u M x i.toNatClampNeg v) cn K) : mj_W lv k d pc ls (.int v :: .int i :: .ref x :: st) M cn K := by
  intro p l e s m args below meth c D cA ad C H locs lsA hl hP hS
  obtain ⟨hx, -, hb, -, hown, hts, -, -, -, hinj, hK, -⟩ := id C
  refine va_iast hx hb hK hP (mj_D_of hinj) hS x 0 (mj_w_some hsh) rfl hin hd (fun H1 locs1 hP1 hD1 hS1 => ?_)
  rw [mj_w_set i.toNatClampNeg v hsh _ (by simp only [mj_e]; rw [mj_u_same])] at hP1
  exact h p l e s m args below meth c D cA ad C H1 locs1 lsA hl hP1 hS1
def mj_nb (x : Int32) : Int32 := vp_nar .boolean x
theorem mj_r_bast {x n : Nat} {i v : Int32} (hd : decode (mj_c k) pc = .ok (.bastore, 1)) (hsh : (mj_Sh lv)[x]? = some (.inr (1, n))) (hin : vp_in i n) (h : mj_W lv k d (pc + 1) ls st (mj_u M x i.toNatClampNeg (mj_nb v)) cn K) : mj_W lv k d pc ls (.int v :: .int i :: .ref x :: st) M cn K := by
  intro p l e s m args below meth c D cA ad C H locs lsA hl hP hS
  obtain ⟨hx, -, hb, -, hown, hts, -, -, -, hinj, hK, -⟩ := id C
  refine va_zast hx hb hK hP (mj_D_of hinj) hS x 1 (mj_w_some hsh) rfl hin hd (fun H1 locs1 hP1 hD1 hS1 => ?_)
  rw [mj_w_set i.toNatClampNeg (mj_nb v) hsh _ (by simp only [mj_e]; rw [mj_u_same]; rfl)] at hP1
  exact h p l e s m args below meth c D cA ad C H1 locs1 lsA hl hP1 hS1
end MJ
end
section
-- ends, calls, throws, branches
section MJ
variable {lv k d pc cn : Nat} {ls : List (Option Value)} {st rest : List Value} {M : mj_M} {K : mj_K}
theorem mj_zret {p : Program} {l : Launch} {e : Env} {R : Room} {s : State} {m : MethodId} {args : Array Value} {below : List Frame} {meth : Method} {c : Code} {H : Heap} {locs : List Loc} {cells slots : Nat} {cc : ByteArray} {Qc : Array Value → State → Outcome → State → Prop} {free : Addr → Prop} {v v' : Int32} {ty : FieldType} (hexec : p.tables.exec = Jvm.exec) (hb : c.code = cc) (hr : meth.sig.returnType = some ty) (hn : narrow ty (.int v) = .int v')
    (hq : ∀ t : State, t.heap = H → s.WarmedH t.vm → Qc args s (.returned (some (.int v'))) t) (hf : ∀ q ∈ locs, free q.base)
    {pc : Nat} {ls : Array Slot} (hdg : decode cc pc = .ok (.ireturn, 1)) (hlocks : meth.locks = false) : W p l e R s m args below meth c H locs cells slots (MQ below Qc args s cells slots free) (F0 m pc ls [.int v]) := by
  intro T hT X
  obtain ⟨fs, hret, hrun, hended, hW, hframe⟩ := X.leave (v := some (.int v')) (fun h => by rw [hr] at h; cases h)
  have hmeth' : T.vm.method? m = some meth := X.method'
  refine ⟨T.setFrames fs, ?_, .returned (some (.int v')), hrun, hended, hq _ hT hW, locs, ⟨⟨_, rfl⟩, hW, hframe⟩, hf⟩
  jvm_step X.here [X.here.top, hexec, hb, hdg, hmeth', hr, hn]
  (try refine ⟨rfl, ?_⟩); (try refine ⟨rfl, ?_⟩)
  first | (intro acts; rw [hret _ acts rfl rfl rfl]) | rw [hret _ _ rfl rfl rfl]
  exact Steps.refl _
theorem mj_r_iret {v : Int32} (hr : mj_r k = some .int) (hmc : cn ≤ mj_mc k) (hd : decode (mj_c k) pc = .ok (.ireturn, 1)) (h : K 0 v M) : mj_W lv k d pc ls [.int v] M cn K := by
  intro p l e s m args below meth c D cA ad C H locs lsA hl hP hS
  obtain ⟨hx, -, hb, -, -, -, hret, hlk, -⟩ := id C
  refine vx_ret (W.widen (k := mj_mc k) (n := 64 * mj_mc k) hmc (by omega) ?_)
  refine mj_zret hx hb (hret.trans hr) (v' := v) rfl (fun t ht hW => ?_) (fun q hq => hS.2.2 q hq) hd hlk
  rw [hr]
  exact ⟨⟨v, M, rfl, h, by show va_P _ _ _ _; rw [ht]; exact hP⟩, hS.F ht⟩
theorem mj_r_zret {v : Int32} (hr : mj_r k = some .boolean) (hmc : cn ≤ mj_mc k) (hd : decode (mj_c k) pc = .ok (.ireturn, 1)) (h : K 0 (mj_nb v) M) : mj_W lv k d pc ls [.int v] M cn K := by
  intro p l e s m args below meth c D cA ad C H locs lsA hl hP hS
  obtain ⟨hx, -, hb, -, -, -, hret, hlk, -⟩ := id C
  refine vx_ret (W.widen (k := mj_mc k) (n := 64 * mj_mc k) hmc (by omega) ?_)
  refine mj_zret hx hb (hret.trans hr) (v' := mj_nb v) rfl (fun t ht hW => ?_) (fun q hq => hS.2.2 q hq) hd hlk
  rw [hr]
  exact ⟨⟨mj_nb v, M, rfl, h, by show va_P _ _ _ _; rw [ht]; exact hP⟩, hS.F ht⟩
theorem mj_r_vret (hr : mj_r k = none) (hmc : cn ≤ mj_mc k) (hd : decode (mj_c k) pc = .ok (.return_, 1)) (h : K 0 0 M) : mj_W lv k d pc ls [] M cn K := by
  intro p l e s m args below meth c D cA ad C H locs lsA hl hP hS
  obtain ⟨hx, -, hb, -, -, -, hret, hlk, -⟩ := id C
  refine vx_ret (W.widen (k := mj_mc k) (n := 64 * mj_mc k) hmc (by omega) ?_)
  refine W.vret hx hb (hret.trans hr) (fun t ht hW => ?_) (fun q hq => hS.2.2 q hq) hd hlk
  rw [hr]
  exact ⟨⟨M, rfl, h, by show va_P _ _ _ _; rw [ht]; exact hP⟩, hS.F ht⟩
theorem mj_good {w : Cond} (h : w ∈ mj_G) : w ∈ mj_G ∧ ((w.onTables && w.keeps) = true ∨ ∃ ty, w = .arrayClass ty) := ⟨h, good_of_word (List.mem_filter.mp h).2⟩
theorem mj_goodV {o idx j : Nat} (hM : (o, idx, j) ∈ mj_ML) (hj : j < mj_N) (hV : j ∈ mj_kV) : GoodIn mj_G (wsV (mj_R o) idx (mj_o j) (mj_y j) (mj_ws j)) := by
  intro w hw
  unfold wsV at hw
  simp only [List.cons_append, List.nil_append, List.mem_cons] at hw
  rcases hw with rfl | rfl | rfl | rfl | hw
  · exact mj_good (mj_inM hM)
  · exact mj_good (mj_inI hV)
  · exact mj_good (mj_inE hV)
  · exact mj_good (mj_inN (mj_yof hj).2.2.2.2.2.1)
  · unfold mj_ws at hw
    rcases List.mem_cons.mp hw with rfl | hw
    · exact mj_good (mj_inC hj)
    · exact mj_good hw
theorem mj_goodS {idx j o : Nat} (hM : (o, idx, j) ∈ mj_ML) (hj : j < mj_N) (hV : j ∈ mj_kS) (ho : mj_oc j = o) : GoodIn mj_G (wsS (mj_R o) idx (mj_y j) (mj_ws j)) := by
  intro w hw
  unfold wsS at hw
  simp only [List.cons_append, List.nil_append, List.mem_cons] at hw
  rcases hw with rfl | rfl | rfl | hw
  · exact mj_good (mj_inM hM)
  · exact mj_good (mj_inS hV)
  · exact mj_good (by rw [← ho]; exact mj_inN (mj_yof hj).2.2.2.2.2.1)
  · unfold mj_ws at hw
    rcases List.mem_cons.mp hw with rfl | hw
    · exact mj_good (mj_inC hj)
    · exact mj_good hw
theorem mj_blind {lv : Nat} {D : va_G} {cA : Nat → ClassId} {ad : Nat → Nat} {As : List Value} {M : mj_M} {sz : Nat} : FrameBlind (mj_Pc lv D cA ad As M sz) := by
  intro a U g mk q
  obtain ⟨q0, q1, q2, q3, q4⟩ := q
  exact ⟨q0, q1, q2, va_K.moved (u := U) (U := U.calling g mk a) (Vm.Alike.refl U.vm) q3, mj_X.warm (s := U) (U := U.calling g mk a) (State.WarmedH.refl U) q4⟩
theorem mj_kV7 {j : Nat} (h : j ∈ mj_kV) : mj_oc j < 7 := by
  have h1 : mj_kV.all (fun j => Nat.ble (mj_oc j + 1) 7) = true := by decide +kernel
  exact Nat.le_of_ble_eq_true (List.all_eq_true.mp h1 j h)
theorem mj_R_q {x : Nat} (h : x < 7) : mj_R x = (mj_q x).1 := by
  match x, h with
  | 0, _ => rfl
  | 1, _ => rfl
  | 2, _ => rfl
  | 3, _ => rfl
  | 4, _ => rfl
  | 5, _ => rfl
  | 6, _ => rfl
def mj_pu (r : Option FieldType) (v : Int32) (rest : List Value) : List Value := match r with
  | none => rest
  | some _ => .int v :: rest
theorem mj_sum4 (ad : Nat → Nat) {l : List Value} (h : l.length ≤ 4) : ((l.map (mj_tr ad)).map fun v => v.category).sum ≤ 8 := by
  have key : ∀ (l : List Value), ((l.map (mj_tr ad)).map fun v => v.category).sum ≤ 2 * l.length := by
    intro l
    induction l with
    | nil => simp
    | cons a l ih =>
      have : (mj_tr ad a).category ≤ 2 := by rcases lv_cat (mj_tr ad a) with h | h <;> omega
      simp only [List.map_cons, List.sum_cons, List.length_cons]
      omega
  have := key l
  omega
/-- what comes behind a call of j: it goes on, or what was thrown goes on to the caller -/
def mj_k (lv k d pc : Nat) (ls : List (Option Value)) (rest : List Value) (cn : Nat) (r : Option FieldType) (K : mj_K) : mj_K := fun o v M' => match o with
  | 0 => mj_W lv k d pc ls (mj_pu r v rest) M' cn K
  | e + 1 => K (e + 1) 0 M'
theorem mj_cr (j : Nat) (rest : List Value) {p : Program} {l : Launch} {e : Env} {s : State} {m : MethodId} {args : Array Value} {below : List Frame} {meth : Method} {c : Code} {D : va_G} {cA : Nat → ClassId} {ad : Nat → Nat} (C : mj_C lv k p l s m args meth c D cA ad) {H : Heap} {locs : List Loc} {lsA : Array Slot} (hl : mj_L ad lsA (mj_n k) ls) (hS : va_S (mj_A ad (mj_Sh lv).length s.heap.size) s.heap H locs) (hmc : cn + mj_mc j ≤ mj_mc k) {a : Array Value} {st0 : List Value} (hlvj : mj_lv j = lv)
    (hr : vx_Run p l e (mj_rm k d) s m args below meth c H locs cn (64 * cn) (mj_mc j) (64 * mj_mc j) (F0 m pc lsA st0) (rest.map (mj_tr ad)) (mj_Q (mj_r j) D cA ad (mj_Sh lv) (mj_k lv k d (pc + 3) ls rest (cn + mj_mc j) (mj_r j) K) (mj_A ad (mj_Sh lv).length H.size) a) (mj_XC D cA ad (mj_Sh lv) (mj_k lv k d (pc + 3) ls rest (cn + mj_mc j) (mj_r j) K) (mj_A ad (mj_Sh lv).length H.size)) (mj_A ad (mj_Sh lv).length H.size)) :
    W p l e (mj_rm k d) s m args below meth c H locs cn (64 * cn) (vx_MQ below (mj_Q (mj_r k) D cA ad (mj_Sh lv) K (mj_A ad (mj_Sh lv).length s.heap.size)) (mj_XC D cA ad (mj_Sh lv) K (mj_A ad (mj_Sh lv).length s.heap.size)) args s (mj_mc k) (64 * mj_mc k) (mj_A ad (mj_Sh lv).length s.heap.size)) (F0 m pc lsA st0) := by
  obtain ⟨hx, hlt, hb, hml, hown, hts, hret, hlk, htab, hinj, hK, hX⟩ := id C
  have hA : ∀ q, q < H.size → mj_A ad (mj_Sh lv).length H.size q → mj_A ad (mj_Sh lv).length s.heap.size q := fun q _ => mj_A_mono hS.1 q
  have hf : ∀ q, mj_A ad (mj_Sh lv).length H.size q → mj_A ad (mj_Sh lv).length s.heap.size q := mj_A_mono hS.1
  have e6 : 64 * cn + 64 * mj_mc j = 64 * (cn + mj_mc j) := by omega
  have kx : ∀ (E : String) (ce : Cell) (q9 : Addr) (u : Nat × mj_M) (t : State) (H1 : Heap) (locs1 : List Loc), t.heap = H1 → s.vm.Alike t.vm → (mj_k lv k d (pc + 3) ls rest (cn + mj_mc j) (mj_r j) K) (u.1 + 1) 0 u.2 → (E = mj_E u.1 ∧ mj_B D cA ad (mj_Sh lv) u.2 t) → H.size ≤ H1.size → (∀ q : Nat, q < H.size → ¬ mj_A ad (mj_Sh lv).length H.size q → H1[q]? = H[q]?) → va_S (mj_A ad (mj_Sh lv).length s.heap.size) s.heap H1 locs1 → H1[q9]? = some ce → ce.vm = .none → s.vm.findClass E = some ce.cls → vx_W p l e (mj_rm k d) s m args below meth c H1 locs1 (cn + mj_mc j) (64 * cn + 64 * mj_mc j) (vx_MQ below (mj_Q (mj_r k) D cA ad (mj_Sh lv) K (mj_A ad (mj_Sh lv).length s.heap.size)) (mj_XC D cA ad (mj_Sh lv) K (mj_A ad (mj_Sh lv).length s.heap.size)) args s (mj_mc k) (64 * mj_mc k) (mj_A ad (mj_Sh lv).length s.heap.size)) (F0 m pc lsA (rest.map (mj_tr ad))) q9 := by
    intro E ce q9 u t H1 locs1 ht hal hp hBu hz hk hS1 hce hcv hcl
    obtain ⟨hE, hB⟩ := hBu
    refine vx_out (fun x hx => (htab x hx).elim) hlk hce hcv hcl (fun t2 ht2 hal2 => ⟨u, hp, ⟨hE, ?_⟩, hS1.F ht2⟩) (fun z hz => hS1.2.2 z hz) hmc (by omega)
    show va_P _ _ _ _
    rw [ht2, ← ht]; exact hB
  cases hrj : mj_r j with
  | none =>
    rw [hrj] at hr kx
    refine vx_callv (a := a) hr hS hA hf hA kx (fun u t H1 locs1 ht hal hp hB hz hk hS1 => ?_)
    rw [e6]
    have hp' : mj_W lv k d (pc + 3) ls rest u (cn + mj_mc j) K := hp
    exact hp' p l e s m args below meth c D cA ad C H1 locs1 lsA hl (by rw [← ht]; exact hB) hS1
  | some r =>
    rw [hrj] at hr kx
    refine vx_calli (a := a) hr hS hA hf hA kx (fun v u t H1 locs1 ht hal hp hB hz hk hS1 => ?_)
    rw [e6]
    have hp' : mj_W lv k d (pc + 3) ls (.int v :: rest) u (cn + mj_mc j) K := hp
    exact hp' p l e s m args below meth c D cA ad C H1 locs1 lsA hl (by rw [← ht]; exact hB) hS1
theorem mj_r_callV {j dj idx x : Nat} {fs : List (Option Nat)} {as : List Value} (hd : decode (mj_c k) pc = .ok (.invokevirtual idx, 3)) (hM : (mj_oc k, idx, j) ∈ mj_ML) (hj : j < mj_N) (hV : j ∈ mj_kV) (hlvj : mj_lv j = lv) (hsh : (mj_Sh lv)[x]? = some (.inl (mj_oc j, fs))) (hn : as.length = mj_ar j) (hdj : dj + 1 ≤ d) (hmc : cn + mj_mc j ≤ mj_mc k) (hrest : rest.length ≤ 4)
    (h : mj_Cm j dj (.ref x :: as) M (mj_k lv k d (pc + 3) ls rest (cn + mj_mc j) (mj_r j) K)) : mj_W lv k d pc ls (as.reverse ++ .ref x :: rest) M cn K := by
  intro p l e s m args below meth c D cA ad C H locs lsA hl hP hS
  obtain ⟨hx, hlt, hb, hml, hown, hts, hret, hlk, htab, hinj, hK, hX⟩ := id C
  obtain ⟨y1, y2, y3, y4, y5, y6, y7, y8⟩ := mj_yof hj
  have hM1 := h l D cA ad H.size hlt (by rw [hlvj]; exact hinj)
  rw [hlvj] at hM1
  refine mj_cr j rest (a := (Value.ref (ad x) :: as.map (mj_tr ad)).toArray) C hl hS hmc hlvj ?_
  refine vx_runV (As := as.map (mj_tr ad)) ⟨hx, hb, hml, hown, hts⟩ hM1 (cwV (mj_ar j) hts (mj_goodV hM hj hV) rfl rfl rfl ⟨y2, y3, y4, y5⟩ ⟨?_, ?_⟩) ⟨mj_blind, ?_, fun U hU hW => ?_⟩ rfl (by simpa using hn) hl.1 ?_ ?_ hd ⟨hmc, ?_⟩
  · show 2 * dj + 20 + 1 ≤ 2 * d + 20; omega
  · show 8 + (mj_n j + 11) + (40 * dj + 300) ≤ 40 * d + 300; omega
  · rw [show mj_o j = (mj_q (mj_oc j)).1 from mj_R_q (mj_kV7 hV)]
    exact va_recv (cl := mj_cl) (q := mj_q (mj_oc j)) hK hP (mj_cl_q (mj_kV7 hV)) (mj_w_some hsh)
  · refine ⟨rfl, by rw [hU], by rw [hU]; exact hP, va_K.moved hW.alike hK, ?_⟩
    have h1 := mj_X.warm hW hX
    rw [hU]
    exact h1.kept hS.2.1 hS.1 (mj_A_mono hS.1) Or.inl id rfl
  · simp [F0, mj_tr]
  · show 2 * 0 + _ ≤ 8
    rw [Nat.mul_zero, Nat.zero_add]
    exact mj_sum4 ad hrest
  · show 64 * cn + 64 * mj_mc j ≤ 64 * mj_mc k; omega
theorem mj_r_callS {j dj idx : Nat} {as : List Value} (hd : decode (mj_c k) pc = .ok (.invokestatic idx, 3)) (hM : (mj_oc k, idx, j) ∈ mj_ML) (hj : j < mj_N) (hV : j ∈ mj_kS) (ho : mj_oc j = mj_oc k) (hlvj : mj_lv j = lv) (hn : as.length = mj_ar j) (hdj : dj + 1 ≤ d) (hmc : cn + mj_mc j ≤ mj_mc k) (hrest : rest.length ≤ 4)
    (h : mj_Cm j dj as M (mj_k lv k d (pc + 3) ls rest (cn + mj_mc j) (mj_r j) K)) : mj_W lv k d pc ls (as.reverse ++ rest) M cn K := by
  intro p l e s m args below meth c D cA ad C H locs lsA hl hP hS
  obtain ⟨hx, hlt, hb, hml, hown, hts, hret, hlk, htab, hinj, hK, hX⟩ := id C
  obtain ⟨y1, y2, y3, y4, y5, y6, y7, y8⟩ := mj_yof hj
  have hM1 := h l D cA ad H.size hlt (by rw [hlvj]; exact hinj)
  rw [hlvj] at hM1
  refine mj_cr j rest (a := (as.map (mj_tr ad)).toArray) C hl hS hmc hlvj ?_
  refine vx_runS (As := as.map (mj_tr ad)) ⟨hx, hb, hml, hown, hts⟩ hM1 (cwS (mj_ar j) hts (mj_goodS hM hj hV ho) rfl rfl rfl ⟨?_, y3, y4, y5⟩ ⟨?_, ?_⟩) ⟨mj_blind, fun U hU hW => ?_⟩ rfl (by simpa using hn) hl.1 ?_ ?_ hd ⟨hmc, ?_⟩
  · rw [y2]; show mj_R (mj_oc j) = mj_R (mj_oc k); rw [ho]
  · show 2 * dj + 20 + 1 ≤ 2 * d + 20; omega
  · show 8 + (mj_n j + 11) + (40 * dj + 300) ≤ 40 * d + 300; omega
  · refine ⟨rfl, by rw [hU], by rw [hU]; exact hP, va_K.moved hW.alike hK, ?_⟩
    have h1 := mj_X.warm hW hX
    rw [hU]
    exact h1.kept hS.2.1 hS.1 (mj_A_mono hS.1) Or.inl id rfl
  · simp [F0]
  · show 2 * 0 + _ ≤ 8
    rw [Nat.mul_zero, Nat.zero_add]
    exact mj_sum4 ad hrest
  · show 64 * cn + 64 * mj_mc j ≤ 64 * mj_mc k; omega
end MJ
end
section
-- a call into a part of the world: the callee sees the cells o, o + 1, .. as 0, 1, ..
def mj_sh (o : Nat) : mj_D → mj_D
  | .inl (ci, fs) => .inl (ci, fs.map (fun q => q.map (fun x => o + x)))
  | .inr a => .inr a
def mj_wok (lv lv' o : Nat) : Bool := decide (o + (mj_Sh lv').length ≤ (mj_Sh lv).length) && (List.range (mj_Sh lv').length).all (fun q => decide ((mj_Sh lv)[o + q]? = ((mj_Sh lv')[q]?).map (mj_sh o)))
def mj_v (M : mj_M) (o : Nat) : mj_M := fun q => M (o + q)
def mj_mg (M : mj_M) (o n : Nat) (M' : mj_M) : mj_M := fun q => if o ≤ q ∧ q < o + n then M' (q - o) else M q
theorem mj_v_mg (M : mj_M) (o n : Nat) (M' : mj_M) {q : Nat} (h : q < n) : mj_v (mj_mg M o n M') o q = M' q := by
  simp only [mj_v, mj_mg]
  rw [if_pos ⟨by omega, by omega⟩, show o + q - o = q by omega]
theorem mj_mg_out (M : mj_M) (o n : Nat) (M' : mj_M) {q : Nat} (h : q < o ∨ o + n ≤ q) : mj_mg M o n M' q = M q := by
  simp only [mj_mg]
  rw [if_neg (by omega)]
theorem mj_f_sh (ad : Nat → Nat) (o : Nat) (f : Nat → Int32) : ∀ (fs : List (Option Nat)) (i : Nat), mj_f (fun q => ad (o + q)) f i fs = mj_f ad f i (fs.map (fun q => q.map (fun x => o + x)))
  | [], i => rfl
  | none :: l, i => by simp only [mj_f, List.map_cons, Option.map_none]; rw [mj_f_sh ad o f l (i + 1)]
  | some q :: l, i => by simp only [mj_f, List.map_cons, Option.map_some]; rw [mj_f_sh ad o f l (i + 1)]
theorem mj_e_sh (cA : Nat → ClassId) (ad : Nat → Nat) (M : mj_M) (o q : Nat) (d : mj_D) : mj_e cA (fun q => ad (o + q)) (mj_v M o) q d = mj_e cA ad M (o + q) (mj_sh o d) := by
  cases d with
  | inl x =>
    obtain ⟨ci, fs⟩ := x
    simp only [mj_e, mj_sh, mj_v]
    rw [mj_f_sh]
  | inr x => rfl
theorem mj_wok_at {lv lv' o : Nat} (h : mj_wok lv lv' o = true) : o + (mj_Sh lv').length ≤ (mj_Sh lv).length ∧ ∀ q, q < (mj_Sh lv').length → (mj_Sh lv)[o + q]? = ((mj_Sh lv')[q]?).map (mj_sh o) := by
  simp only [mj_wok, Bool.and_eq_true, decide_eq_true_eq] at h
  refine ⟨h.1, fun q hq => ?_⟩
  have := List.all_eq_true.mp h.2 q (List.mem_range.mpr hq)
  simpa using this
theorem mj_w_win {cA : Nat → ClassId} {ad : Nat → Nat} {M : mj_M} {lv lv' o : Nat} (h : mj_wok lv lv' o = true) {q : Nat} (hq : q < (mj_Sh lv').length) : (mj_w cA (fun q => ad (o + q)) (mj_v M o) (mj_Sh lv'))[q]? = (mj_w cA ad M (mj_Sh lv))[o + q]? := by
  obtain ⟨-, h2⟩ := mj_wok_at h
  rw [mj_w_get, mj_w_get, h2 q hq]
  cases hd : (mj_Sh lv')[q]? with
  | none => rfl
  | some d => simp only [Option.map_some]; rw [mj_e_sh]
theorem mj_P_win {D : va_G} {cA : Nat → ClassId} {ad : Nat → Nat} {M : mj_M} {lv lv' o : Nat} {H : Heap} (h : mj_wok lv lv' o = true) (hP : va_P D mj_cl (mj_w cA ad M (mj_Sh lv)) H) : va_P D mj_cl (mj_w cA (fun q => ad (o + q)) (mj_v M o) (mj_Sh lv')) H := by
  intro q x hx
  have hl := (List.getElem?_eq_some_iff.mp hx).1
  rw [mj_w_len] at hl
  rw [mj_w_win h hl] at hx
  exact hP _ _ hx
theorem mj_P_back {D : va_G} {cA : Nat → ClassId} {ad : Nat → Nat} {M M' : mj_M} {lv lv' o : Nat} {H H1 : Heap} (h : mj_wok lv lv' o = true) (hinj : mj_inj ad (mj_Sh lv).length) (hP : va_P D mj_cl (mj_w cA ad M (mj_Sh lv)) H) (hP1 : va_P D mj_cl (mj_w cA (fun q => ad (o + q)) M' (mj_Sh lv')) H1) (hk : ∀ q : Nat, q < H.size → ¬ mj_A (fun q => ad (o + q)) (mj_Sh lv').length H.size q → H1[q]? = H[q]?) : va_P D mj_cl (mj_w cA ad (mj_mg M o (mj_Sh lv').length M') (mj_Sh lv)) H1 := by
  obtain ⟨h1, h2⟩ := mj_wok_at h
  intro q x hx
  have hl := (List.getElem?_eq_some_iff.mp hx).1
  rw [mj_w_len] at hl
  by_cases hw : o ≤ q ∧ q < o + (mj_Sh lv').length
  · obtain ⟨i, rfl⟩ : ∃ i, q = o + i := ⟨q - o, by omega⟩
    have hi : i < (mj_Sh lv').length := by omega
    refine hP1 i x ?_
    rw [← hx, mj_w_get, mj_w_get, h2 i hi]
    cases hd : (mj_Sh lv')[i]? with
    | none => rfl
    | some d =>
      simp only [Option.map_some]
      congr 2
      rw [← mj_e_sh]
      cases d with
      | inl z => obtain ⟨ci, fs⟩ := z; simp only [mj_e]; rw [mj_v_mg _ _ _ _ hi]
      | inr z => obtain ⟨t, n⟩ := z; simp only [mj_e]; rw [mj_v_mg _ _ _ _ hi]
  · have hx0 : (mj_w cA ad M (mj_Sh lv))[q]? = some x := by
      rw [← hx, mj_w_get, mj_w_get]
      cases hd : (mj_Sh lv)[q]? with
      | none => rfl
      | some d =>
        simp only [Option.map_some]
        congr 2
        cases d with
        | inl z => obtain ⟨ci, fs⟩ := z; simp only [mj_e]; rw [mj_mg_out _ _ _ _ (by omega)]
        | inr z => obtain ⟨t, n⟩ := z; simp only [mj_e]; rw [mj_mg_out _ _ _ _ (by omega)]
    have hat := hP q x hx0
    have hx1 : x.1 = ad q := by
      rw [mj_w_get] at hx0
      cases hd : (mj_Sh lv)[q]? with
      | none => rw [hd] at hx0; cases hx0
      | some d => rw [hd] at hx0; cases hx0; rfl
    refine hat.kept (hk x.1 hat.lt (fun hA => ?_))
    rcases hA with ⟨i, hi, e⟩ | hA
    · rw [hx1] at e
      have := hinj q (o + i) hl (by omega) e
      omega
    · have := hat.lt
      omega
theorem mj_X.re {lv : Nat} {ad ad' : Nat → Nat} {A : Nat → Prop} {U : State} {H : Heap} (h : mj_X lv ad A U H) (h9 : lv ≠ 9) : mj_X lv ad' A U H := ⟨h.1, fun z => absurd z h9⟩
section MJ
variable {lv k d pc cn : Nat} {ls : List (Option Value)} {st rest : List Value} {M : mj_M} {K : mj_K}
def mj_k2 (lv k d pc : Nat) (ls : List (Option Value)) (rest : List Value) (M : mj_M) (o n cn : Nat) (r : Option FieldType) (K : mj_K) : mj_K := fun e v M' => match e with
  | 0 => mj_W lv k d pc ls (mj_pu r v rest) (mj_mg M o n M') cn K
  | e + 1 => K (e + 1) 0 (mj_mg M o n M')
theorem mj_r_callW {j dj idx x o : Nat} {fs : List (Option Nat)} {as : List Value} (hd : decode (mj_c k) pc = .ok (.invokevirtual idx, 3)) (hM : (mj_oc k, idx, j) ∈ mj_ML) (hj : j < mj_N) (hV : j ∈ mj_kV) (hlv2 : mj_lv j = 2 → lv = 2 ∨ lv = 9) (hlv9 : mj_lv j ≠ 9) (hwin : mj_wok lv (mj_lv j) o = true) (hsh : (mj_Sh lv)[o + x]? = some (.inl (mj_oc j, fs))) (hn : as.length = mj_ar j) (hint : ∀ v ∈ as, ∃ z, v = .int z) (hdj : dj + 1 ≤ d) (hmc : cn + mj_mc j ≤ mj_mc k) (hrest : rest.length ≤ 4)
    (h : mj_Cm j dj (.ref x :: as) (mj_v M o) (mj_k2 lv k d (pc + 3) ls rest M o (mj_Sh (mj_lv j)).length (cn + mj_mc j) (mj_r j) K)) : mj_W lv k d pc ls (as.reverse ++ .ref (o + x) :: rest) M cn K := by
  intro p l e s m args below meth c D cA ad C H locs lsA hl hP hS
  obtain ⟨hx, hlt, hb, hml, hown, hts, hret, hlk, htab, hinj, hK, hX⟩ := id C
  obtain ⟨y1, y2, y3, y4, y5, y6, y7, y8⟩ := mj_yof hj
  obtain ⟨w1, w2⟩ := mj_wok_at hwin
  have hinj' : mj_inj (fun q => ad (o + q)) (mj_Sh (mj_lv j)).length := fun a b ha hb e => by
    have := hinj (o + a) (o + b) (by omega) (by omega) e
    omega
  have hM1 := h l D cA (fun q => ad (o + q)) H.size hlt hinj'
  have hA : ∀ q, q < H.size → mj_A (fun q => ad (o + q)) (mj_Sh (mj_lv j)).length H.size q → mj_A ad (mj_Sh lv).length s.heap.size q := by
    intro q _ hq
    rcases hq with ⟨i, hi, e⟩ | hq
    · exact Or.inl ⟨o + i, by omega, e⟩
    · exact Or.inr (Nat.le_trans hS.1 hq)
  have hf : ∀ q, mj_A (fun q => ad (o + q)) (mj_Sh (mj_lv j)).length H.size q → mj_A ad (mj_Sh lv).length s.heap.size q := by
    intro q hq
    rcases hq with ⟨i, hi, e⟩ | hq
    · exact Or.inl ⟨o + i, by omega, e⟩
    · exact Or.inr (Nat.le_trans hS.1 hq)
  have htr : as.map (mj_tr (fun q => ad (o + q))) = as.map (mj_tr ad) := by
    apply List.map_congr_left
    intro v hv
    obtain ⟨z, rfl⟩ := hint v hv
    rfl
  have hr : vx_Run p l e (mj_rm k d) s m args below meth c H locs cn (64 * cn) (mj_mc j) (64 * mj_mc j) (F0 m pc lsA ((as.reverse ++ Value.ref (o + x) :: rest).map (mj_tr ad))) (rest.map (mj_tr ad)) (mj_Q (mj_r j) D cA (fun q => ad (o + q)) (mj_Sh (mj_lv j)) (mj_k2 lv k d (pc + 3) ls rest M o (mj_Sh (mj_lv j)).length (cn + mj_mc j) (mj_r j) K) (mj_A (fun q => ad (o + q)) (mj_Sh (mj_lv j)).length H.size) (Value.ref (ad (o + x)) :: as.map (mj_tr ad)).toArray) (mj_XC D cA (fun q => ad (o + q)) (mj_Sh (mj_lv j)) (mj_k2 lv k d (pc + 3) ls rest M o (mj_Sh (mj_lv j)).length (cn + mj_mc j) (mj_r j) K) (mj_A (fun q => ad (o + q)) (mj_Sh (mj_lv j)).length H.size)) (mj_A (fun q => ad (o + q)) (mj_Sh (mj_lv j)).length H.size) := by
    refine vx_runV (As := as.map (mj_tr ad)) ⟨hx, hb, hml, hown, hts⟩ hM1 (cwV (mj_ar j) hts (mj_goodV hM hj hV) rfl rfl rfl ⟨y2, y3, y4, y5⟩ ⟨?_, ?_⟩) ⟨mj_blind, ?_, fun U hU hW => ?_⟩ rfl (by simpa using hn) hl.1 ?_ ?_ hd ⟨hmc, ?_⟩
    · show 2 * dj + 20 + 1 ≤ 2 * d + 20; omega
    · show 8 + (mj_n j + 11) + (40 * dj + 300) ≤ 40 * d + 300; omega
    · rw [show mj_o j = (mj_q (mj_oc j)).1 from mj_R_q (mj_kV7 hV)]
      exact va_recv (cl := mj_cl) (q := mj_q (mj_oc j)) hK hP (mj_cl_q (mj_kV7 hV)) (mj_w_some hsh)
    · refine ⟨by rw [List.map_cons, htr]; rfl, by rw [hU], by rw [hU]; exact mj_P_win hwin hP, va_K.moved hW.alike hK, ?_⟩
      by_cases h2 : mj_lv j = 2
      · have h1 := mj_X.warm hW hX
        rw [hU]
        exact h1.kept (lv' := mj_lv j) (ad' := fun q => if q = 999 then ad 999 else ad (o + q)) hS.2.1 hS.1 (B := mj_A (fun q => ad (o + q)) (mj_Sh (mj_lv j)).length H.size) hf hlv2 (fun z => absurd z hlv9) rfl |>.re hlv9
      · exact mj_X.of h2 hlv9
    · simp [F0, mj_tr]
    · show 2 * 0 + _ ≤ 8
      rw [Nat.mul_zero, Nat.zero_add]
      exact mj_sum4 ad hrest
    · show 64 * cn + 64 * mj_mc j ≤ 64 * mj_mc k; omega
  have e6 : 64 * cn + 64 * mj_mc j = 64 * (cn + mj_mc j) := by omega
  have kx : ∀ (E : String) (ce : Cell) (q9 : Addr) (u : Nat × mj_M) (t : State) (H1 : Heap) (locs1 : List Loc), t.heap = H1 → s.vm.Alike t.vm → (mj_k2 lv k d (pc + 3) ls rest M o (mj_Sh (mj_lv j)).length (cn + mj_mc j) (mj_r j) K) (u.1 + 1) 0 u.2 → (E = mj_E u.1 ∧ mj_B D cA (fun q => ad (o + q)) (mj_Sh (mj_lv j)) u.2 t) → H.size ≤ H1.size → (∀ q : Nat, q < H.size → ¬ mj_A (fun q => ad (o + q)) (mj_Sh (mj_lv j)).length H.size q → H1[q]? = H[q]?) → va_S (mj_A ad (mj_Sh lv).length s.heap.size) s.heap H1 locs1 → H1[q9]? = some ce → ce.vm = .none → s.vm.findClass E = some ce.cls → vx_W p l e (mj_rm k d) s m args below meth c H1 locs1 (cn + mj_mc j) (64 * cn + 64 * mj_mc j) (vx_MQ below (mj_Q (mj_r k) D cA ad (mj_Sh lv) K (mj_A ad (mj_Sh lv).length s.heap.size)) (mj_XC D cA ad (mj_Sh lv) K (mj_A ad (mj_Sh lv).length s.heap.size)) args s (mj_mc k) (64 * mj_mc k) (mj_A ad (mj_Sh lv).length s.heap.size)) (F0 m pc lsA (rest.map (mj_tr ad))) q9 := by
    intro E ce q9 u t H1 locs1 ht hal hp hBu hz hk hS1 hce hcv hcl
    obtain ⟨hE, hB⟩ := hBu
    refine vx_out (fun x hx => (htab x hx).elim) hlk hce hcv hcl (fun t2 ht2 hal2 => ⟨(u.1, mj_mg M o (mj_Sh (mj_lv j)).length u.2), hp, ⟨hE, ?_⟩, hS1.F ht2⟩) (fun z hz => hS1.2.2 z hz) hmc (by omega)
    show va_P _ _ _ _
    rw [ht2]
    exact mj_P_back hwin hinj hP (by rw [← ht]; exact hB) hk
  cases hrj : mj_r j with
  | none =>
    rw [hrj] at hr kx
    refine vx_callv (a := (Value.ref (ad (o + x)) :: as.map (mj_tr ad)).toArray) hr hS hA hf hA kx (fun u t H1 locs1 ht hal hp hB hz hk hS1 => ?_)
    rw [e6]
    have hp' : mj_W lv k d (pc + 3) ls rest (mj_mg M o (mj_Sh (mj_lv j)).length u) (cn + mj_mc j) K := hp
    exact hp' p l e s m args below meth c D cA ad C H1 locs1 lsA hl (mj_P_back hwin hinj hP (by rw [← ht]; exact hB) hk) hS1
  | some r =>
    rw [hrj] at hr kx
    refine vx_calli (a := (Value.ref (ad (o + x)) :: as.map (mj_tr ad)).toArray) hr hS hA hf hA kx (fun v u t H1 locs1 ht hal hp hB hz hk hS1 => ?_)
    rw [e6]
    have hp' : mj_W lv k d (pc + 3) ls (.int v :: rest) (mj_mg M o (mj_Sh (mj_lv j)).length u) (cn + mj_mc j) K := hp
    exact hp' p l e s m args below meth c D cA ad C H1 locs1 lsA hl (mj_P_back hwin hinj hP (by rw [← ht]; exact hB) hk) hS1
def mj_sv_ (o : Nat) : Value → Value
  | .ref x => .ref (o + x)
  | v => v
theorem mj_r_callSW {j dj idx o : Nat} {as : List Value} (hd : decode (mj_c k) pc = .ok (.invokestatic idx, 3)) (hM : (mj_oc k, idx, j) ∈ mj_ML) (hj : j < mj_N) (hV : j ∈ mj_kS) (ho : mj_oc j = mj_oc k) (hlv2 : mj_lv j = 2 → lv = 2 ∨ lv = 9) (hlv9 : mj_lv j ≠ 9) (hwin : mj_wok lv (mj_lv j) o = true) (hn : as.length = mj_ar j) (hdj : dj + 1 ≤ d) (hmc : cn + mj_mc j ≤ mj_mc k) (hrest : rest.length ≤ 4)
    (h : mj_Cm j dj as (mj_v M o) (mj_k2 lv k d (pc + 3) ls rest M o (mj_Sh (mj_lv j)).length (cn + mj_mc j) (mj_r j) K)) : mj_W lv k d pc ls ((as.map (mj_sv_ o)).reverse ++ rest) M cn K := by
  intro p l e s m args below meth c D cA ad C H locs lsA hl hP hS
  obtain ⟨hx, hlt, hb, hml, hown, hts, hret, hlk, htab, hinj, hK, hX⟩ := id C
  obtain ⟨y1, y2, y3, y4, y5, y6, y7, y8⟩ := mj_yof hj
  obtain ⟨w1, w2⟩ := mj_wok_at hwin
  have hinj' : mj_inj (fun q => ad (o + q)) (mj_Sh (mj_lv j)).length := fun a b ha hb e => by
    have := hinj (o + a) (o + b) (by omega) (by omega) e
    omega
  have hM1 := h l D cA (fun q => ad (o + q)) H.size hlt hinj'
  have hA : ∀ q, q < H.size → mj_A (fun q => ad (o + q)) (mj_Sh (mj_lv j)).length H.size q → mj_A ad (mj_Sh lv).length s.heap.size q := by
    intro q _ hq
    rcases hq with ⟨i, hi, e⟩ | hq
    · exact Or.inl ⟨o + i, by omega, e⟩
    · exact Or.inr (Nat.le_trans hS.1 hq)
  have hf : ∀ q, mj_A (fun q => ad (o + q)) (mj_Sh (mj_lv j)).length H.size q → mj_A ad (mj_Sh lv).length s.heap.size q := by
    intro q hq
    rcases hq with ⟨i, hi, e⟩ | hq
    · exact Or.inl ⟨o + i, by omega, e⟩
    · exact Or.inr (Nat.le_trans hS.1 hq)
  have htr : (as.map (mj_sv_ o)).map (mj_tr ad) = as.map (mj_tr (fun q => ad (o + q))) := by
    rw [List.map_map]
    apply List.map_congr_left
    intro v _
    cases v <;> rfl
  have hr : vx_Run p l e (mj_rm k d) s m args below meth c H locs cn (64 * cn) (mj_mc j) (64 * mj_mc j) (F0 m pc lsA ((((as.map (mj_sv_ o)).reverse ++ rest)).map (mj_tr ad))) (rest.map (mj_tr ad)) (mj_Q (mj_r j) D cA (fun q => ad (o + q)) (mj_Sh (mj_lv j)) (mj_k2 lv k d (pc + 3) ls rest M o (mj_Sh (mj_lv j)).length (cn + mj_mc j) (mj_r j) K) (mj_A (fun q => ad (o + q)) (mj_Sh (mj_lv j)).length H.size) (as.map (mj_tr (fun q => ad (o + q)))).toArray) (mj_XC D cA (fun q => ad (o + q)) (mj_Sh (mj_lv j)) (mj_k2 lv k d (pc + 3) ls rest M o (mj_Sh (mj_lv j)).length (cn + mj_mc j) (mj_r j) K) (mj_A (fun q => ad (o + q)) (mj_Sh (mj_lv j)).length H.size)) (mj_A (fun q => ad (o + q)) (mj_Sh (mj_lv j)).length H.size) := by
    refine vx_runS (As := as.map (mj_tr (fun q => ad (o + q)))) ⟨hx, hb, hml, hown, hts⟩ hM1 (cwS (mj_ar j) hts (mj_goodS hM hj hV ho) rfl rfl rfl ⟨?_, y3, y4, y5⟩ ⟨?_, ?_⟩) ⟨mj_blind, fun U hU hW => ?_⟩ rfl (by simpa using hn) hl.1 ?_ ?_ hd ⟨hmc, ?_⟩
    · rw [y2]; show mj_R (mj_oc j) = mj_R (mj_oc k); rw [ho]
    · show 2 * dj + 20 + 1 ≤ 2 * d + 20; omega
    · show 8 + (mj_n j + 11) + (40 * dj + 300) ≤ 40 * d + 300; omega
    · refine ⟨rfl, by rw [hU], by rw [hU]; exact mj_P_win hwin hP, va_K.moved hW.alike hK, ?_⟩
      by_cases h2 : mj_lv j = 2
      · have h1 := mj_X.warm hW hX
        rw [hU]
        exact h1.kept (lv' := mj_lv j) (ad' := fun q => if q = 999 then ad 999 else ad (o + q)) hS.2.1 hS.1 (B := mj_A (fun q => ad (o + q)) (mj_Sh (mj_lv j)).length H.size) hf hlv2 (fun z => absurd z hlv9) rfl |>.re hlv9
      · exact mj_X.of h2 hlv9
    · simp only [F0, List.map_append, List.map_reverse, htr]
    · show 2 * 0 + _ ≤ 8
      rw [Nat.mul_zero, Nat.zero_add]
      exact mj_sum4 ad hrest
    · show 64 * cn + 64 * mj_mc j ≤ 64 * mj_mc k; omega
  have e6 : 64 * cn + 64 * mj_mc j = 64 * (cn + mj_mc j) := by omega
  have kx : ∀ (E : String) (ce : Cell) (q9 : Addr) (u : Nat × mj_M) (t : State) (H1 : Heap) (locs1 : List Loc), t.heap = H1 → s.vm.Alike t.vm → (mj_k2 lv k d (pc + 3) ls rest M o (mj_Sh (mj_lv j)).length (cn + mj_mc j) (mj_r j) K) (u.1 + 1) 0 u.2 → (E = mj_E u.1 ∧ mj_B D cA (fun q => ad (o + q)) (mj_Sh (mj_lv j)) u.2 t) → H.size ≤ H1.size → (∀ q : Nat, q < H.size → ¬ mj_A (fun q => ad (o + q)) (mj_Sh (mj_lv j)).length H.size q → H1[q]? = H[q]?) → va_S (mj_A ad (mj_Sh lv).length s.heap.size) s.heap H1 locs1 → H1[q9]? = some ce → ce.vm = .none → s.vm.findClass E = some ce.cls → vx_W p l e (mj_rm k d) s m args below meth c H1 locs1 (cn + mj_mc j) (64 * cn + 64 * mj_mc j) (vx_MQ below (mj_Q (mj_r k) D cA ad (mj_Sh lv) K (mj_A ad (mj_Sh lv).length s.heap.size)) (mj_XC D cA ad (mj_Sh lv) K (mj_A ad (mj_Sh lv).length s.heap.size)) args s (mj_mc k) (64 * mj_mc k) (mj_A ad (mj_Sh lv).length s.heap.size)) (F0 m pc lsA (rest.map (mj_tr ad))) q9 := by
    intro E ce q9 u t H1 locs1 ht hal hp hBu hz hk hS1 hce hcv hcl
    obtain ⟨hE, hB⟩ := hBu
    refine vx_out (fun x hx => (htab x hx).elim) hlk hce hcv hcl (fun t2 ht2 hal2 => ⟨(u.1, mj_mg M o (mj_Sh (mj_lv j)).length u.2), hp, ⟨hE, ?_⟩, hS1.F ht2⟩) (fun z hz => hS1.2.2 z hz) hmc (by omega)
    show va_P _ _ _ _
    rw [ht2]
    exact mj_P_back hwin hinj hP (by rw [← ht]; exact hB) hk
  cases hrj : mj_r j with
  | none =>
    rw [hrj] at hr kx
    refine vx_callv (a := (as.map (mj_tr (fun q => ad (o + q)))).toArray) hr hS hA hf hA kx (fun u t H1 locs1 ht hal hp hB hz hk hS1 => ?_)
    rw [e6]
    have hp' : mj_W lv k d (pc + 3) ls rest (mj_mg M o (mj_Sh (mj_lv j)).length u) (cn + mj_mc j) K := hp
    exact hp' p l e s m args below meth c D cA ad C H1 locs1 lsA hl (mj_P_back hwin hinj hP (by rw [← ht]; exact hB) hk) hS1
  | some r =>
    rw [hrj] at hr kx
    refine vx_calli (a := (as.map (mj_tr (fun q => ad (o + q)))).toArray) hr hS hA hf hA kx (fun v u t H1 locs1 ht hal hp hB hz hk hS1 => ?_)
    rw [e6]
    have hp' : mj_W lv k d (pc + 3) ls (.int v :: rest) (mj_mg M o (mj_Sh (mj_lv j)).length u) (cn + mj_mc j) K := hp
    exact hp' p l e s m args below meth c D cA ad C H1 locs1 lsA hl (mj_P_back hwin hinj hP (by rw [← ht]; exact hB) hk) hS1
end MJ
end
section
-- branches, switches, Math, a constant, throws
section MJ
variable {lv k d pc cn : Nat} {ls : List (Option Value)} {st rest : List Value} {M : mj_M} {K : mj_K}
theorem mj_r_if_eq {off : Int} {tgt : Nat} {x : Int32} (hd : decode (mj_c k) pc = .ok (.ifCond .eq off, 3)) (ht : (pc : Int) + off = (tgt : Int)) (kt : x = 0 → mj_W lv k d tgt ls st M cn K) (kf : ¬ x = 0 → mj_W lv k d (pc + 3) ls st M cn K) : mj_W lv k d pc ls (.int x :: st) M cn K := by
  intro p l e s m args below meth c D cA ad C H locs lsA hl hP hS
  obtain ⟨hx, -, hb, -⟩ := id C
  exact lv_if_eq hx hb hd ht (fun q => kt q p l e s m args below meth c D cA ad C H locs lsA hl hP hS) (fun q => kf q p l e s m args below meth c D cA ad C H locs lsA hl hP hS)
theorem mj_r_icmp_eq {off : Int} {tgt : Nat} {x y : Int32} (hd : decode (mj_c k) pc = .ok (.if_icmp .eq off, 3)) (ht : (pc : Int) + off = (tgt : Int)) (kt : x = y → mj_W lv k d tgt ls st M cn K) (kf : ¬ x = y → mj_W lv k d (pc + 3) ls st M cn K) : mj_W lv k d pc ls (.int y :: .int x :: st) M cn K := by
  intro p l e s m args below meth c D cA ad C H locs lsA hl hP hS
  obtain ⟨hx, -, hb, -⟩ := id C
  exact lv_icmp_eq hx hb hd ht (fun q => kt q p l e s m args below meth c D cA ad C H locs lsA hl hP hS) (fun q => kf q p l e s m args below meth c D cA ad C H locs lsA hl hP hS)
theorem mj_r_if_ne {off : Int} {tgt : Nat} {x : Int32} (hd : decode (mj_c k) pc = .ok (.ifCond .ne off, 3)) (ht : (pc : Int) + off = (tgt : Int)) (kt : ¬ x = 0 → mj_W lv k d tgt ls st M cn K) (kf : x = 0 → mj_W lv k d (pc + 3) ls st M cn K) : mj_W lv k d pc ls (.int x :: st) M cn K := by
  intro p l e s m args below meth c D cA ad C H locs lsA hl hP hS
  obtain ⟨hx, -, hb, -⟩ := id C
  exact lv_if_ne hx hb hd ht (fun q => kt q p l e s m args below meth c D cA ad C H locs lsA hl hP hS) (fun q => kf q p l e s m args below meth c D cA ad C H locs lsA hl hP hS)
theorem mj_r_icmp_ne {off : Int} {tgt : Nat} {x y : Int32} (hd : decode (mj_c k) pc = .ok (.if_icmp .ne off, 3)) (ht : (pc : Int) + off = (tgt : Int)) (kt : ¬ x = y → mj_W lv k d tgt ls st M cn K) (kf : x = y → mj_W lv k d (pc + 3) ls st M cn K) : mj_W lv k d pc ls (.int y :: .int x :: st) M cn K := by
  intro p l e s m args below meth c D cA ad C H locs lsA hl hP hS
  obtain ⟨hx, -, hb, -⟩ := id C
  exact lv_icmp_ne hx hb hd ht (fun q => kt q p l e s m args below meth c D cA ad C H locs lsA hl hP hS) (fun q => kf q p l e s m args below meth c D cA ad C H locs lsA hl hP hS)
theorem mj_r_if_lt {off : Int} {tgt : Nat} {x : Int32} (hd : decode (mj_c k) pc = .ok (.ifCond .lt off, 3)) (ht : (pc : Int) + off = (tgt : Int)) (kt : x < 0 → mj_W lv k d tgt ls st M cn K) (kf : ¬ x < 0 → mj_W lv k d (pc + 3) ls st M cn K) : mj_W lv k d pc ls (.int x :: st) M cn K := by
  intro p l e s m args below meth c D cA ad C H locs lsA hl hP hS
  obtain ⟨hx, -, hb, -⟩ := id C
  exact lv_if_lt hx hb hd ht (fun q => kt q p l e s m args below meth c D cA ad C H locs lsA hl hP hS) (fun q => kf q p l e s m args below meth c D cA ad C H locs lsA hl hP hS)
theorem mj_r_icmp_lt {off : Int} {tgt : Nat} {x y : Int32} (hd : decode (mj_c k) pc = .ok (.if_icmp .lt off, 3)) (ht : (pc : Int) + off = (tgt : Int)) (kt : x < y → mj_W lv k d tgt ls st M cn K) (kf : ¬ x < y → mj_W lv k d (pc + 3) ls st M cn K) : mj_W lv k d pc ls (.int y :: .int x :: st) M cn K := by
  intro p l e s m args below meth c D cA ad C H locs lsA hl hP hS
  obtain ⟨hx, -, hb, -⟩ := id C
  exact lv_icmp_lt hx hb hd ht (fun q => kt q p l e s m args below meth c D cA ad C H locs lsA hl hP hS) (fun q => kf q p l e s m args below meth c D cA ad C H locs lsA hl hP hS)
theorem mj_r_if_ge {off : Int} {tgt : Nat} {x : Int32} (hd : decode (mj_c k) pc = .ok (.ifCond .ge off, 3)) (ht : (pc : Int) + off = (tgt : Int)) (kt : 0 ≤ x → mj_W lv k d tgt ls st M cn K) (kf : ¬ 0 ≤ x → mj_W lv k d (pc + 3) ls st M cn K) : mj_W lv k d pc ls (.int x :: st) M cn K := by
  intro p l e s m args below meth c D cA ad C H locs lsA hl hP hS
  obtain ⟨hx, -, hb, -⟩ := id C
  exact lv_if_ge hx hb hd ht (fun q => kt q p l e s m args below meth c D cA ad C H locs lsA hl hP hS) (fun q => kf q p l e s m args below meth c D cA ad C H locs lsA hl hP hS)
theorem mj_r_icmp_ge {off : Int} {tgt : Nat} {x y : Int32} (hd : decode (mj_c k) pc = .ok (.if_icmp .ge off, 3)) (ht : (pc : Int) + off = (tgt : Int)) (kt : y ≤ x → mj_W lv k d tgt ls st M cn K) (kf : ¬ y ≤ x → mj_W lv k d (pc + 3) ls st M cn K) : mj_W lv k d pc ls (.int y :: .int x :: st) M cn K := by
  intro p l e s m args below meth c D cA ad C H locs lsA hl hP hS
  obtain ⟨hx, -, hb, -⟩ := id C
  exact lv_icmp_ge hx hb hd ht (fun q => kt q p l e s m args below meth c D cA ad C H locs lsA hl hP hS) (fun q => kf q p l e s m args below meth c D cA ad C H locs lsA hl hP hS)
theorem mj_r_if_gt {off : Int} {tgt : Nat} {x : Int32} (hd : decode (mj_c k) pc = .ok (.ifCond .gt off, 3)) (ht : (pc : Int) + off = (tgt : Int)) (kt : 0 < x → mj_W lv k d tgt ls st M cn K) (kf : ¬ 0 < x → mj_W lv k d (pc + 3) ls st M cn K) : mj_W lv k d pc ls (.int x :: st) M cn K := by
  intro p l e s m args below meth c D cA ad C H locs lsA hl hP hS
  obtain ⟨hx, -, hb, -⟩ := id C
  exact lv_if_gt hx hb hd ht (fun q => kt q p l e s m args below meth c D cA ad C H locs lsA hl hP hS) (fun q => kf q p l e s m args below meth c D cA ad C H locs lsA hl hP hS)
theorem mj_r_icmp_gt {off : Int} {tgt : Nat} {x y : Int32} (hd : decode (mj_c k) pc = .ok (.if_icmp .gt off, 3)) (ht : (pc : Int) + off = (tgt : Int)) (kt : y < x → mj_W lv k d tgt ls st M cn K) (kf : ¬ y < x → mj_W lv k d (pc + 3) ls st M cn K) : mj_W lv k d pc ls (.int y :: .int x :: st) M cn K := by
  intro p l e s m args below meth c D cA ad C H locs lsA hl hP hS
  obtain ⟨hx, -, hb, -⟩ := id C
  exact lv_icmp_gt hx hb hd ht (fun q => kt q p l e s m args below meth c D cA ad C H locs lsA hl hP hS) (fun q => kf q p l e s m args below meth c D cA ad C H locs lsA hl hP hS)
theorem mj_r_if_le {off : Int} {tgt : Nat} {x : Int32} (hd : decode (mj_c k) pc = .ok (.ifCond .le off, 3)) (ht : (pc : Int) + off = (tgt : Int)) (kt : x ≤ 0 → mj_W lv k d tgt ls st M cn K) (kf : ¬ x ≤ 0 → mj_W lv k d (pc + 3) ls st M cn K) : mj_W lv k d pc ls (.int x :: st) M cn K := by
  intro p l e s m args below meth c D cA ad C H locs lsA hl hP hS
  obtain ⟨hx, -, hb, -⟩ := id C
  exact lv_if_le hx hb hd ht (fun q => kt q p l e s m args below meth c D cA ad C H locs lsA hl hP hS) (fun q => kf q p l e s m args below meth c D cA ad C H locs lsA hl hP hS)
theorem mj_r_icmp_le {off : Int} {tgt : Nat} {x y : Int32} (hd : decode (mj_c k) pc = .ok (.if_icmp .le off, 3)) (ht : (pc : Int) + off = (tgt : Int)) (kt : x ≤ y → mj_W lv k d tgt ls st M cn K) (kf : ¬ x ≤ y → mj_W lv k d (pc + 3) ls st M cn K) : mj_W lv k d pc ls (.int y :: .int x :: st) M cn K := by
  intro p l e s m args below meth c D cA ad C H locs lsA hl hP hS
  obtain ⟨hx, -, hb, -⟩ := id C
  exact lv_icmp_le hx hb hd ht (fun q => kt q p l e s m args below meth c D cA ad C H locs lsA hl hP hS) (fun q => kf q p l e s m args below meth c D cA ad C H locs lsA hl hP hS)
theorem mj_r_tabOut {dflt lo hi : Int} {offs : Array Int} {len tgt : Nat} {x : Int32} (hd : decode (mj_c k) pc = .ok (.tableswitch dflt lo hi offs, len)) (hq : x.toInt < lo ∨ hi < x.toInt) (ht : (pc : Int) + dflt = (tgt : Int)) (h : mj_W lv k d tgt ls st M cn K) : mj_W lv k d pc ls (.int x :: st) M cn K := by
  intro p l e s m args below meth c D cA ad C H locs lsA hl hP hS
  obtain ⟨hx, -, hb, -⟩ := id C
  exact lv_tableOut hx hb hd hq ht (h p l e s m args below meth c D cA ad C H locs lsA hl hP hS)
theorem mj_r_tabIn {dflt lo hi off : Int} {offs : Array Int} {len tgt : Nat} {x : Int32} (hd : decode (mj_c k) pc = .ok (.tableswitch dflt lo hi offs, len)) (h1 : ¬ x.toInt < lo) (h2 : ¬ hi < x.toInt) (ho : offs[(x.toInt - lo).toNat]? = some off) (ht : (pc : Int) + off = (tgt : Int)) (h : mj_W lv k d tgt ls st M cn K) : mj_W lv k d pc ls (.int x :: st) M cn K := by
  intro p l e s m args below meth c D cA ad C H locs lsA hl hP hS
  obtain ⟨hx, -, hb, -⟩ := id C
  exact lv_tableIn hx hb hd h1 h2 ho ht (h p l e s m args below meth c D cA ad C H locs lsA hl hP hS)
-- Math.min, Math.max: class, pool entry
def mj_MN : List (Nat × Nat) := [(2, 39), (3, 130), (5, 22)]
def mj_MX : List (Nat × Nat) := [(2, 45)]
theorem mj_inMN {e : Nat × Nat} (h : e ∈ mj_MN) : Cond.methodLink (mj_R e.1) e.2 Lib.Math.min.name ∈ mj_G := by
  refine mj_inG (mj_memp [674, 601, 426] (ws := mj_MN.map (fun e => Cond.methodLink (mj_R e.1) e.2 Lib.Math.min.name)) (by decide +kernel) (List.mem_map.mpr ⟨e, h, rfl⟩)) rfl
theorem mj_inMX {e : Nat × Nat} (h : e ∈ mj_MX) : Cond.methodLink (mj_R e.1) e.2 Lib.Math.max.name ∈ mj_G := by
  refine mj_inG (mj_memp [675] (ws := mj_MX.map (fun e => Cond.methodLink (mj_R e.1) e.2 Lib.Math.max.name)) (by decide +kernel) (List.mem_map.mpr ⟨e, h, rfl⟩)) rfl
theorem mj_inMs : Cond.static Lib.Math.min.name ∈ mj_G := mj_inG (List.mem_of_getElem? (i := 427) (by decide +kernel)) rfl
theorem mj_inMs2 : Cond.static Lib.Math.max.name ∈ mj_G := mj_inG (List.mem_of_getElem? (i := 676) (by decide +kernel)) rfl
theorem mj_inMi : Cond.initialized "java/lang/Math" ∈ mj_G := mj_inG (List.mem_of_getElem? (i := 39) (by decide +kernel)) rfl
theorem mj_inMc : Cond.code Lib.Math.min.name Lib.Math.min.code 2 (some .int) ∈ mj_G := mj_inG (List.mem_of_getElem? (i := 428) (by decide +kernel)) rfl
theorem mj_inMc2 : Cond.code Lib.Math.max.name Lib.Math.max.code 2 (some .int) ∈ mj_G := mj_inG (List.mem_of_getElem? (i := 677) (by decide +kernel)) rfl
theorem mj_r_min {idx : Nat} {x y : Int32} (hmm : (mj_oc k, idx) ∈ mj_MN) (hmc : cn ≤ mj_mc k) (hst : st.length ≤ 4) (hd : decode (mj_c k) pc = .ok (.invokestatic idx, 3)) (h : mj_W lv k d (pc + 3) ls (.int (if y < x then y else x) :: st) M cn K) : mj_W lv k d pc ls (.int y :: .int x :: st) M cn K := by
  intro p l e s m args below meth c D cA ad C H locs lsA hl hP hS
  obtain ⟨hx, -, hb, hml, hown, hts, -⟩ := id C
  refine va_mmin hx hb (hml.trans hl.1.symm) hown (hts _ (mj_inMN hmm)) (hts _ mj_inMs) (hts _ mj_inMi) (hts _ mj_inMc) ?_ ?_ hmc ?_ hd (h p l e s m args below meth c D cA ad C H locs lsA hl hP hS)
  · show 1 ≤ 2 * d + 20; omega
  · have := mj_sum4 ad hst
    show _ + 13 ≤ 40 * d + 300; omega
  · show 64 * cn ≤ 64 * mj_mc k; omega
theorem mj_r_max {idx : Nat} {x y : Int32} (hmm : (mj_oc k, idx) ∈ mj_MX) (hmc : cn ≤ mj_mc k) (hst : st.length ≤ 4) (hd : decode (mj_c k) pc = .ok (.invokestatic idx, 3)) (h : mj_W lv k d (pc + 3) ls (.int (if x < y then y else x) :: st) M cn K) : mj_W lv k d pc ls (.int y :: .int x :: st) M cn K := by
  intro p l e s m args below meth c D cA ad C H locs lsA hl hP hS
  obtain ⟨hx, -, hb, hml, hown, hts, -⟩ := id C
  refine va_mmax hx hb (hml.trans hl.1.symm) hown (hts _ (mj_inMX hmm)) (hts _ mj_inMs2) (hts _ mj_inMi) (hts _ mj_inMc2) ?_ ?_ hmc ?_ hd (h p l e s m args below meth c D cA ad C H locs lsA hl hP hS)
  · show 1 ≤ 2 * d + 20; omega
  · have := mj_sum4 ad hst
    show _ + 13 ≤ 40 * d + 300; omega
  · show 64 * cn ≤ 64 * mj_mc k; omega
theorem mj_inK : Cond.constant "CrushLoadLaw" 132 1000000000 ∈ mj_G := mj_inG (List.mem_of_getElem? (i := 472) (by decide +kernel)) rfl
theorem mj_r_ldc (ho : mj_oc k = 7) (hd : decode (mj_c k) pc = .ok (.ldc 132, 2)) (h : mj_W lv k d (pc + 2) ls (.int 1000000000 :: st) M cn K) : mj_W lv k d pc ls st M cn K := by
  intro p l e s m args below meth c D cA ad C H locs lsA hl hP hS
  obtain ⟨hx, -, hb, hml, hown, hts, -⟩ := id C
  have hown' : s.vm.findClass "CrushLoadLaw" = some m.cls := by rw [← hown]; show _ = s.vm.findClass (mj_R (mj_oc k)); rw [ho]; rfl
  exact lv_ldc hx hb hown' (hts _ mj_inK) hd (h p l e s m args below meth c D cA ad C H locs lsA hl hP hS)
-- throws
def mj_nms : List String := ["java/lang/RuntimeException", "java/lang/Exception"]
def mj_okX (ik ic e : Nat) : Bool := decide (Bundle.fit (mj_E e) = true) && decide (Cond.classLink RX6 ik (mj_E e) ∈ lw_tbl) && decide (Cond.initialized (mj_E e) ∈ lw_tbl) && (vx_atS RX6 ic (mj_E e) mj_nms).all (fun w => (goodWord w && decide (w ∈ lw_tbl)) || decide (w = .castable (mj_E e) (mj_E e)) || mj_dc.any (fun y => decide (w = .declares y)))
set_option maxRecDepth 100000 in
theorem mj_okX1 : mj_okX 209 213 1 = true := by decide +kernel
set_option maxRecDepth 100000 in
theorem mj_okX2 : mj_okX 218 222 2 = true := by decide +kernel
set_option maxRecDepth 100000 in
theorem mj_okX0 : mj_okX 226 230 0 = true := by decide +kernel
set_option maxRecDepth 100000 in
theorem mj_nmsok : ∀ n ∈ mj_nms, Bundle.fit n = true := by decide +kernel
theorem mj_r_throw {ik is ic e : Nat} {tx : String} (he : e < 3) (hlv : lv = 2) (ho : mj_oc k = 6) (hok : mj_okX ik ic e = true) (htx : (is, tx) ∈ mj_tx) (hmc : cn + 1 ≤ mj_mc k) (hst : st.length ≤ 4) (d0 : decode (mj_c k) pc = .ok (.new ik, 3)) (d3 : decode (mj_c k) (pc + 3) = .ok (.dup, 1)) (d4 : decode (mj_c k) (pc + 4) = .ok (.ldc is, 2)) (d6 : decode (mj_c k) (pc + 6) = .ok (.invokespecial ic, 3)) (d9 : decode (mj_c k) (pc + 9) = .ok (.athrow, 1)) (h : K (e + 1) 0 M) : mj_W lv k d pc ls st M cn K := by
  intro p l e9 s m args below meth c D cA ad C H locs lsA hl hP hS
  obtain ⟨hx, hlt, hb, hml, hown, hts, hret, hlk, htab, hinj, hK, hX⟩ := id C
  obtain ⟨hU, hN, hstr, hcast, hdcl⟩ := hX.1 (Or.inl hlv)
  obtain ⟨sa, hsa⟩ := hstr _ htx
  have hown' : s.vm.findClass RX6 = some m.cls := by rw [← hown]; show _ = s.vm.findClass (mj_R (mj_oc k)); rw [ho]; rfl
  simp only [mj_okX, Bool.and_eq_true, decide_eq_true_eq] at hok
  obtain ⟨⟨⟨o1, o2⟩, o3⟩, o4⟩ := hok
  have o4' : ∀ w ∈ vx_atS RX6 ic (mj_E e) mj_nms, (goodWord w = true ∧ w ∈ lw_tbl) ∨ w = .castable (mj_E e) (mj_E e) ∨ ∃ y ∈ mj_dc, w = .declares y := by
    intro w hw
    have h1 := List.all_eq_true.mp o4 w hw
    simp only [Bool.or_eq_true, Bool.and_eq_true, decide_eq_true_eq, List.any_eq_true] at h1
    rcases h1 with (h1 | h1) | h1
    · exact Or.inl h1
    · exact Or.inr (Or.inl h1)
    · exact Or.inr (Or.inr h1)
  refine vx_throwS (names := mj_nms) (cls := mj_E e) (text := tx) (sa := sa) (A := mj_A ad (mj_Sh lv).length s.heap.size) hx hb hlt hown' o1 mj_nmsok (hts _ (mj_inG o2 rfl)) (hts _ (mj_inG o3 rfl)) hsa ?_ ?_ hU hN hS (hl.1.trans hml.symm) d0 d3 d4 d6 d9 (fun x hx => (htab x hx).elim) ?_ ?_ ?_ ?_ hlk ?_ (fun z hz => hS.2.2 z hz) hmc ?_
  · intro w hw
    rcases o4' w hw with ⟨g, hm⟩ | rfl | ⟨y, hy, rfl⟩
    · exact hts _ (mj_inG hm g)
    · exact va_tabs rfl rfl (hcast e he)
    · exact va_tabs rfl rfl (hdcl y hy)
  · intro w hw
    rcases List.mem_cons.mp hw with rfl | hw
    · rfl
    · rcases List.mem_cons.mp hw with rfl | hw
      · rfl
      · rcases o4' w hw with ⟨g, hm⟩ | rfl | ⟨y, hy, rfl⟩
        · unfold vx_ot; rw [g, Bool.or_true]
        · rfl
        · rfl
  · show 2 + 3 < 2 * d + 20; omega
  · have := mj_sum4 ad hst
    show _ + (13 * (2 + 1) + 43) ≤ 40 * d + 300; omega
  · exact hmc
  · show 64 * cn + 6 ≤ 64 * mj_mc k; omega
  · intro t hal hz hk
    refine ⟨(e, M), h, ⟨rfl, ?_⟩, ?_⟩
    · exact hP.kept (fun q x hq => hk _ (hP q x hq).lt)
    · refine ⟨Nat.le_trans hS.1 hz, fun q hq hA => ?_⟩
      rw [hk q (Nat.lt_of_lt_of_le hq hS.1)]
      exact hS.2.1 q hq hA
  · show 64 * cn + 6 ≤ 64 * mj_mc k; omega
end MJ
end
section
-- a straight stretch of code, run at once
def mj_ic : Int → Int32
  | .negSucc 0 => -1
  | n => Int32.ofInt n
theorem mj_ic_eq (n : Int) : mj_ic n = Int32.ofInt n := by
  unfold mj_ic
  split
  · decide
  · rfl
def mj_s (lv : Nat) (i : Instr) (a : List Nat) (ls : List (Option Value)) (st : List Value) (M : mj_M) (Φ : List (Option Value) → List Value → mj_M → Prop) : Prop :=
  match i with
  | .iconst n => Φ ls (.int (mj_ic n) :: st) M
  | .bipush n => Φ ls (.int (Int8.ofInt n).toInt32 :: st) M
  | .sipush n => Φ ls (.int (Int16.ofInt n).toInt32 :: st) M
  | .ldc _ => Φ ls (.int 1000000000 :: st) M
  | .iload_n j => match ls[(j : Nat)]? with
    | some (some (.int x)) => Φ ls (.int x :: st) M
    | _ => False
  | .iload j => match ls[j]? with
    | some (some (.int x)) => Φ ls (.int x :: st) M
    | _ => False
  | .aload_n j => match ls[(j : Nat)]? with
    | some (some (.ref x)) => Φ ls (.ref x :: st) M
    | _ => False
  | .aload j => match ls[j]? with
    | some (some (.ref x)) => Φ ls (.ref x :: st) M
    | _ => False
  | .istore_n j => match st with
    | .int x :: r => Φ (ls.set (j : Nat) (some (.int x))) r M
    | _ => False
  | .istore j => match st with
    | .int x :: r => Φ (ls.set j (some (.int x))) r M
    | _ => False
  | .iinc j n => match ls[j]? with
    | some (some (.int x)) => Φ (ls.set j (some (.int (x + Int32.ofInt n)))) st M
    | _ => False
  | .iadd => match st with
    | .int y :: .int x :: r => Φ ls (.int (x + y) :: r) M
    | _ => False
  | .isub => match st with
    | .int y :: .int x :: r => Φ ls (.int (x - y) :: r) M
    | _ => False
  | .imul => match st with
    | .int y :: .int x :: r => Φ ls (.int (x * y) :: r) M
    | _ => False
  | .idiv => match st with
    | .int y :: .int x :: r => ¬ y = 0 ∧ Φ ls (.int (x / y) :: r) M
    | _ => False
  | .irem => match st with
    | .int y :: .int x :: r => ¬ y = 0 ∧ Φ ls (.int (x - x / y * y) :: r) M
    | _ => False
  | .iand => match st with
    | .int y :: .int x :: r => Φ ls (.int (x &&& y) :: r) M
    | _ => False
  | .ior => match st with
    | .int y :: .int x :: r => Φ ls (.int (x ||| y) :: r) M
    | _ => False
  | .ishl => match st with
    | .int y :: .int x :: r => Φ ls (.int (x <<< (y &&& 31)) :: r) M
    | _ => False
  | .ishr => match st with
    | .int y :: .int x :: r => Φ ls (.int (x >>> (y &&& 31)) :: r) M
    | _ => False
  | .dup => match st with
    | .int x :: r => Φ ls (.int x :: .int x :: r) M
    | .ref x :: r => Φ ls (.ref x :: .ref x :: r) M
    | _ => False
  | .dup2 => match st with
    | .int y :: .ref x :: r => Φ ls (.int y :: .ref x :: .int y :: .ref x :: r) M
    | _ => False
  | .pop => match st with
    | .int _ :: r => Φ ls r M
    | _ => False
  | .getfield _ => match a, st with
    | [sl, ci], .ref x :: r => match (mj_Sh lv)[x]? with
      | some (.inl (ci', fs)) => bif Nat.beq ci' ci then (match fs[sl]? with
        | some none => Φ ls (.int (M x sl) :: r) M
        | some (some q) => Φ ls (.ref q :: r) M
        | none => False) else False
      | _ => False
    | _, _ => False
  | .putfield _ => match a, st with
    | [sl, ci, ty], .int v :: .ref x :: r => match (mj_Sh lv)[x]? with
      | some (.inl (ci', fs)) => bif Nat.beq ci' ci then (match fs[sl]? with
        | some none => (match ty with
          | 0 => Φ ls r (mj_u M x sl v)
          | _ => (v = 0 ∨ v = 1) ∧ Φ ls r (mj_u M x sl v))
        | _ => False) else False
      | _ => False
    | _, _ => False
  | .iaload => match st with
    | .int i :: .ref x :: r => match (mj_Sh lv)[x]? with
      | some (.inr (0, n)) => vp_in i n ∧ Φ ls (.int (M x i.toNatClampNeg) :: r) M
      | _ => False
    | _ => False
  | .baload => match st with
    | .int i :: .ref x :: r => match (mj_Sh lv)[x]? with
      | some (.inr (1, n)) => vp_in i n ∧ Φ ls (.int (M x i.toNatClampNeg) :: r) M
      | _ => False
    | _ => False
  | .iastore => match st with
    | .int v :: .int i :: .ref x :: r => match (mj_Sh lv)[x]? with
      | some (.inr (0, n)) => vp_in i n ∧ Φ ls r (mj_u M x i.toNatClampNeg v)
      | _ => False
    | _ => False
  | .bastore => match st with
    | .int v :: .int i :: .ref x :: r => match (mj_Sh lv)[x]? with
      | some (.inr (1, n)) => vp_in i n ∧ Φ ls r (mj_u M x i.toNatClampNeg (mj_nb v))
      | _ => False
    | _ => False
  | _ => False
/-- what a program checks of such an instruction -/
def mj_sok (k : Nat) (i : Instr) (a : List Nat) : Bool :=
  match i with
  | .ldc idx => decide (idx = 132) && decide (mj_oc k = 7)
  | .istore_n j => decide ((j : Nat) < mj_n k)
  | .istore j => decide (j < mj_n k)
  | .iinc j _ => decide (j < mj_n k)
  | .getfield idx => match a with
    | [sl, ci] => mj_FL.contains (mj_oc k, idx, ci, sl) && decide (ci < 7) && decide (sl < (mj_q ci).2.2)
    | _ => false
  | .putfield idx => match a with
    | [sl, ci, ty] => mj_FL.contains (mj_oc k, idx, ci, sl) && decide (ci < 7) && decide (sl < (mj_q ci).2.2) && !((mj_q ci).2.1 sl).2.2.2 && decide ((ty = 0 ∧ mj_ty0 ci sl = .int) ∨ (ty = 1 ∧ mj_ty0 ci sl = .boolean))
    | _ => false
  | _ => true
def mj_len (i : Instr) : Nat := match i with
  | .iconst _ => 1
  | .bipush _ => 2
  | .sipush _ => 3
  | .ldc _ => 2
  | .iload_n _ => 1
  | .iload _ => 2
  | .aload_n _ => 1
  | .aload _ => 2
  | .istore_n _ => 1
  | .istore _ => 2
  | .iinc _ _ => 3
  | .getfield _ => 3
  | .putfield _ => 3
  | _ => 1
set_option maxHeartbeats 4000000 in
theorem mj_s_ok {lv k d pc cn : Nat} {ls : List (Option Value)} {st : List Value} {M : mj_M} {K : mj_K} {i : Instr} {a : List Nat} (hd : decode (mj_c k) pc = .ok (i, mj_len i)) (hok : mj_sok k i a = true) (h : mj_s lv i a ls st M (fun ls st M => mj_W lv k d (pc + mj_len i) ls st M cn K)) : mj_W lv k d pc ls st M cn K := by
  cases i
  case iconst n => exact mj_r_iconst hd (by rw [← mj_ic_eq]; exact h)
  case bipush n => exact mj_r_bipush hd h
  case sipush n => exact mj_r_sipush hd h
  case ldc idx =>
    simp only [mj_sok, Bool.and_eq_true, decide_eq_true_eq] at hok
    obtain ⟨rfl, ho⟩ := hok
    exact mj_r_ldc ho hd h
  case iload_n j =>
    simp only [mj_s] at h
    split at h
    · rename_i hv
      exact mj_r_iload_n hd hv h
    · exact h.elim
  case iload j =>
    simp only [mj_s] at h
    split at h
    · rename_i hv
      exact mj_r_iload hd hv h
    · exact h.elim
  case aload_n j =>
    simp only [mj_s] at h
    split at h
    · rename_i hv
      exact mj_r_aload_n hd hv h
    · exact h.elim
  case aload j =>
    simp only [mj_s] at h
    split at h
    · rename_i hv
      exact mj_r_aload hd hv h
    · exact h.elim
  case istore_n j =>
    simp only [mj_sok, decide_eq_true_eq] at hok
    simp only [mj_s] at h
    split at h
    · exact mj_r_istore_n hok hd h
    · exact h.elim
  case istore j =>
    simp only [mj_sok, decide_eq_true_eq] at hok
    simp only [mj_s] at h
    split at h
    · exact mj_r_istore hok hd h
    · exact h.elim
  case iinc j n =>
    simp only [mj_sok, decide_eq_true_eq] at hok
    simp only [mj_s] at h
    split at h
    · rename_i hv
      exact mj_r_iinc hok hd hv h
    · exact h.elim
  case iadd =>
    simp only [mj_s] at h
    split at h
    · exact mj_r_iadd hd h
    · exact h.elim
  case isub =>
    simp only [mj_s] at h
    split at h
    · exact mj_r_isub hd h
    · exact h.elim
  case imul =>
    simp only [mj_s] at h
    split at h
    · exact mj_r_imul hd h
    · exact h.elim
  case idiv =>
    simp only [mj_s] at h
    split at h
    · exact mj_r_idiv hd h.1 h.2
    · exact h.elim
  case irem =>
    simp only [mj_s] at h
    split at h
    · exact mj_r_irem hd h.1 h.2
    · exact h.elim
  case iand =>
    simp only [mj_s] at h
    split at h
    · exact mj_r_iand hd h
    · exact h.elim
  case ior =>
    simp only [mj_s] at h
    split at h
    · exact mj_r_ior hd h
    · exact h.elim
  case ishl =>
    simp only [mj_s] at h
    split at h
    · exact mj_r_ishl hd h
    · exact h.elim
  case ishr =>
    simp only [mj_s] at h
    split at h
    · exact mj_r_ishr hd h
    · exact h.elim
  case dup =>
    simp only [mj_s] at h
    split at h
    · exact mj_r_dup rfl hd h
    · exact mj_r_dup rfl hd h
    · exact h.elim
  case dup2 =>
    simp only [mj_s] at h
    split at h
    · exact mj_r_dup2 rfl rfl hd h
    · exact h.elim
  case pop =>
    simp only [mj_s] at h
    split at h
    · exact mj_r_pop rfl hd h
    · exact h.elim
  case getfield idx =>
    simp only [mj_s] at h
    split at h
    · rename_i sl ci x r
      simp only [mj_sok, Bool.and_eq_true, decide_eq_true_eq, List.contains_iff_mem] at hok
      obtain ⟨⟨o1, o2⟩, o3⟩ := hok
      split at h
      · rename_i ci' fs hsh
        cases hb : Nat.beq ci' ci with
        | false => rw [hb] at h; exact h.elim
        | true =>
          rw [hb] at h
          obtain rfl := Nat.eq_of_beq_eq_true hb
          simp only [cond_true] at h
          split at h
          · rename_i hf
            exact mj_r_get hd o1 o2 o3 hsh (by rw [hf]; rfl) h
          · rename_i q hf
            exact mj_r_get hd o1 o2 o3 hsh (by rw [hf]; rfl) h
          · exact h.elim
      · exact h.elim
    · exact h.elim
  case putfield idx =>
    simp only [mj_s] at h
    split at h
    · rename_i sl ci ty v x r
      simp only [mj_sok, Bool.and_eq_true, decide_eq_true_eq, List.contains_iff_mem, Bool.not_eq_true'] at hok
      obtain ⟨⟨⟨⟨o1, o2⟩, o3⟩, o4⟩, o5⟩ := hok
      split at h
      · rename_i ci' fs hsh
        cases hb : Nat.beq ci' ci with
        | false => rw [hb] at h; exact h.elim
        | true =>
          rw [hb] at h
          obtain rfl := Nat.eq_of_beq_eq_true hb
          simp only [cond_true] at h
          split at h
          · rename_i hf
            rcases o5 with ⟨rfl, o5⟩ | ⟨rfl, o5⟩
            · exact mj_r_put hd o1 o2 o3 o4 o5 rfl rfl hsh hf h
            · obtain ⟨h1, h2⟩ := h
              rcases h1 with rfl | rfl
              · exact mj_r_put hd o1 o2 o3 o4 o5 rfl rfl hsh hf h2
              · exact mj_r_put hd o1 o2 o3 o4 o5 rfl rfl hsh hf h2
          · exact h.elim
      · exact h.elim
    · exact h.elim
  case iaload =>
    simp only [mj_s] at h
    split at h
    · split at h
      · rename_i hsh
        exact mj_r_iald hd hsh h.1 h.2
      · exact h.elim
    · exact h.elim
  case baload =>
    simp only [mj_s] at h
    split at h
    · split at h
      · rename_i hsh
        exact mj_r_bald hd hsh h.1 h.2
      · exact h.elim
    · exact h.elim
  case iastore =>
    simp only [mj_s] at h
    split at h
    · split at h
      · rename_i hsh
        exact mj_r_iast hd hsh h.1 h.2
      · exact h.elim
    · exact h.elim
  case bastore =>
    simp only [mj_s] at h
    split at h
    · split at h
      · rename_i hsh
        exact mj_r_bast hd hsh h.1 h.2
      · exact h.elim
    · exact h.elim
  all_goals exact False.elim h
end
section
-- a new row: the world grows by a cell
def mj_z0 (M : mj_M) (q : Nat) : mj_M := fun c => if c = q then fun _ => 0 else M c
def mj_fo (q : Nat) : Option Value → Option Value
  | some (.ref x) => bif Nat.beq x q then none else some (.ref x)
  | o => o
-- a block of code: straight instructions, and what ends it
def mj_WN : List (Nat × Nat × Nat) := [(2, 0, 1), (2, 0, 41), (3, 1, 0), (8, 1, 5), (9, 1, 81), (9, 2, 0)]
set_option maxRecDepth 100000 in
theorem mj_WN_ok : ∀ e ∈ mj_WN, mj_wok e.1 e.2.1 e.2.2 = true := by decide +kernel
def mj_sw (x : Int32) (W : Nat → Prop) : Nat → List Nat → Prop
  | _, [] => True
  | j, t :: ts => (x.toInt = (j : Int) → W t) ∧ mj_sw x W (j + 1) ts
def mj_cond (i : Instr) (st : List Value) (T F : List Value → Prop) : Prop := match i with
  | .ifCond c _ => match st with
    | .int x :: r => match c with
      | .eq => (x = 0 → T r) ∧ (¬ x = 0 → F r)
      | .ne => (¬ x = 0 → T r) ∧ (x = 0 → F r)
      | .lt => (x < 0 → T r) ∧ (¬ x < 0 → F r)
      | .ge => (0 ≤ x → T r) ∧ (¬ 0 ≤ x → F r)
      | .gt => (0 < x → T r) ∧ (¬ 0 < x → F r)
      | .le => (x ≤ 0 → T r) ∧ (¬ x ≤ 0 → F r)
    | _ => False
  | .if_icmp c _ => match st with
    | .int y :: .int x :: r => match c with
      | .eq => (x = y → T r) ∧ (¬ x = y → F r)
      | .ne => (¬ x = y → T r) ∧ (x = y → F r)
      | .lt => (x < y → T r) ∧ (¬ x < y → F r)
      | .ge => (y ≤ x → T r) ∧ (¬ y ≤ x → F r)
      | .gt => (y < x → T r) ∧ (¬ y < x → F r)
      | .le => (x ≤ y → T r) ∧ (¬ x ≤ y → F r)
    | _ => False
  | _ => False
def mj_off (i : Instr) : Int := match i with
  | .ifCond _ o => o
  | .if_icmp _ o => o
  | .goto o => o
  | _ => 0
def mj_ge (o : Nat) : Value → Bool
  | .ref x => Nat.ble o x
  | _ => true
def mj_un (o : Nat) : Value → Value
  | .ref x => .ref (x - o)
  | v => v
theorem mj_un_ok {o : Nat} {l : List Value} (h : l.all (mj_ge o) = true) : (l.map (mj_un o)).map (mj_sv_ o) = l := by
  rw [List.map_map]
  have h1 : ∀ v ∈ l, (mj_sv_ o ∘ mj_un o) v = v := by
    intro v hv
    have h2 := List.all_eq_true.mp h v hv
    cases v with
    | ref x =>
      have h3 := Nat.le_of_ble_eq_true h2
      show Value.ref (o + (x - o)) = Value.ref x
      rw [show o + (x - o) = x by omega]
    | _ => rfl
  rw [List.map_congr_left h1]
  simp
def mj_t (lv k d kd : Nat) (a : List Nat) (i : Instr) (pc : Nat) (ls : List (Option Value)) (st : List Value) (M : mj_M) (cn : Nat) (K : mj_K) : Prop :=
  match kd with
  | 1 => match a with
    | [tgt] => mj_cond i st (fun r => mj_W lv k d tgt ls r M cn K) (fun r => mj_W lv k d (pc + 3) ls r M cn K)
    | _ => False
  | 2 => match a with
    | [tgt] => mj_W lv k d tgt ls st M cn K
    | _ => False
  | 3 => match st with
    | [.int v] => bif Nat.ble cn (mj_mc k) then K 0 v M else False
    | _ => False
  | 12 => match st with
    | [.int v] => bif Nat.ble cn (mj_mc k) then K 0 (mj_nb v) M else False
    | _ => False
  | 4 => match st with
    | [] => bif Nat.ble cn (mj_mc k) then K 0 0 M else False
    | _ => False
  | 5 => match a with
    | [j, n, dj] => match (st.take (n + 1)).reverse with
      | .ref x :: as => match (mj_Sh lv)[x]? with
        | some (.inl (ci, _)) => bif Nat.beq ci (mj_oc j) && (Nat.beq as.length n && (Nat.ble (cn + mj_mc j) (mj_mc k) && Nat.ble (st.drop (n + 1)).length 4)) then mj_Cm j dj (.ref x :: as) M (mj_k lv k d (pc + 3) ls (st.drop (n + 1)) (cn + mj_mc j) (mj_r j) K) else False
        | _ => False
      | _ => False
    | _ => False
  | 6 => match a with
    | [j, n, dj, y] => match (st.take (n + 1)).reverse with
      | .ref x :: as => match (mj_Sh lv)[x]? with
        | some (.inl (ci, _)) => bif Nat.beq ci (mj_oc j) && (Nat.beq as.length n && (Nat.ble (cn + mj_mc j) (mj_mc k) && (Nat.ble (st.drop (n + 1)).length 4 && (Nat.ble y x && (mj_WN.contains (lv, mj_lv j, x - y) && as.all (fun v => match v with | .int _ => true | _ => false)))))) then mj_Cm j dj (.ref y :: as) (mj_v M (x - y)) (mj_k2 lv k d (pc + 3) ls (st.drop (n + 1)) M (x - y) (mj_Sh (mj_lv j)).length (cn + mj_mc j) (mj_r j) K) else False
        | _ => False
      | _ => False
    | _ => False
  | 7 => match a with
    | [j, n, dj] => bif Nat.beq (st.take n).length n && (Nat.ble (cn + mj_mc j) (mj_mc k) && Nat.ble (st.drop n).length 4) then mj_Cm j dj (st.take n).reverse M (mj_k lv k d (pc + 3) ls (st.drop n) (cn + mj_mc j) (mj_r j) K) else False
    | _ => False
  | 14 => match a with
    | [j, n] => bif Nat.beq (st.take n).length n && (Nat.ble (cn + mj_mc j) (mj_mc k) && Nat.ble (st.drop n).length 4) then mj_Cm j (d - 1) (st.take n).reverse M (mj_k lv k d (pc + 3) ls (st.drop n) (cn + mj_mc j) (mj_r j) K) else False
    | _ => False
  | 8 => match a with
    | [e, _, _] => bif Nat.ble (cn + 1) (mj_mc k) && Nat.ble st.length 4 then K (e + 1) 0 M else False
    | _ => False
  | 9 => match a with
    | t0 :: ts => match st with
      | .int x :: r => (x.toInt < 0 ∨ (ts.length : Int) ≤ x.toInt → mj_W lv k d t0 ls r M cn K) ∧ mj_sw x (fun t => mj_W lv k d t ls r M cn K) 0 ts
      | _ => False
    | _ => False
  | 13 => match a, st with
    | [n, lv'], [.int v] => v = nI n ∧ cn + 1 ≤ mj_mc k ∧ mj_W lv' k d (pc + 2) (ls.map (mj_fo (mj_Sh lv).length)) [.ref (mj_Sh lv).length] (mj_z0 M (mj_Sh lv).length) (cn + 1) K
    | _, _ => False
  | 15 => match a with
    | [j, n, dj, o] => cn + mj_mc j ≤ mj_mc k ∧ (bif Nat.beq (st.take n).length n && (Nat.ble (st.drop n).length 4 && (st.take n).all (mj_ge o)) then mj_Cm j dj ((st.take n).reverse.map (mj_un o)) (mj_v M o) (mj_k2 lv k d (pc + 3) ls (st.drop n) M o (mj_Sh (mj_lv j)).length (cn + mj_mc j) (mj_r j) K) else False)
    | _ => False
  | 26 => match a with
    | [j, n, dj, y] => match (st.take (n + 1)).reverse with
      | .ref x :: as => match (mj_Sh lv)[x]? with
        | some (.inl (ci, _)) => cn + mj_mc j ≤ mj_mc k ∧ (bif Nat.beq ci (mj_oc j) && (Nat.beq as.length n && ((Nat.ble (st.drop (n + 1)).length 4 && (Nat.ble y x && (mj_WN.contains (lv, mj_lv j, x - y) && as.all (fun v => match v with | .int _ => true | _ => false)))))) then mj_Cm j dj (.ref y :: as) (mj_v M (x - y)) (mj_k2 lv k d (pc + 3) ls (st.drop (n + 1)) M (x - y) (mj_Sh (mj_lv j)).length (cn + mj_mc j) (mj_r j) K) else False)
        | _ => False
      | _ => False
    | _ => False
  | 27 => match a with
    | [j, n, dj] => cn + mj_mc j ≤ mj_mc k ∧ (bif Nat.beq (st.take n).length n && (Nat.ble (st.drop n).length 4) then mj_Cm j dj (st.take n).reverse M (mj_k lv k d (pc + 3) ls (st.drop n) (cn + mj_mc j) (mj_r j) K) else False)
    | _ => False
  | 16 => match st with
    | [.int v] => cn ≤ mj_mc k ∧ K 0 v M
    | _ => False
  | 17 => match st with
    | [.int v] => cn ≤ mj_mc k ∧ K 0 (mj_nb v) M
    | _ => False
  | 18 => match st with
    | [] => cn ≤ mj_mc k ∧ K 0 0 M
    | _ => False
  | _ => False
def mj_go (lv k d : Nat) : List mj_I → Nat → List (Option Value) → List Value → mj_M → Nat → mj_K → Prop
  | [], pc, ls, st, M, cn, K => mj_W lv k d pc ls st M cn K
  | (i, len, kd, a) :: r, pc, ls, st, M, cn, K => match kd with
    | 0 => mj_s lv i a ls st M (fun ls st M => mj_go lv k d r (pc + len) ls st M cn K)
    | 10 => match st with
      | .int y :: .int x :: s => bif Nat.ble cn (mj_mc k) && Nat.ble s.length 4 then mj_go lv k d r (pc + 3) ls (.int (if y < x then y else x) :: s) M cn K else False
      | _ => False
    | 11 => match st with
      | .int y :: .int x :: s => bif Nat.ble cn (mj_mc k) && Nat.ble s.length 4 then mj_go lv k d r (pc + 3) ls (.int (if x < y then y else x) :: s) M cn K else False
      | _ => False
    | kd => mj_t lv k d kd a i pc ls st M cn K
/-- what a program checks of what ends a block -/
def mj_tok (lv k kd : Nat) (a : List Nat) (i : Instr) (pc : Nat) : Bool :=
  match kd with
  | 1 => match a with
    | [tgt] => decide ((pc : Int) + mj_off i = (tgt : Int))
    | _ => false
  | 2 => match a, i with
    | [tgt], .goto o => decide ((pc : Int) + o = (tgt : Int))
    | _, _ => false
  | 3 => decide (i = .ireturn) && decide (mj_r k = some .int)
  | 12 => decide (i = .ireturn) && decide (mj_r k = some .boolean)
  | 4 => decide (i = .return_) && decide (mj_r k = none)
  | 5 => match a, i with
    | [j, n, dj], .invokevirtual idx => mj_ML.contains (mj_oc k, idx, j) && decide (j < mj_N) && mj_kV.contains j && decide (mj_lv j = lv) && decide (n = mj_ar j) && decide (dj + 1 ≤ mj_ht k)
    | _, _ => false
  | 6 => match a, i with
    | [j, n, dj, _], .invokevirtual idx => mj_ML.contains (mj_oc k, idx, j) && decide (j < mj_N) && mj_kV.contains j && decide (mj_lv j ≠ 2) && decide (mj_lv j ≠ 9) && decide (n = mj_ar j) && decide (dj + 1 ≤ mj_ht k)
    | _, _ => false
  | 7 => match a, i with
    | [j, n, dj], .invokestatic idx => mj_ML.contains (mj_oc k, idx, j) && decide (j < mj_N) && mj_kS.contains j && decide (mj_lv j = lv) && decide (mj_oc j = mj_oc k) && decide (n = mj_ar j) && decide (dj + 1 ≤ mj_ht k)
    | _, _ => false
  | 14 => match a, i with
    | [j, n], .invokestatic idx => mj_ML.contains (mj_oc k, idx, j) && decide (j < mj_N) && mj_kS.contains j && decide (mj_lv j = lv) && decide (mj_oc j = mj_oc k) && decide (n = mj_ar j) && decide (1 ≤ mj_ht k)
    | _, _ => false
  | 13 => match a, i with
    | [n, lv'], .newarray .int => decide (mj_Sh lv' = mj_Sh lv ++ [.inr (0, n)]) && decide (lv' < 9) && decide (lv' ≠ 2) && decide (n ≤ 64) && decide (lv < 10)
    | _, _ => false
  | 15 => match a, i with
    | [j, n, dj, o], .invokestatic idx => mj_ML.contains (mj_oc k, idx, j) && decide (j < mj_N) && mj_kS.contains j && decide (mj_lv j = 2 → lv = 2 ∨ lv = 9) && decide (mj_lv j ≠ 9) && mj_WN.contains (lv, mj_lv j, o) && decide (mj_oc j = mj_oc k) && decide (n = mj_ar j) && decide (dj + 1 ≤ mj_ht k)
    | _, _ => false
  | 26 => match a, i with
    | [j, n, dj, _], .invokevirtual idx => mj_ML.contains (mj_oc k, idx, j) && decide (j < mj_N) && mj_kV.contains j && decide (mj_lv j = 2 → lv = 2 ∨ lv = 9) && decide (mj_lv j ≠ 9) && decide (n = mj_ar j) && decide (dj + 1 ≤ mj_ht k)
    | _, _ => false
  | 27 => match a, i with
    | [j, n, dj], .invokestatic idx => mj_ML.contains (mj_oc k, idx, j) && decide (j < mj_N) && mj_kS.contains j && decide (mj_lv j = lv) && decide (mj_oc j = mj_oc k) && decide (n = mj_ar j) && decide (dj + 1 ≤ mj_ht k)
    | _, _ => false
  | 16 => decide (i = .ireturn) && decide (mj_r k = some .int)
  | 17 => decide (i = .ireturn) && decide (mj_r k = some .boolean)
  | 18 => decide (i = .return_) && decide (mj_r k = none)
  | 8 => match a, i with
    | [e, is, ic], .new ik => decide (lv = 2) && decide (mj_oc k = 6) && decide ((e = 1 ∧ ik = 209 ∧ ic = 213) ∨ (e = 2 ∧ ik = 218 ∧ ic = 222) ∨ (e = 0 ∧ ik = 226 ∧ ic = 230)) && mj_tx.any (fun q => decide (q.1 = is)) && decide (decode (mj_c k) (pc + 3) = .ok (.dup, 1)) && decide (decode (mj_c k) (pc + 4) = .ok (.ldc is, 2)) && decide (decode (mj_c k) (pc + 6) = .ok (.invokespecial ic, 3)) && decide (decode (mj_c k) (pc + 9) = .ok (.athrow, 1))
    | _, _ => false
  | 9 => match a, i with
    | t0 :: ts, .tableswitch df lo hi offs => decide (lo = 0) && decide (hi + 1 = (ts.length : Int)) && decide ((pc : Int) + df = (t0 : Int)) && decide (offs.toList.map (fun o => (pc : Int) + o) = ts.map (fun t : Nat => (t : Int)))
    | _, _ => false
  | _ => false
def mj_tl (kd len : Nat) : Bool := match kd with
  | 3 => decide (len = 1)
  | 12 => decide (len = 1)
  | 4 => decide (len = 1)
  | 9 => true
  | 13 => decide (len = 2)
  | 16 => decide (len = 1)
  | 17 => decide (len = 1)
  | 18 => decide (len = 1)
  | _ => decide (len = 3)
def mj_ok (lv k : Nat) : Nat → List mj_I → Bool
  | _, [] => true
  | pc, (i, len, kd, a) :: r => decide (decode (mj_c k) pc = .ok (i, len)) && (match kd with
    | 0 => decide (len = mj_len i) && mj_sok k i a && mj_ok lv k (pc + len) r
    | 10 => (match i with | .invokestatic idx => mj_MN.contains (mj_oc k, idx) | _ => false) && decide (len = 3) && mj_ok lv k (pc + 3) r
    | 11 => (match i with | .invokestatic idx => mj_MX.contains (mj_oc k, idx) | _ => false) && decide (len = 3) && mj_ok lv k (pc + 3) r
    | kd => mj_tl kd len && mj_tok lv k kd a i pc)
theorem mj_sw_at {x : Int32} {W : Nat → Prop} : ∀ (ts : List Nat) (j i : Nat) (t : Nat), mj_sw x W j ts → ts[i]? = some t → x.toInt = ((j + i : Nat) : Int) → W t
  | [], _, _, _, _, h, _ => by simp at h
  | t :: ts, j, 0, t', h, h2, h3 => by
    simp at h2
    subst h2
    exact h.1 h3
  | t :: ts, j, i + 1, t', h, h2, h3 => mj_sw_at ts (j + 1) i t' h.2 (by simpa using h2) (by rw [h3, show j + (i + 1) = j + 1 + i by omega])
end
section
-- a new row of ints
section MJN
variable {lv k d pc cn : Nat} {ls : List (Option Value)} {st rest : List Value} {M : mj_M} {K : mj_K}
theorem mj_w_push {cA : Nat → ClassId} {ad : Nat → Nat} {M : mj_M} {Sh : List mj_D} {n q : Nat} (hr : ∀ (k : Nat) (o : Nat × List (Option Nat)), Sh[k]? = some (.inl o) → ∀ x, some x ∈ o.2 → x < Sh.length) : mj_w cA ad M Sh ++ [(q, .inl (cA 0, n, .inl fun _ => 0))] = mj_w cA (fun i => if i = Sh.length then q else ad i) (mj_z0 M Sh.length) (Sh ++ [.inr (0, n)]) := by
  apply List.ext_getElem?
  intro i
  rcases Nat.lt_trichotomy i Sh.length with h | h | h
  · rw [List.getElem?_append_left (by rw [mj_w_len]; exact h), mj_w_get, mj_w_get, List.getElem?_append_left h]
    cases hd : Sh[i]? with
    | none => rfl
    | some d =>
      simp only [Option.map_some]
      rw [if_neg (by omega)]
      congr 2
      cases d with
      | inl o =>
        obtain ⟨ci, fs⟩ := o
        have h0 := hr i _ hd
        simp only [mj_e, mj_z0]
        rw [if_neg (by omega)]
        congr 2
        apply List.ext_getElem?
        intro j
        rw [mj_f_get, mj_f_get]
        cases hq : fs[j]? with
        | none => rfl
        | some z =>
          cases z with
          | none => rfl
          | some x =>
            have := h0 x (List.mem_of_getElem? hq)
            simp only [Option.map_some]
            rw [if_neg (by omega)]
      | inr a =>
        obtain ⟨t, m⟩ := a
        simp only [mj_e, mj_z0]
        rw [if_neg (by omega)]
  · subst h
    rw [List.getElem?_append_right (by rw [mj_w_len]; omega), mj_w_get, List.getElem?_append_right (Nat.le_refl _), mj_w_len, Nat.sub_self]
    simp [mj_e, mj_z0]
  · rw [List.getElem?_eq_none (by simp [mj_w_len]; omega), List.getElem?_eq_none (by simp [mj_w_len]; omega)]
theorem mj_Sh_in : ∀ lv, lv < 10 → ∀ (k : Nat) (o : Nat × List (Option Nat)), (mj_Sh lv)[k]? = some (.inl o) → ∀ x, some x ∈ o.2 → x < (mj_Sh lv).length := by
  have key : ∀ lv, lv < 10 → (mj_Sh lv).all (fun d => match d with | .inl o => o.2.all (fun z => match z with | some x => Nat.ble (x + 1) (mj_Sh lv).length | none => true) | .inr _ => true) = true := by decide +kernel
  intro lv hlv k o hk x hx
  have h1 := List.all_eq_true.mp (key lv hlv) _ (List.mem_of_getElem? hk)
  have h2 := List.all_eq_true.mp h1 _ hx
  exact Nat.le_of_ble_eq_true h2
theorem mj_arrI : Cond.arrayClass .int ∈ mj_G := mj_inG (List.mem_of_getElem? (i := 103) (by decide +kernel)) rfl
theorem mj_wmono {p : Program} {l : Launch} {e : Env} {R : Room} {s : State} {m : MethodId} {args : Array Value} {below : List Frame} {meth : Method} {c : Code} {H : Heap} {locs : List Loc} {cells slots : Nat} {Q Q' : State → Prop} {g : JFrame} (hQ : ∀ t, Q t → Q' t) (h : W p l e R s m args below meth c H locs cells slots Q g) : W p l e R s m args below meth c H locs cells slots Q' g := by
  intro T hT X
  obtain ⟨t, a, b⟩ := h T hT X
  exact ⟨t, a, hQ t b⟩
theorem mj_MQ_mono {below : List Frame} {Qc Qc' : Array Value → State → Outcome → State → Prop} {XC XC' : String → State → State → Prop} {a : Array Value} {s : State} {mc ms : Nat} {free free' : Addr → Prop} (h1 : ∀ a s o t, Qc a s o t → Qc' a s o t) (h2 : ∀ E s t, XC E s t → XC' E s t) (h3 : ∀ q, free q → free' q) (t : State) (h : vx_MQ below Qc XC a s mc ms free t) : vx_MQ below Qc' XC' a s mc ms free' t := by
  obtain ⟨o, g1, g2, g3⟩ := h
  refine ⟨o, g1, g2, ?_⟩
  rcases g3 with ⟨b1, L, b2, b3⟩ | ⟨q, rfl, E, ce, locs, b1, b2, b3, b4, b5, b6, b7⟩
  · exact Or.inl ⟨h1 _ _ _ _ b1, L, b2, fun z hz => h3 _ (b3 z hz)⟩
  · exact Or.inr ⟨q, rfl, E, ce, locs, h2 _ _ _ b1, b2, b3, b4, b5, b6, fun z hz => h3 _ (b7 z hz)⟩
theorem mj_A_push {ad : Nat → Nat} {n q sz : Nat} (hq : sz ≤ q) : mj_A (fun i => if i = n then q else ad i) (n + 1) sz = mj_A ad n sz := by
  funext x
  apply propext
  constructor
  · rintro (⟨k, hk, e⟩ | h)
    · by_cases hkn : k = n
      · subst hkn
        simp only [if_true] at e
        exact Or.inr (by omega)
      · simp only [if_neg hkn] at e
        exact Or.inl ⟨k, by omega, e⟩
    · exact Or.inr h
  · rintro (⟨k, hk, e⟩ | h)
    · exact Or.inl ⟨k, by omega, by simp only [if_neg (show ¬ k = n by omega)]; exact e⟩
    · exact Or.inr h
theorem mj_Bdrop {D : va_G} {cA : Nat → ClassId} {ad : Nat → Nat} {Sh Sh' : List mj_D} {n q : Nat} (hsh : Sh' = Sh ++ [.inr (0, n)]) (hr : ∀ (k : Nat) (o : Nat × List (Option Nat)), Sh[k]? = some (.inl o) → ∀ x, some x ∈ o.2 → x < Sh.length) (u : mj_M) (t : State) (h : mj_B D cA (fun i => if i = Sh.length then q else ad i) Sh' u t) : mj_B D cA ad Sh u t := by
  intro i x hx
  have hl := (List.getElem?_eq_some_iff.mp hx).1
  rw [mj_w_len] at hl
  refine h i x ?_
  rw [← hx, mj_w_get, mj_w_get, hsh, List.getElem?_append_left hl]
  cases hd : Sh[i]? with
  | none => rfl
  | some d =>
    simp only [Option.map_some]
    rw [if_neg (by omega)]
    congr 2
    cases d with
    | inl o =>
      obtain ⟨ci, fs⟩ := o
      have h0 := hr i _ hd
      simp only [mj_e]
      congr 2
      apply List.ext_getElem?
      intro j
      rw [mj_f_get, mj_f_get]
      cases hq : fs[j]? with
      | none => rfl
      | some z =>
        cases z with
        | none => rfl
        | some x =>
          have := h0 x (List.mem_of_getElem? hq)
          simp only [Option.map_some]
          rw [if_neg (by omega)]
    | inr a => rfl
set_option maxHeartbeats 4000000 in
theorem mj_r_newI {lv' n : Nat} (hd : decode (mj_c k) pc = .ok (.newarray .int, 2)) (hsh : mj_Sh lv' = mj_Sh lv ++ [.inr (0, n)]) (hlv : lv < 10) (h9 : lv' < 9) (h2' : lv' ≠ 2) (hn : n ≤ 64) (hmc : cn + 1 ≤ mj_mc k) (h : mj_W lv' k d (pc + 2) (ls.map (mj_fo (mj_Sh lv).length)) [.ref (mj_Sh lv).length] (mj_z0 M (mj_Sh lv).length) (cn + 1) K) : mj_W lv k d pc ls [.int (nI n)] M cn K := by
  intro p l e s m args below meth c D cA ad C H locs lsA hl hP hS
  obtain ⟨hx, hlt, hb, hml, hown, hts, hret, hlk, htab, hinj, hK, hX⟩ := id C
  have hv0 : ¬ nI n < 0 := nI_pos (by omega)
  have hcl : (nI n).toNatClampNeg = n := nI_clamp (by omega)
  refine va_newa (atype := .int) (ty := .int) (N' := n) (a0 := (n, .inl fun _ => 0)) hx hb (hts _ mj_arrI) rfl hK hP (mj_D_of hinj) hS (fun q hq => Or.inr hq) (fun _ => rfl) hv0 hcl (by show n * 4 ≤ 536870912; omega) (by show cn + 1 ≤ mj_mc k; exact hmc) (by show 64 * cn + n ≤ 64 * mj_mc k; omega) hd (fun q cB H1 hK1 hP1 hD1 hS1 => ?_)
  have hcB : cB = cA 0 := by
    have e1 := (hK1.2 2 (cB, .int) rfl).2
    have e2 := (hK.2 0 (cA 0, .int) rfl).2
    exact Option.some.inj (Eq.trans (Eq.symm e1) e2)
  subst hcB
  have hpush := mj_w_push (cA := cA) (ad := ad) (M := M) (Sh := mj_Sh lv) (n := n) (q := q) (mj_Sh_in lv hlv)
  rw [hpush, ← hsh] at hP1 hD1
  have hlen : (mj_Sh lv').length = (mj_Sh lv).length + 1 := by rw [hsh]; simp
  have hinj' : mj_inj (fun i => if i = (mj_Sh lv).length then q else ad i) (mj_Sh lv').length := by
    intro i j hi hj hij
    have g : ∀ i, i < (mj_Sh lv').length → ∃ d, (mj_Sh lv')[i]? = some d := fun i hi => ⟨_, List.getElem?_eq_getElem hi⟩
    obtain ⟨d1, e1⟩ := g i hi
    obtain ⟨d2, e2⟩ := g j hj
    exact hD1.1 i j _ _ (mj_w_some e1) (mj_w_some e2) hij
  have hq : s.heap.size ≤ q := by
    have h1 := hD1.2 (mj_Sh lv).length (q, mj_e cA (fun i => if i = (mj_Sh lv).length then q else ad i) (mj_z0 M (mj_Sh lv).length) (mj_Sh lv).length (.inr (0, n))) (by
      rw [mj_w_get, hsh, List.getElem?_append_right (Nat.le_refl _), Nat.sub_self]
      simp)
    rcases h1 with ⟨i, hi, e⟩ | h1
    · exfalso
      have := hinj' i (mj_Sh lv).length (by omega) (by omega) (by
        show (if i = (mj_Sh lv).length then q else ad i) = (if (mj_Sh lv).length = (mj_Sh lv).length then q else ad (mj_Sh lv).length)
        rw [if_neg (by omega), if_pos rfl]; exact e.symm)
      omega
    · exact h1
  have hA : mj_A (fun i => if i = (mj_Sh lv).length then q else ad i) (mj_Sh lv').length s.heap.size = mj_A ad (mj_Sh lv).length s.heap.size := by
    rw [hlen]
    exact mj_A_push hq
  have hC : mj_C lv' k p l s m args meth c D cA (fun i => if i = (mj_Sh lv).length then q else ad i) := ⟨hx, hlt, hb, hml, hown, hts, hret, hlk, htab, hinj', hK, mj_X.of h2' (by omega)⟩
  have hL' : mj_L (fun i => if i = (mj_Sh lv).length then q else ad i) lsA (mj_n k) (ls.map (mj_fo (mj_Sh lv).length)) := by
    refine ⟨hl.1, by rw [List.length_map]; exact hl.2.1, hl.2.2.1, fun i v hv => ?_⟩
    rw [List.getElem?_map] at hv
    cases ho : ls[i]? with
    | none => rw [ho] at hv; cases hv
    | some o =>
      rw [ho] at hv
      simp only [Option.map_some, Option.some.injEq] at hv
      cases o with
      | none => cases hv
      | some w =>
        have h1 := hl.2.2.2 i w ho
        cases w with
        | ref x =>
          simp only [mj_fo] at hv
          cases hz : Nat.beq x (mj_Sh lv).length with
          | true => rw [hz] at hv; cases hv
          | false =>
            rw [hz] at hv
            cases hv
            refine ⟨h1.1, ?_⟩
            rw [h1.2]
            have hne : ¬ x = (mj_Sh lv).length := fun e => by rw [e] at hz; simp at hz
            simp only [mj_tr]
            rw [if_neg hne]
        | _ => cases hv; exact h1
  have h0 := h p l e s m args below meth c D cA (fun i => if i = (mj_Sh lv).length then q else ad i) hC H1 locs lsA hL' hP1 (by rw [hA]; exact hS1)
  refine W.widen (k := cn + 1) (n := 64 * (cn + 1)) (Nat.le_refl _) (by omega) ?_
  have h00 : (mj_tr (fun i => if i = (mj_Sh lv).length then q else ad i) (.ref (mj_Sh lv).length)) = .ref q := by
    simp [mj_tr]
  rw [List.map_cons, h00, List.map_nil, hA] at h0
  refine mj_wmono (mj_MQ_mono (fun a s o t hq => ?_) (fun E s t hq => ?_) (fun q h => h)) h0
  · have hB : ∀ (u : mj_M) (t : State), mj_B D cA (fun i => if i = (mj_Sh lv).length then q else ad i) (mj_Sh lv') u t → mj_B D cA ad (mj_Sh lv) u t := mj_Bdrop hsh (mj_Sh_in lv hlv)
    unfold mj_Q at hq ⊢
    cases hr : mj_r k with
    | none =>
      rw [hr] at hq
      obtain ⟨⟨u, b1, b2, b3⟩, b4⟩ := hq
      exact ⟨⟨u, b1, b2, hB u t b3⟩, b4⟩
    | some r =>
      rw [hr] at hq
      obtain ⟨⟨v, u, b1, b2, b3⟩, b4⟩ := hq
      exact ⟨⟨v, u, b1, b2, hB u t b3⟩, b4⟩
  · obtain ⟨u, b1, ⟨b2, b3⟩, b4⟩ := hq
    exact ⟨u, b1, ⟨b2, mj_Bdrop hsh (mj_Sh_in lv hlv) u.2 t b3⟩, b4⟩
end MJN
section MJ
variable {lv k d pc cn : Nat} {ls : List (Option Value)} {st rest : List Value} {M : mj_M} {K : mj_K}
theorem mj_s_mono {i : Instr} {a : List Nat} {Φ Ψ : List (Option Value) → List Value → mj_M → Prop} (hm : ∀ ls st M, Φ ls st M → Ψ ls st M) (h : mj_s lv i a ls st M Φ) : mj_s lv i a ls st M Ψ := by
  unfold mj_s at h ⊢
  repeat' split at h
  all_goals first
    | exact hm _ _ _ h
    | exact ⟨h.1, hm _ _ _ h.2⟩
    | exact h.elim
    | (simp only [Bool.cond_eq_ite] at h ⊢
       split at h <;> rename_i hb <;> first
         | (rw [if_pos hb]; exact hm _ _ _ h)
         | (rw [if_pos hb]; exact ⟨h.1, hm _ _ _ h.2⟩)
         | exact h.elim)
theorem mj_cond_ok {i : Instr} {tgt len : Nat} (hd : decode (mj_c k) pc = .ok (i, 3)) (ht : (pc : Int) + mj_off i = (tgt : Int)) (h : mj_cond i st (fun r => mj_W lv k d tgt ls r M cn K) (fun r => mj_W lv k d (pc + 3) ls r M cn K)) : mj_W lv k d pc ls st M cn K := by
  cases i
  case ifCond c off =>
    simp only [mj_cond] at h
    split at h
    · cases c
      · exact mj_r_if_eq hd ht h.1 h.2
      · exact mj_r_if_ne hd ht h.1 h.2
      · exact mj_r_if_lt hd ht h.1 h.2
      · exact mj_r_if_ge hd ht h.1 h.2
      · exact mj_r_if_gt hd ht h.1 h.2
      · exact mj_r_if_le hd ht h.1 h.2
    · exact h.elim
  case if_icmp c off =>
    simp only [mj_cond] at h
    split at h
    · cases c
      · exact mj_r_icmp_eq hd ht h.1 h.2
      · exact mj_r_icmp_ne hd ht h.1 h.2
      · exact mj_r_icmp_lt hd ht h.1 h.2
      · exact mj_r_icmp_ge hd ht h.1 h.2
      · exact mj_r_icmp_gt hd ht h.1 h.2
      · exact mj_r_icmp_le hd ht h.1 h.2
    · exact h.elim
  all_goals exact False.elim h
theorem mj_split {α : Type} (st : List α) (n : Nat) : st = (st.take n).reverse.reverse ++ st.drop n := by
  rw [List.reverse_reverse, List.take_append_drop]
theorem mj_tab_ok {t0 len : Nat} {ts : List Nat} {x : Int32} {df lo hi : Int} {offs : Array Int} (hd : decode (mj_c k) pc = .ok (.tableswitch df lo hi offs, len)) (h1 : lo = 0) (h2 : hi + 1 = (ts.length : Int)) (h3 : (pc : Int) + df = (t0 : Int)) (h4 : offs.toList.map (fun o => (pc : Int) + o) = ts.map (fun t : Nat => (t : Int))) (h : (x.toInt < 0 ∨ (ts.length : Int) ≤ x.toInt → mj_W lv k d t0 ls st M cn K) ∧ mj_sw x (fun t => mj_W lv k d t ls st M cn K) 0 ts) : mj_W lv k d pc ls (.int x :: st) M cn K := by
  subst h1
  by_cases hout : x.toInt < 0 ∨ (ts.length : Int) ≤ x.toInt
  · exact mj_r_tabOut hd (by omega) h3 (h.1 hout)
  · have hin : 0 ≤ x.toInt ∧ x.toInt < (ts.length : Int) := by omega
    obtain ⟨i, hi⟩ : ∃ i : Nat, x.toInt = (i : Int) := ⟨x.toInt.toNat, by omega⟩
    have hil : i < ts.length := by omega
    obtain ⟨t, ht⟩ : ∃ t, ts[i]? = some t := ⟨_, List.getElem?_eq_getElem hil⟩
    have h5 : (offs.toList.map (fun o => (pc : Int) + o))[i]? = some (t : Int) := by rw [h4, List.getElem?_map, ht]; rfl
    rw [List.getElem?_map] at h5
    cases ho : offs.toList[i]? with
    | none => rw [ho] at h5; cases h5
    | some off =>
      rw [ho] at h5
      have h6 : (pc : Int) + off = (t : Int) := Option.some.inj h5
      refine mj_r_tabIn hd (by omega) (by omega) (off := off) ?_ h6 (mj_sw_at ts 0 i t h.2 ht (by rw [hi]; simp))
      rw [hi, Int.sub_zero, Int.toNat_natCast, ← Array.getElem?_toList]
      exact ho
theorem mj_wok_of {j x : Nat} (h : mj_WN.contains (lv, mj_lv j, x) = true) : mj_wok lv (mj_lv j) x = true := mj_WN_ok _ (List.contains_iff_mem.mp h)
set_option maxHeartbeats 4000000 in
theorem mj_t_ok {kd len : Nat} {a : List Nat} {i : Instr} (hht : mj_ht k ≤ d) (hd : decode (mj_c k) pc = .ok (i, len)) (hlen : mj_tl kd len = true) (hok : mj_tok lv k kd a i pc = true) (h : mj_t lv k d kd a i pc ls st M cn K) : mj_W lv k d pc ls st M cn K := by
  unfold mj_t at h
  split at h
  · -- 1
    split at h
    · simp only [mj_tok, decide_eq_true_eq] at hok
      simp only [mj_tl, decide_eq_true_eq] at hlen
      subst hlen
      exact mj_cond_ok hd hok h (len := 0)
    · exact h.elim
  · -- 2
    split at h
    · cases i <;> simp only [mj_tok, Bool.false_eq_true] at hok
      simp only [decide_eq_true_eq] at hok
      simp only [mj_tl, decide_eq_true_eq] at hlen
      subst hlen
      exact mj_r_goto hd hok h
    · exact h.elim
  · -- 3
    simp only [mj_tok, Bool.and_eq_true, decide_eq_true_eq] at hok
    simp only [mj_tl, decide_eq_true_eq] at hlen
    obtain ⟨rfl, hr⟩ := hok
    subst hlen
    split at h
    · cases hb : Nat.ble cn (mj_mc k) with
      | false => rw [hb] at h; exact h.elim
      | true =>
        rw [hb] at h
        exact mj_r_iret hr (Nat.le_of_ble_eq_true hb) hd h
    · exact h.elim
  · -- 12
    simp only [mj_tok, Bool.and_eq_true, decide_eq_true_eq] at hok
    simp only [mj_tl, decide_eq_true_eq] at hlen
    obtain ⟨rfl, hr⟩ := hok
    subst hlen
    split at h
    · cases hb : Nat.ble cn (mj_mc k) with
      | false => rw [hb] at h; exact h.elim
      | true =>
        rw [hb] at h
        exact mj_r_zret hr (Nat.le_of_ble_eq_true hb) hd h
    · exact h.elim
  · -- 4
    simp only [mj_tok, Bool.and_eq_true, decide_eq_true_eq] at hok
    simp only [mj_tl, decide_eq_true_eq] at hlen
    obtain ⟨rfl, hr⟩ := hok
    subst hlen
    split at h
    · cases hb : Nat.ble cn (mj_mc k) with
      | false => rw [hb] at h; exact h.elim
      | true =>
        rw [hb] at h
        exact mj_r_vret hr (Nat.le_of_ble_eq_true hb) hd h
    · exact h.elim
  · -- 5
    split at h
    · rename_i j n dj
      cases i <;> simp only [mj_tok, Bool.false_eq_true] at hok
      rename_i idx
      simp only [Bool.and_eq_true, decide_eq_true_eq, List.contains_iff_mem] at hok
      obtain ⟨⟨⟨⟨⟨o1, o2⟩, o3⟩, o4⟩, o5⟩, o6⟩ := hok
      simp only [mj_tl, decide_eq_true_eq] at hlen
      subst hlen
      split at h
      · rename_i x as hst
        split at h
        · rename_i ci fs hsh
          generalize hb : (Nat.beq ci (mj_oc j) && (Nat.beq as.length n && (Nat.ble (cn + mj_mc j) (mj_mc k) && Nat.ble (st.drop (n + 1)).length 4))) = b at h
          cases b with
          | false => exact h.elim
          | true =>
            simp only [Bool.and_eq_true] at hb
            obtain ⟨b1, b2, b3, b4⟩ := hb
            obtain rfl := Nat.eq_of_beq_eq_true b1
            have e : st = as.reverse ++ .ref x :: st.drop (n + 1) := by
              have e1 := mj_split st (n + 1)
              rw [hst] at e1
              rw [List.reverse_cons, List.append_assoc] at e1
              exact e1
            rw [e]
            exact mj_r_callV hd o1 o2 o3 o4 hsh ((Nat.eq_of_beq_eq_true b2).trans o5) (by omega) (Nat.le_of_ble_eq_true b3) (Nat.le_of_ble_eq_true b4) h
        · exact h.elim
      · exact h.elim
    · exact h.elim
  · -- 6
    split at h
    · rename_i j n dj y
      cases i <;> simp only [mj_tok, Bool.false_eq_true] at hok
      rename_i idx
      simp only [Bool.and_eq_true, decide_eq_true_eq, List.contains_iff_mem] at hok
      obtain ⟨⟨⟨⟨⟨⟨o1, o2⟩, o3⟩, o4⟩, o49⟩, o5⟩, o6⟩ := hok
      simp only [mj_tl, decide_eq_true_eq] at hlen
      subst hlen
      split at h
      · rename_i x as hst
        split at h
        · rename_i ci fs hsh
          generalize hb : (Nat.beq ci (mj_oc j) && (Nat.beq as.length n && (Nat.ble (cn + mj_mc j) (mj_mc k) && (Nat.ble (st.drop (n + 1)).length 4 && (Nat.ble y x && (mj_WN.contains (lv, mj_lv j, x - y) && as.all (fun v => match v with | .int _ => true | _ => false))))))) = b at h
          cases b with
          | false => exact h.elim
          | true =>
            simp only [Bool.and_eq_true] at hb
            obtain ⟨b1, b2, b3, b4, b5, b6, b7⟩ := hb
            obtain rfl := Nat.eq_of_beq_eq_true b1
            have e : st = as.reverse ++ .ref x :: st.drop (n + 1) := by
              have e1 := mj_split st (n + 1)
              rw [hst] at e1
              rw [List.reverse_cons, List.append_assoc] at e1
              exact e1
            have b5' := Nat.le_of_ble_eq_true b5
            have exy : x = (x - y) + y := (Nat.sub_add_cancel b5').symm
            rw [e]
            have hcall := mj_r_callW (x := y) (o := x - y) hd o1 o2 o3 (fun z => absurd z o4) o49 (mj_wok_of b6) (by rw [← exy]; exact hsh) ((Nat.eq_of_beq_eq_true b2).trans o5) (fun v hv => by
              have h7 := List.all_eq_true.mp b7 v hv
              cases v <;> simp at h7
              exact ⟨_, rfl⟩) (dj := dj) (by omega) (Nat.le_of_ble_eq_true b3) (Nat.le_of_ble_eq_true b4) h
            rw [← exy] at hcall
            exact hcall
        · exact h.elim
      · exact h.elim
    · exact h.elim
  · -- 7
    split at h
    · rename_i j n dj
      cases i <;> simp only [mj_tok, Bool.false_eq_true] at hok
      rename_i idx
      simp only [Bool.and_eq_true, decide_eq_true_eq, List.contains_iff_mem] at hok
      obtain ⟨⟨⟨⟨⟨⟨o1, o2⟩, o3⟩, o4⟩, o5⟩, o6⟩, o7⟩ := hok
      simp only [mj_tl, decide_eq_true_eq] at hlen
      subst hlen
      generalize hb : (Nat.beq (st.take n).length n && (Nat.ble (cn + mj_mc j) (mj_mc k) && Nat.ble (st.drop n).length 4)) = b at h
      cases b with
      | false => exact h.elim
      | true =>
        simp only [Bool.and_eq_true] at hb
        obtain ⟨b1, b2, b3⟩ := hb
        have e := mj_split st n
        rw [e]
        exact mj_r_callS hd o1 o2 o3 o5 o4 (by rw [List.length_reverse]; exact (Nat.eq_of_beq_eq_true b1).trans o6) (by omega) (Nat.le_of_ble_eq_true b2) (Nat.le_of_ble_eq_true b3) h
    · exact h.elim
  · -- 14
    split at h
    · rename_i j n
      cases i <;> simp only [mj_tok, Bool.false_eq_true] at hok
      rename_i idx
      simp only [Bool.and_eq_true, decide_eq_true_eq, List.contains_iff_mem] at hok
      obtain ⟨⟨⟨⟨⟨⟨o1, o2⟩, o3⟩, o4⟩, o5⟩, o6⟩, o7⟩ := hok
      simp only [mj_tl, decide_eq_true_eq] at hlen
      subst hlen
      generalize hb : (Nat.beq (st.take n).length n && (Nat.ble (cn + mj_mc j) (mj_mc k) && Nat.ble (st.drop n).length 4)) = b at h
      cases b with
      | false => exact h.elim
      | true =>
        simp only [Bool.and_eq_true] at hb
        obtain ⟨b1, b2, b3⟩ := hb
        have e := mj_split st n
        rw [e]
        exact mj_r_callS hd o1 o2 o3 o5 o4 (by rw [List.length_reverse]; exact (Nat.eq_of_beq_eq_true b1).trans o6) (by omega) (Nat.le_of_ble_eq_true b2) (Nat.le_of_ble_eq_true b3) h
    · exact h.elim
  · -- 8
    split at h
    · rename_i e is ic
      cases i <;> simp only [mj_tok, Bool.false_eq_true] at hok
      rename_i ik
      simp only [Bool.and_eq_true, decide_eq_true_eq, List.any_eq_true] at hok
      obtain ⟨⟨⟨⟨⟨⟨⟨o1, o2⟩, o3⟩, o4⟩, o5⟩, o6⟩, o7⟩, o8⟩ := hok
      simp only [mj_tl, decide_eq_true_eq] at hlen
      subst hlen
      generalize hb : (Nat.ble (cn + 1) (mj_mc k) && Nat.ble st.length 4) = b at h
      cases b with
      | false => exact h.elim
      | true =>
        simp only [Bool.and_eq_true] at hb
        obtain ⟨b1, b2⟩ := hb
        obtain ⟨⟨is', tx⟩, htx, rfl⟩ := o4
        have hx : e < 3 ∧ mj_okX ik ic e = true := by
          rcases o3 with ⟨rfl, rfl, rfl⟩ | ⟨rfl, rfl, rfl⟩ | ⟨rfl, rfl, rfl⟩
          · exact ⟨by decide, mj_okX1⟩
          · exact ⟨by decide, mj_okX2⟩
          · exact ⟨by decide, mj_okX0⟩
        exact mj_r_throw hx.1 o1 o2 hx.2 htx (Nat.le_of_ble_eq_true b1) (Nat.le_of_ble_eq_true b2) hd o5 o6 o7 o8 h
    · exact h.elim
  · -- 9
    split at h
    · rename_i t0 ts
      cases i <;> simp only [mj_tok, Bool.false_eq_true] at hok
      simp only [Bool.and_eq_true, decide_eq_true_eq] at hok
      obtain ⟨⟨⟨o1, o2⟩, o3⟩, o4⟩ := hok
      split at h
      · exact mj_tab_ok hd o1 o2 o3 o4 h
      · exact h.elim
    · exact h.elim
  · -- 13
    split at h
    · rename_i n lv' v
      cases i <;> simp only [mj_tok, Bool.false_eq_true] at hok
      rename_i at_
      cases at_ <;> simp only [Bool.false_eq_true] at hok
      simp only [Bool.and_eq_true, decide_eq_true_eq] at hok
      obtain ⟨⟨⟨⟨o1, o2⟩, o3⟩, o4⟩, o5⟩ := hok
      simp only [mj_tl, decide_eq_true_eq] at hlen
      subst hlen
      obtain ⟨rfl, h1, h2⟩ := h
      exact mj_r_newI hd o1 o5 o2 o3 o4 h1 h2
    · exact h.elim
  · -- 15
    split at h
    · rename_i j n dj o
      cases i <;> simp only [mj_tok, Bool.false_eq_true] at hok
      rename_i idx
      simp only [Bool.and_eq_true, decide_eq_true_eq, List.contains_iff_mem] at hok
      obtain ⟨⟨⟨⟨⟨⟨⟨⟨o1, o2⟩, o3⟩, o4⟩, o49⟩, o45⟩, o5⟩, o6⟩, o7⟩ := hok
      simp only [mj_tl, decide_eq_true_eq] at hlen
      subst hlen
      obtain ⟨hmc, h⟩ := h
      generalize hb : (Nat.beq (st.take n).length n && (Nat.ble (st.drop n).length 4 && (st.take n).all (mj_ge o))) = b at h
      cases b with
      | false => exact h.elim
      | true =>
        simp only [Bool.and_eq_true] at hb
        obtain ⟨b1, b3, b4⟩ := hb
        have e := mj_split st n
        have e2 : (((st.take n).reverse.map (mj_un o)).map (mj_sv_ o)).reverse = st.take n := by
          rw [mj_un_ok (by rw [List.all_reverse]; exact b4), List.reverse_reverse]
        rw [List.reverse_reverse] at e
        rw [e, ← e2]
        refine mj_r_callSW hd o1 o2 o3 o5 o4 o49 (mj_wok_of (by rw [List.contains_iff_mem]; exact o45)) (by rw [List.length_map, List.length_reverse]; exact (Nat.eq_of_beq_eq_true b1).trans o6) (dj := dj) (by omega) hmc (Nat.le_of_ble_eq_true b3) ?_
        exact h
    · exact h.elim
  · -- 26
    split at h
    · rename_i j n dj y
      cases i <;> simp only [mj_tok, Bool.false_eq_true] at hok
      rename_i idx
      simp only [Bool.and_eq_true, decide_eq_true_eq, List.contains_iff_mem] at hok
      obtain ⟨⟨⟨⟨⟨⟨o1, o2⟩, o3⟩, o4⟩, o49⟩, o5⟩, o6⟩ := hok
      simp only [mj_tl, decide_eq_true_eq] at hlen
      subst hlen
      split at h
      · rename_i x as hst
        split at h
        · rename_i ci fs hsh
          obtain ⟨hmc, h⟩ := h
          generalize hb : (Nat.beq ci (mj_oc j) && (Nat.beq as.length n && (Nat.ble (st.drop (n + 1)).length 4 && (Nat.ble y x && (mj_WN.contains (lv, mj_lv j, x - y) && as.all (fun v => match v with | .int _ => true | _ => false)))))) = b at h
          cases b with
          | false => exact h.elim
          | true =>
            simp only [Bool.and_eq_true] at hb
            obtain ⟨b1, b2, b4, b5, b6, b7⟩ := hb
            obtain rfl := Nat.eq_of_beq_eq_true b1
            have e : st = as.reverse ++ .ref x :: st.drop (n + 1) := by
              have e1 := mj_split st (n + 1)
              rw [hst] at e1
              rw [List.reverse_cons, List.append_assoc] at e1
              exact e1
            have b5' := Nat.le_of_ble_eq_true b5
            have exy : x = (x - y) + y := (Nat.sub_add_cancel b5').symm
            rw [e]
            have hcall := mj_r_callW (x := y) (o := x - y) hd o1 o2 o3 o4 o49 (mj_wok_of b6) (by rw [← exy]; exact hsh) ((Nat.eq_of_beq_eq_true b2).trans o5) (fun v hv => by
              have h7 := List.all_eq_true.mp b7 v hv
              cases v <;> simp at h7
              exact ⟨_, rfl⟩) (dj := dj) (by omega) hmc (Nat.le_of_ble_eq_true b4) h
            rw [← exy] at hcall
            exact hcall
        · exact h.elim
      · exact h.elim
    · exact h.elim
  · -- 27
    split at h
    · rename_i j n dj
      cases i <;> simp only [mj_tok, Bool.false_eq_true] at hok
      rename_i idx
      simp only [Bool.and_eq_true, decide_eq_true_eq, List.contains_iff_mem] at hok
      obtain ⟨⟨⟨⟨⟨⟨o1, o2⟩, o3⟩, o4⟩, o5⟩, o6⟩, o7⟩ := hok
      simp only [mj_tl, decide_eq_true_eq] at hlen
      subst hlen
      obtain ⟨hmc, h⟩ := h
      generalize hb : (Nat.beq (st.take n).length n && (Nat.ble (st.drop n).length 4)) = b at h
      cases b with
      | false => exact h.elim
      | true =>
        simp only [Bool.and_eq_true] at hb
        obtain ⟨b1, b3⟩ := hb
        have e := mj_split st n
        rw [e]
        exact mj_r_callS hd o1 o2 o3 o5 o4 (by rw [List.length_reverse]; exact (Nat.eq_of_beq_eq_true b1).trans o6) (by omega) hmc (Nat.le_of_ble_eq_true b3) h
    · exact h.elim
  · -- 16
    simp only [mj_tok, Bool.and_eq_true, decide_eq_true_eq] at hok
    simp only [mj_tl, decide_eq_true_eq] at hlen
    obtain ⟨rfl, hr⟩ := hok
    subst hlen
    split at h
    · exact mj_r_iret hr h.1 hd h.2
    · exact h.elim
  · -- 17
    simp only [mj_tok, Bool.and_eq_true, decide_eq_true_eq] at hok
    simp only [mj_tl, decide_eq_true_eq] at hlen
    obtain ⟨rfl, hr⟩ := hok
    subst hlen
    split at h
    · exact mj_r_zret hr h.1 hd h.2
    · exact h.elim
  · -- 18
    simp only [mj_tok, Bool.and_eq_true, decide_eq_true_eq] at hok
    simp only [mj_tl, decide_eq_true_eq] at hlen
    obtain ⟨rfl, hr⟩ := hok
    subst hlen
    split at h
    · exact mj_r_vret hr h.1 hd h.2
    · exact h.elim
  · exact h.elim
set_option maxHeartbeats 4000000 in
/-- A BLOCK, run at once -/
theorem mj_go_ok (hht : mj_ht k ≤ d) : ∀ (b : List mj_I) (pc : Nat) (ls : List (Option Value)) (st : List Value) (M : mj_M) (cn : Nat) (K : mj_K), mj_ok lv k pc b = true → mj_go lv k d b pc ls st M cn K → mj_W lv k d pc ls st M cn K
  | [], pc, ls, st, M, cn, K, _, h => h
  | (i, len, kd, a) :: r, pc, ls, st, M, cn, K, hok, h => by
    unfold mj_ok at hok
    rw [Bool.and_eq_true, decide_eq_true_eq] at hok
    obtain ⟨hd, hok⟩ := hok
    unfold mj_go at h
    split at h
    · -- 0
      simp only [Bool.and_eq_true, decide_eq_true_eq] at hok
      obtain ⟨⟨o1, o2⟩, o3⟩ := hok
      subst o1
      refine mj_s_ok hd o2 ?_
      exact mj_s_mono (fun ls st M h2 => mj_go_ok hht r _ ls st M cn K o3 h2) h
    · -- 10
      simp only [Bool.and_eq_true, decide_eq_true_eq] at hok
      obtain ⟨⟨o1, rfl⟩, o3⟩ := hok
      cases i <;> simp only [Bool.false_eq_true] at o1
      split at h
      · rename_i y x s
        generalize hb : (Nat.ble cn (mj_mc k) && Nat.ble s.length 4) = b at h
        cases b with
        | false => exact h.elim
        | true =>
          simp only [Bool.and_eq_true] at hb
          exact mj_r_min (List.contains_iff_mem.mp o1) (Nat.le_of_ble_eq_true hb.1) (Nat.le_of_ble_eq_true hb.2) hd (mj_go_ok hht r _ _ _ M cn K o3 h)
      · exact h.elim
    · -- 11
      simp only [Bool.and_eq_true, decide_eq_true_eq] at hok
      obtain ⟨⟨o1, rfl⟩, o3⟩ := hok
      cases i <;> simp only [Bool.false_eq_true] at o1
      split at h
      · rename_i y x s
        generalize hb : (Nat.ble cn (mj_mc k) && Nat.ble s.length 4) = b at h
        cases b with
        | false => exact h.elim
        | true =>
          simp only [Bool.and_eq_true] at hb
          exact mj_r_max (List.contains_iff_mem.mp o1) (Nat.le_of_ble_eq_true hb.1) (Nat.le_of_ble_eq_true hb.2) hd (mj_go_ok hht r _ _ _ M cn K o3 h)
      · exact h.elim
    · rename_i h0 h10 h11
      have hok' : (mj_tl kd len && mj_tok lv k kd a i pc) = true := by
        split at hok
        · exact absurd rfl (h0 · )
        · exact absurd rfl (h10 · )
        · exact absurd rfl (h11 · )
        · exact hok
      rw [Bool.and_eq_true] at hok'
      exact mj_t_ok hht hd hok'.1 hok'.2 h
end MJ
end
