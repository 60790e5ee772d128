-- a new row of ints
section MJN
variable {lv k d pc cn : Nat} {ls : List (Option Value)} {st rest : List Value} {M : mj_M} {K : mj_K}
theorem mj_w_push {cA : Nat → ClassId} {ad : Nat → Nat} {M : mj_M} {Sh : List mj_D} {n q : Nat} (hr : ∀ (k : Nat) (o : Nat × List (Option Nat)), Sh[k]? = some (.inl o) → ∀ x, some x ∈ o.2 → x < Sh.length) : mj_w cA ad M Sh ++ [(q, .inl (cA 0, n, .inl fun _ => 0))] = mj_w cA (fun i => if i = Sh.length then q else ad i) (mj_z0 M Sh.length) (Sh ++ [.inr (0, n)]) := by
  apply List.ext_getElem?
  intro i
  rcases Nat.lt_trichotomy i Sh.length with h | h | h
  · rw [List.getElem?_append_left (by rw [mj_w_len]; exact h), mj_w_get, mj_w_get, List.getElem?_append_left h]
    cases hd : Sh[i]? with
    | none => rfl
    | some d =>
      simp only [Option.map_some]
      rw [if_neg (by omega)]
      congr 2
      cases d with
      | inl o =>
        obtain ⟨ci, fs⟩ := o
        have h0 := hr i _ hd
        simp only [mj_e, mj_z0]
        rw [if_neg (by omega)]
        congr 2
        apply List.ext_getElem?
        intro j
        rw [mj_f_get, mj_f_get]
        cases hq : fs[j]? with
        | none => rfl
        | some z =>
          cases z with
          | none => rfl
          | some x =>
            have := h0 x (List.mem_of_getElem? hq)
            simp only [Option.map_some]
            rw [if_neg (by omega)]
      | inr a =>
        obtain ⟨t, m⟩ := a
        simp only [mj_e, mj_z0]
        rw [if_neg (by omega)]
  · subst h
    rw [List.getElem?_append_right (by rw [mj_w_len]; omega), mj_w_get, List.getElem?_append_right (Nat.le_refl _), mj_w_len, Nat.sub_self]
    simp [mj_e, mj_z0]
  · rw [List.getElem?_eq_none (by simp [mj_w_len]; omega), List.getElem?_eq_none (by simp [mj_w_len]; omega)]
theorem mj_Sh_in : ∀ lv, lv < 10 → ∀ (k : Nat) (o : Nat × List (Option Nat)), (mj_Sh lv)[k]? = some (.inl o) → ∀ x, some x ∈ o.2 → x < (mj_Sh lv).length := by
  have key : ∀ lv, lv < 10 → (mj_Sh lv).all (fun d => match d with | .inl o => o.2.all (fun z => match z with | some x => Nat.ble (x + 1) (mj_Sh lv).length | none => true) | .inr _ => true) = true := by decide +kernel
  intro lv hlv k o hk x hx
  have h1 := List.all_eq_true.mp (key lv hlv) _ (List.mem_of_getElem? hk)
  have h2 := List.all_eq_true.mp h1 _ hx
  exact Nat.le_of_ble_eq_true h2
theorem mj_arrI : Cond.arrayClass .int ∈ mj_G := mj_inG (List.mem_of_getElem? (i := 103) (by decide +kernel)) rfl
theorem mj_wmono {p : Program} {l : Launch} {e : Env} {R : Room} {s : State} {m : MethodId} {args : Array Value} {below : List Frame} {meth : Method} {c : Code} {H : Heap} {locs : List Loc} {cells slots : Nat} {Q Q' : State → Prop} {g : JFrame} (hQ : ∀ t, Q t → Q' t) (h : W p l e R s m args below meth c H locs cells slots Q g) : W p l e R s m args below meth c H locs cells slots Q' g := by
  intro T hT X
  obtain ⟨t, a, b⟩ := h T hT X
  exact ⟨t, a, hQ t b⟩
theorem mj_MQ_mono {below : List Frame} {Qc Qc' : Array Value → State → Outcome → State → Prop} {XC XC' : String → State → State → Prop} {a : Array Value} {s : State} {mc ms : Nat} {free free' : Addr → Prop} (h1 : ∀ a s o t, Qc a s o t → Qc' a s o t) (h2 : ∀ E s t, XC E s t → XC' E s t) (h3 : ∀ q, free q → free' q) (t : State) (h : vx_MQ below Qc XC a s mc ms free t) : vx_MQ below Qc' XC' a s mc ms free' t := by
  obtain ⟨o, g1, g2, g3⟩ := h
  refine ⟨o, g1, g2, ?_⟩
  rcases g3 with ⟨b1, L, b2, b3⟩ | ⟨q, rfl, E, ce, locs, b1, b2, b3, b4, b5, b6, b7⟩
  · exact Or.inl ⟨h1 _ _ _ _ b1, L, b2, fun z hz => h3 _ (b3 z hz)⟩
  · exact Or.inr ⟨q, rfl, E, ce, locs, h2 _ _ _ b1, b2, b3, b4, b5, b6, fun z hz => h3 _ (b7 z hz)⟩
theorem mj_A_push {ad : Nat → Nat} {n q sz : Nat} (hq : sz ≤ q) : mj_A (fun i => if i = n then q else ad i) (n + 1) sz = mj_A ad n sz := by
  funext x
  apply propext
  constructor
  · rintro (⟨k, hk, e⟩ | h)
    · by_cases hkn : k = n
      · subst hkn
        simp only [if_true] at e
        exact Or.inr (by omega)
      · simp only [if_neg hkn] at e
        exact Or.inl ⟨k, by omega, e⟩
    · exact Or.inr h
  · rintro (⟨k, hk, e⟩ | h)
    · exact Or.inl ⟨k, by omega, by simp only [if_neg (show ¬ k = n by omega)]; exact e⟩
    · exact Or.inr h
theorem mj_Bdrop {D : va_G} {cA : Nat → ClassId} {ad : Nat → Nat} {Sh Sh' : List mj_D} {n q : Nat} (hsh : Sh' = Sh ++ [.inr (0, n)]) (hr : ∀ (k : Nat) (o : Nat × List (Option Nat)), Sh[k]? = some (.inl o) → ∀ x, some x ∈ o.2 → x < Sh.length) (u : mj_M) (t : State) (h : mj_B D cA (fun i => if i = Sh.length then q else ad i) Sh' u t) : mj_B D cA ad Sh u t := by
  intro i x hx
  have hl := (List.getElem?_eq_some_iff.mp hx).1
  rw [mj_w_len] at hl
  refine h i x ?_
  rw [← hx, mj_w_get, mj_w_get, hsh, List.getElem?_append_left hl]
  cases hd : Sh[i]? with
  | none => rfl
  | some d =>
    simp only [Option.map_some]
    rw [if_neg (by omega)]
    congr 2
    cases d with
    | inl o =>
      obtain ⟨ci, fs⟩ := o
      have h0 := hr i _ hd
      simp only [mj_e]
      congr 2
      apply List.ext_getElem?
      intro j
      rw [mj_f_get, mj_f_get]
      cases hq : fs[j]? with
      | none => rfl
      | some z =>
        cases z with
        | none => rfl
        | some x =>
          have := h0 x (List.mem_of_getElem? hq)
          simp only [Option.map_some]
          rw [if_neg (by omega)]
    | inr a => rfl
set_option maxHeartbeats 4000000 in
theorem mj_r_newI {lv' n : Nat} (hd : decode (mj_c k) pc = .ok (.newarray .int, 2)) (hsh : mj_Sh lv' = mj_Sh lv ++ [.inr (0, n)]) (hlv : lv < 10) (h9 : lv' < 9) (h2' : lv' ≠ 2) (hn : n ≤ 64) (hmc : cn + 1 ≤ mj_mc k) (h : mj_W lv' k d (pc + 2) (ls.map (mj_fo (mj_Sh lv).length)) [.ref (mj_Sh lv).length] (mj_z0 M (mj_Sh lv).length) (cn + 1) K) : mj_W lv k d pc ls [.int (nI n)] M cn K := by
  intro p l e s m args below meth c D cA ad C H locs lsA hl hP hS
  obtain ⟨hx, hlt, hb, hml, hown, hts, hret, hlk, htab, hinj, hK, hX⟩ := id C
  have hv0 : ¬ nI n < 0 := nI_pos (by omega)
  have hcl : (nI n).toNatClampNeg = n := nI_clamp (by omega)
  refine va_newa (atype := .int) (ty := .int) (N' := n) (a0 := (n, .inl fun _ => 0)) hx hb (hts _ mj_arrI) rfl hK hP (mj_D_of hinj) hS (fun q hq => Or.inr hq) (fun _ => rfl) hv0 hcl (by show n * 4 ≤ 536870912; omega) (by show cn + 1 ≤ mj_mc k; exact hmc) (by show 64 * cn + n ≤ 64 * mj_mc k; omega) hd (fun q cB H1 hK1 hP1 hD1 hS1 => ?_)
  have hcB : cB = cA 0 := by
    have e1 := (hK1.2 2 (cB, .int) rfl).2
    have e2 := (hK.2 0 (cA 0, .int) rfl).2
    exact Option.some.inj (Eq.trans (Eq.symm e1) e2)
  subst hcB
  have hpush := mj_w_push (cA := cA) (ad := ad) (M := M) (Sh := mj_Sh lv) (n := n) (q := q) (mj_Sh_in lv hlv)
  rw [hpush, ← hsh] at hP1 hD1
  have hlen : (mj_Sh lv').length = (mj_Sh lv).length + 1 := by rw [hsh]; simp
  have hinj' : mj_inj (fun i => if i = (mj_Sh lv).length then q else ad i) (mj_Sh lv').length := by
    intro i j hi hj hij
    have g : ∀ i, i < (mj_Sh lv').length → ∃ d, (mj_Sh lv')[i]? = some d := fun i hi => ⟨_, List.getElem?_eq_getElem hi⟩
    obtain ⟨d1, e1⟩ := g i hi
    obtain ⟨d2, e2⟩ := g j hj
    exact hD1.1 i j _ _ (mj_w_some e1) (mj_w_some e2) hij
  have hq : s.heap.size ≤ q := by
    have h1 := hD1.2 (mj_Sh lv).length (q, mj_e cA (fun i => if i = (mj_Sh lv).length then q else ad i) (mj_z0 M (mj_Sh lv).length) (mj_Sh lv).length (.inr (0, n))) (by
      rw [mj_w_get, hsh, List.getElem?_append_right (Nat.le_refl _), Nat.sub_self]
      simp)
    rcases h1 with ⟨i, hi, e⟩ | h1
    · exfalso
      have := hinj' i (mj_Sh lv).length (by omega) (by omega) (by
        show (if i = (mj_Sh lv).length then q else ad i) = (if (mj_Sh lv).length = (mj_Sh lv).length then q else ad (mj_Sh lv).length)
        rw [if_neg (by omega), if_pos rfl]; exact e.symm)
      omega
    · exact h1
  have hA : mj_A (fun i => if i = (mj_Sh lv).length then q else ad i) (mj_Sh lv').length s.heap.size = mj_A ad (mj_Sh lv).length s.heap.size := by
    rw [hlen]
    exact mj_A_push hq
  have hC : mj_C lv' k p l s m args meth c D cA (fun i => if i = (mj_Sh lv).length then q else ad i) := ⟨hx, hlt, hb, hml, hown, hts, hret, hlk, htab, hinj', hK, mj_X.of h2' (by omega)⟩
  have hL' : mj_L (fun i => if i = (mj_Sh lv).length then q else ad i) lsA (mj_n k) (ls.map (mj_fo (mj_Sh lv).length)) := by
    refine ⟨hl.1, by rw [List.length_map]; exact hl.2.1, hl.2.2.1, fun i v hv => ?_⟩
    rw [List.getElem?_map] at hv
    cases ho : ls[i]? with
    | none => rw [ho] at hv; cases hv
    | some o =>
      rw [ho] at hv
      simp only [Option.map_some, Option.some.injEq] at hv
      cases o with
      | none => cases hv
      | some w =>
        have h1 := hl.2.2.2 i w ho
        cases w with
        | ref x =>
          simp only [mj_fo] at hv
          cases hz : Nat.beq x (mj_Sh lv).length with
          | true => rw [hz] at hv; cases hv
          | false =>
            rw [hz] at hv
            cases hv
            refine ⟨h1.1, ?_⟩
            rw [h1.2]
            have hne : ¬ x = (mj_Sh lv).length := fun e => by rw [e] at hz; simp at hz
            simp only [mj_tr]
            rw [if_neg hne]
        | _ => cases hv; exact h1
  have h0 := h p l e s m args below meth c D cA (fun i => if i = (mj_Sh lv).length then q else ad i) hC H1 locs lsA hL' hP1 (by rw [hA]; exact hS1)
  refine W.widen (k := cn + 1) (n := 64 * (cn + 1)) (Nat.le_refl _) (by omega) ?_
  have h00 : (mj_tr (fun i => if i = (mj_Sh lv).length then q else ad i) (.ref (mj_Sh lv).length)) = .ref q := by
    simp [mj_tr]
  rw [List.map_cons, h00, List.map_nil, hA] at h0
  refine mj_wmono (mj_MQ_mono (fun a s o t hq => ?_) (fun E s t hq => ?_) (fun q h => h)) h0
  · have hB : ∀ (u : mj_M) (t : State), mj_B D cA (fun i => if i = (mj_Sh lv).length then q else ad i) (mj_Sh lv') u t → mj_B D cA ad (mj_Sh lv) u t := mj_Bdrop hsh (mj_Sh_in lv hlv)
    unfold mj_Q at hq ⊢
    cases hr : mj_r k with
    | none =>
      rw [hr] at hq
      obtain ⟨⟨u, b1, b2, b3⟩, b4⟩ := hq
      exact ⟨⟨u, b1, b2, hB u t b3⟩, b4⟩
    | some r =>
      rw [hr] at hq
      obtain ⟨⟨v, u, b1, b2, b3⟩, b4⟩ := hq
      exact ⟨⟨v, u, b1, b2, hB u t b3⟩, b4⟩
  · obtain ⟨u, b1, ⟨b2, b3⟩, b4⟩ := hq
    exact ⟨u, b1, ⟨b2, mj_Bdrop hsh (mj_Sh_in lv hlv) u.2 t b3⟩, b4⟩
end MJN
section MJ
variable {lv k d pc cn : Nat} {ls : List (Option Value)} {st rest : List Value} {M : mj_M} {K : mj_K}
theorem mj_s_mono {i : Instr} {a : List Nat} {Φ Ψ : List (Option Value) → List Value → mj_M → Prop} (hm : ∀ ls st M, Φ ls st M → Ψ ls st M) (h : mj_s lv i a ls st M Φ) : mj_s lv i a ls st M Ψ := by
  unfold mj_s at h ⊢
  repeat' split at h
  all_goals first
    | exact hm _ _ _ h
    | exact ⟨h.1, hm _ _ _ h.2⟩
    | exact h.elim
    | (simp only [Bool.cond_eq_ite] at h ⊢
       split at h <;> rename_i hb <;> first
         | (rw [if_pos hb]; exact hm _ _ _ h)
         | (rw [if_pos hb]; exact ⟨h.1, hm _ _ _ h.2⟩)
         | exact h.elim)
theorem mj_cond_ok {i : Instr} {tgt len : Nat} (hd : decode (mj_c k) pc = .ok (i, 3)) (ht : (pc : Int) + mj_off i = (tgt : Int)) (h : mj_cond i st (fun r => mj_W lv k d tgt ls r M cn K) (fun r => mj_W lv k d (pc + 3) ls r M cn K)) : mj_W lv k d pc ls st M cn K := by
  cases i
  case ifCond c off =>
    simp only [mj_cond] at h
    split at h
    · cases c
      · exact mj_r_if_eq hd ht h.1 h.2
      · exact mj_r_if_ne hd ht h.1 h.2
      · exact mj_r_if_lt hd ht h.1 h.2
      · exact mj_r_if_ge hd ht h.1 h.2
      · exact mj_r_if_gt hd ht h.1 h.2
      · exact mj_r_if_le hd ht h.1 h.2
    · exact h.elim
  case if_icmp c off =>
    simp only [mj_cond] at h
    split at h
    · cases c
      · exact mj_r_icmp_eq hd ht h.1 h.2
      · exact mj_r_icmp_ne hd ht h.1 h.2
      · exact mj_r_icmp_lt hd ht h.1 h.2
      · exact mj_r_icmp_ge hd ht h.1 h.2
      · exact mj_r_icmp_gt hd ht h.1 h.2
      · exact mj_r_icmp_le hd ht h.1 h.2
    · exact h.elim
  all_goals exact False.elim h
theorem mj_split {α : Type} (st : List α) (n : Nat) : st = (st.take n).reverse.reverse ++ st.drop n := by
  rw [List.reverse_reverse, List.take_append_drop]
theorem mj_tab_ok {t0 len : Nat} {ts : List Nat} {x : Int32} {df lo hi : Int} {offs : Array Int} (hd : decode (mj_c k) pc = .ok (.tableswitch df lo hi offs, len)) (h1 : lo = 0) (h2 : hi + 1 = (ts.length : Int)) (h3 : (pc : Int) + df = (t0 : Int)) (h4 : offs.toList.map (fun o => (pc : Int) + o) = ts.map (fun t : Nat => (t : Int))) (h : (x.toInt < 0 ∨ (ts.length : Int) ≤ x.toInt → mj_W lv k d t0 ls st M cn K) ∧ mj_sw x (fun t => mj_W lv k d t ls st M cn K) 0 ts) : mj_W lv k d pc ls (.int x :: st) M cn K := by
  subst h1
  by_cases hout : x.toInt < 0 ∨ (ts.length : Int) ≤ x.toInt
  · exact mj_r_tabOut hd (by omega) h3 (h.1 hout)
  · have hin : 0 ≤ x.toInt ∧ x.toInt < (ts.length : Int) := by omega
    obtain ⟨i, hi⟩ : ∃ i : Nat, x.toInt = (i : Int) := ⟨x.toInt.toNat, by omega⟩
    have hil : i < ts.length := by omega
    obtain ⟨t, ht⟩ : ∃ t, ts[i]? = some t := ⟨_, List.getElem?_eq_getElem hil⟩
    have h5 : (offs.toList.map (fun o => (pc : Int) + o))[i]? = some (t : Int) := by rw [h4, List.getElem?_map, ht]; rfl
    rw [List.getElem?_map] at h5
    cases ho : offs.toList[i]? with
    | none => rw [ho] at h5; cases h5
    | some off =>
      rw [ho] at h5
      have h6 : (pc : Int) + off = (t : Int) := Option.some.inj h5
      refine mj_r_tabIn hd (by omega) (by omega) (off := off) ?_ h6 (mj_sw_at ts 0 i t h.2 ht (by rw [hi]; simp))
      rw [hi, Int.sub_zero, Int.toNat_natCast, ← Array.getElem?_toList]
      exact ho
theorem mj_wok_of {j x : Nat} (h : mj_WN.contains (lv, mj_lv j, x) = true) : mj_wok lv (mj_lv j) x = true := mj_WN_ok _ (List.contains_iff_mem.mp h)
set_option maxHeartbeats 4000000 in
theorem mj_t_ok {kd len : Nat} {a : List Nat} {i : Instr} (hht : mj_ht k ≤ d) (hd : decode (mj_c k) pc = .ok (i, len)) (hlen : mj_tl kd len = true) (hok : mj_tok lv k kd a i pc = true) (h : mj_t lv k d kd a i pc ls st M cn K) : mj_W lv k d pc ls st M cn K := by
  unfold mj_t at h
  split at h
  · -- 1
    split at h
    · simp only [mj_tok, decide_eq_true_eq] at hok
      simp only [mj_tl, decide_eq_true_eq] at hlen
      subst hlen
      exact mj_cond_ok hd hok h (len := 0)
    · exact h.elim
  · -- 2
    split at h
    · cases i <;> simp only [mj_tok, Bool.false_eq_true] at hok
      simp only [decide_eq_true_eq] at hok
      simp only [mj_tl, decide_eq_true_eq] at hlen
      subst hlen
      exact mj_r_goto hd hok h
    · exact h.elim
  · -- 3
    simp only [mj_tok, Bool.and_eq_true, decide_eq_true_eq] at hok
    simp only [mj_tl, decide_eq_true_eq] at hlen
    obtain ⟨rfl, hr⟩ := hok
    subst hlen
    split at h
    · cases hb : Nat.ble cn (mj_mc k) with
      | false => rw [hb] at h; exact h.elim
      | true =>
        rw [hb] at h
        exact mj_r_iret hr (Nat.le_of_ble_eq_true hb) hd h
    · exact h.elim
  · -- 12
    simp only [mj_tok, Bool.and_eq_true, decide_eq_true_eq] at hok
    simp only [mj_tl, decide_eq_true_eq] at hlen
    obtain ⟨rfl, hr⟩ := hok
    subst hlen
    split at h
    · cases hb : Nat.ble cn (mj_mc k) with
      | false => rw [hb] at h; exact h.elim
      | true =>
        rw [hb] at h
        exact mj_r_zret hr (Nat.le_of_ble_eq_true hb) hd h
    · exact h.elim
  · -- 4
    simp only [mj_tok, Bool.and_eq_true, decide_eq_true_eq] at hok
    simp only [mj_tl, decide_eq_true_eq] at hlen
    obtain ⟨rfl, hr⟩ := hok
    subst hlen
    split at h
    · cases hb : Nat.ble cn (mj_mc k) with
      | false => rw [hb] at h; exact h.elim
      | true =>
        rw [hb] at h
        exact mj_r_vret hr (Nat.le_of_ble_eq_true hb) hd h
    · exact h.elim
  · -- 5
    split at h
    · rename_i j n dj
      cases i <;> simp only [mj_tok, Bool.false_eq_true] at hok
      rename_i idx
      simp only [Bool.and_eq_true, decide_eq_true_eq, List.contains_iff_mem] at hok
      obtain ⟨⟨⟨⟨⟨o1, o2⟩, o3⟩, o4⟩, o5⟩, o6⟩ := hok
      simp only [mj_tl, decide_eq_true_eq] at hlen
      subst hlen
      split at h
      · rename_i x as hst
        split at h
        · rename_i ci fs hsh
          generalize hb : (Nat.beq ci (mj_oc j) && (Nat.beq as.length n && (Nat.ble (cn + mj_mc j) (mj_mc k) && Nat.ble (st.drop (n + 1)).length 4))) = b at h
          cases b with
          | false => exact h.elim
          | true =>
            simp only [Bool.and_eq_true] at hb
            obtain ⟨b1, b2, b3, b4⟩ := hb
            obtain rfl := Nat.eq_of_beq_eq_true b1
            have e : st = as.reverse ++ .ref x :: st.drop (n + 1) := by
              have e1 := mj_split st (n + 1)
              rw [hst] at e1
              rw [List.reverse_cons, List.append_assoc] at e1
              exact e1
            rw [e]
            exact mj_r_callV hd o1 o2 o3 o4 hsh ((Nat.eq_of_beq_eq_true b2).trans o5) (by omega) (Nat.le_of_ble_eq_true b3) (Nat.le_of_ble_eq_true b4) h
        · exact h.elim
      · exact h.elim
    · exact h.elim
  · -- 6
    split at h
    · rename_i j n dj y
      cases i <;> simp only [mj_tok, Bool.false_eq_true] at hok
      rename_i idx
      simp only [Bool.and_eq_true, decide_eq_true_eq, List.contains_iff_mem] at hok
      obtain ⟨⟨⟨⟨⟨⟨o1, o2⟩, o3⟩, o4⟩, o49⟩, o5⟩, o6⟩ := hok
      simp only [mj_tl, decide_eq_true_eq] at hlen
      subst hlen
      split at h
      · rename_i x as hst
        split at h
        · rename_i ci fs hsh
          generalize hb : (Nat.beq ci (mj_oc j) && (Nat.beq as.length n && (Nat.ble (cn + mj_mc j) (mj_mc k) && (Nat.ble (st.drop (n + 1)).length 4 && (Nat.ble y x && (mj_WN.contains (lv, mj_lv j, x - y) && as.all (fun v => match v with | .int _ => true | _ => false))))))) = b at h
          cases b with
          | false => exact h.elim
          | true =>
            simp only [Bool.and_eq_true] at hb
            obtain ⟨b1, b2, b3, b4, b5, b6, b7⟩ := hb
            obtain rfl := Nat.eq_of_beq_eq_true b1
            have e : st = as.reverse ++ .ref x :: st.drop (n + 1) := by
              have e1 := mj_split st (n + 1)
              rw [hst] at e1
              rw [List.reverse_cons, List.append_assoc] at e1
              exact e1
            have b5' := Nat.le_of_ble_eq_true b5
            have exy : x = (x - y) + y := (Nat.sub_add_cancel b5').symm
            rw [e]
            have hcall := mj_r_callW (x := y) (o := x - y) hd o1 o2 o3 (fun z => absurd z o4) o49 (mj_wok_of b6) (by rw [← exy]; exact hsh) ((Nat.eq_of_beq_eq_true b2).trans o5) (fun v hv => by
              have h7 := List.all_eq_true.mp b7 v hv
              cases v <;> simp at h7
              exact ⟨_, rfl⟩) (dj := dj) (by omega) (Nat.le_of_ble_eq_true b3) (Nat.le_of_ble_eq_true b4) h
            rw [← exy] at hcall
            exact hcall
        · exact h.elim
      · exact h.elim
    · exact h.elim
  · -- 7
    split at h
    · rename_i j n dj
      cases i <;> simp only [mj_tok, Bool.false_eq_true] at hok
      rename_i idx
      simp only [Bool.and_eq_true, decide_eq_true_eq, List.contains_iff_mem] at hok
      obtain ⟨⟨⟨⟨⟨⟨o1, o2⟩, o3⟩, o4⟩, o5⟩, o6⟩, o7⟩ := hok
      simp only [mj_tl, decide_eq_true_eq] at hlen
      subst hlen
      generalize hb : (Nat.beq (st.take n).length n && (Nat.ble (cn + mj_mc j) (mj_mc k) && Nat.ble (st.drop n).length 4)) = b at h
      cases b with
      | false => exact h.elim
      | true =>
        simp only [Bool.and_eq_true] at hb
        obtain ⟨b1, b2, b3⟩ := hb
        have e := mj_split st n
        rw [e]
        exact mj_r_callS hd o1 o2 o3 o5 o4 (by rw [List.length_reverse]; exact (Nat.eq_of_beq_eq_true b1).trans o6) (by omega) (Nat.le_of_ble_eq_true b2) (Nat.le_of_ble_eq_true b3) h
    · exact h.elim
  · -- 14
    split at h
    · rename_i j n
      cases i <;> simp only [mj_tok, Bool.false_eq_true] at hok
      rename_i idx
      simp only [Bool.and_eq_true, decide_eq_true_eq, List.contains_iff_mem] at hok
      obtain ⟨⟨⟨⟨⟨⟨o1, o2⟩, o3⟩, o4⟩, o5⟩, o6⟩, o7⟩ := hok
      simp only [mj_tl, decide_eq_true_eq] at hlen
      subst hlen
      generalize hb : (Nat.beq (st.take n).length n && (Nat.ble (cn + mj_mc j) (mj_mc k) && Nat.ble (st.drop n).length 4)) = b at h
      cases b with
      | false => exact h.elim
      | true =>
        simp only [Bool.and_eq_true] at hb
        obtain ⟨b1, b2, b3⟩ := hb
        have e := mj_split st n
        rw [e]
        exact mj_r_callS hd o1 o2 o3 o5 o4 (by rw [List.length_reverse]; exact (Nat.eq_of_beq_eq_true b1).trans o6) (by omega) (Nat.le_of_ble_eq_true b2) (Nat.le_of_ble_eq_true b3) h
    · exact h.elim
  · -- 8
    split at h
    · rename_i e is ic
      cases i <;> simp only [mj_tok, Bool.false_eq_true] at hok
      rename_i ik
      simp only [Bool.and_eq_true, decide_eq_true_eq, List.any_eq_true] at hok
      obtain ⟨⟨⟨⟨⟨⟨⟨o1, o2⟩, o3⟩, o4⟩, o5⟩, o6⟩, o7⟩, o8⟩ := hok
      simp only [mj_tl, decide_eq_true_eq] at hlen
      subst hlen
      generalize hb : (Nat.ble (cn + 1) (mj_mc k) && Nat.ble st.length 4) = b at h
      cases b with
      | false => exact h.elim
      | true =>
        simp only [Bool.and_eq_true] at hb
        obtain ⟨b1, b2⟩ := hb
        obtain ⟨⟨is', tx⟩, htx, rfl⟩ := o4
        have hx : e < 3 ∧ mj_okX ik ic e = true := by
          rcases o3 with ⟨rfl, rfl, rfl⟩ | ⟨rfl, rfl, rfl⟩ | ⟨rfl, rfl, rfl⟩
          · exact ⟨by decide, mj_okX1⟩
          · exact ⟨by decide, mj_okX2⟩
          · exact ⟨by decide, mj_okX0⟩
        exact mj_r_throw hx.1 o1 o2 hx.2 htx (Nat.le_of_ble_eq_true b1) (Nat.le_of_ble_eq_true b2) hd o5 o6 o7 o8 h
    · exact h.elim
  · -- 9
    split at h
    · rename_i t0 ts
      cases i <;> simp only [mj_tok, Bool.false_eq_true] at hok
      simp only [Bool.and_eq_true, decide_eq_true_eq] at hok
      obtain ⟨⟨⟨o1, o2⟩, o3⟩, o4⟩ := hok
      split at h
      · exact mj_tab_ok hd o1 o2 o3 o4 h
      · exact h.elim
    · exact h.elim
  · -- 13
    split at h
    · rename_i n lv' v
      cases i <;> simp only [mj_tok, Bool.false_eq_true] at hok
      rename_i at_
      cases at_ <;> simp only [Bool.false_eq_true] at hok
      simp only [Bool.and_eq_true, decide_eq_true_eq] at hok
      obtain ⟨⟨⟨⟨o1, o2⟩, o3⟩, o4⟩, o5⟩ := hok
      simp only [mj_tl, decide_eq_true_eq] at hlen
      subst hlen
      obtain ⟨rfl, h1, h2⟩ := h
      exact mj_r_newI hd o1 o5 o2 o3 o4 h1 h2
    · exact h.elim
  · -- 15
    split at h
    · rename_i j n dj o
      cases i <;> simp only [mj_tok, Bool.false_eq_true] at hok
      rename_i idx
      simp only [Bool.and_eq_true, decide_eq_true_eq, List.contains_iff_mem] at hok
      obtain ⟨⟨⟨⟨⟨⟨⟨⟨o1, o2⟩, o3⟩, o4⟩, o49⟩, o45⟩, o5⟩, o6⟩, o7⟩ := hok
      simp only [mj_tl, decide_eq_true_eq] at hlen
      subst hlen
      obtain ⟨hmc, h⟩ := h
      generalize hb : (Nat.beq (st.take n).length n && (Nat.ble (st.drop n).length 4 && (st.take n).all (mj_ge o))) = b at h
      cases b with
      | false => exact h.elim
      | true =>
        simp only [Bool.and_eq_true] at hb
        obtain ⟨b1, b3, b4⟩ := hb
        have e := mj_split st n
        have e2 : (((st.take n).reverse.map (mj_un o)).map (mj_sv_ o)).reverse = st.take n := by
          rw [mj_un_ok (by rw [List.all_reverse]; exact b4), List.reverse_reverse]
        rw [List.reverse_reverse] at e
        rw [e, ← e2]
        refine mj_r_callSW hd o1 o2 o3 o5 o4 o49 (mj_wok_of (by rw [List.contains_iff_mem]; exact o45)) (by rw [List.length_map, List.length_reverse]; exact (Nat.eq_of_beq_eq_true b1).trans o6) (dj := dj) (by omega) hmc (Nat.le_of_ble_eq_true b3) ?_
        exact h
    · exact h.elim
  · -- 26
    split at h
    · rename_i j n dj y
      cases i <;> simp only [mj_tok, Bool.false_eq_true] at hok
      rename_i idx
      simp only [Bool.and_eq_true, decide_eq_true_eq, List.contains_iff_mem] at hok
      obtain ⟨⟨⟨⟨⟨⟨o1, o2⟩, o3⟩, o4⟩, o49⟩, o5⟩, o6⟩ := hok
      simp only [mj_tl, decide_eq_true_eq] at hlen
      subst hlen
      split at h
      · rename_i x as hst
        split at h
        · rename_i ci fs hsh
          obtain ⟨hmc, h⟩ := h
          generalize hb : (Nat.beq ci (mj_oc j) && (Nat.beq as.length n && (Nat.ble (st.drop (n + 1)).length 4 && (Nat.ble y x && (mj_WN.contains (lv, mj_lv j, x - y) && as.all (fun v => match v with | .int _ => true | _ => false)))))) = b at h
          cases b with
          | false => exact h.elim
          | true =>
            simp only [Bool.and_eq_true] at hb
            obtain ⟨b1, b2, b4, b5, b6, b7⟩ := hb
            obtain rfl := Nat.eq_of_beq_eq_true b1
            have e : st = as.reverse ++ .ref x :: st.drop (n + 1) := by
              have e1 := mj_split st (n + 1)
              rw [hst] at e1
              rw [List.reverse_cons, List.append_assoc] at e1
              exact e1
            have b5' := Nat.le_of_ble_eq_true b5
            have exy : x = (x - y) + y := (Nat.sub_add_cancel b5').symm
            rw [e]
            have hcall := mj_r_callW (x := y) (o := x - y) hd o1 o2 o3 o4 o49 (mj_wok_of b6) (by rw [← exy]; exact hsh) ((Nat.eq_of_beq_eq_true b2).trans o5) (fun v hv => by
              have h7 := List.all_eq_true.mp b7 v hv
              cases v <;> simp at h7
              exact ⟨_, rfl⟩) (dj := dj) (by omega) hmc (Nat.le_of_ble_eq_true b4) h
            rw [← exy] at hcall
            exact hcall
        · exact h.elim
      · exact h.elim
    · exact h.elim
  · -- 27
    split at h
    · rename_i j n dj
      cases i <;> simp only [mj_tok, Bool.false_eq_true] at hok
      rename_i idx
      simp only [Bool.and_eq_true, decide_eq_true_eq, List.contains_iff_mem] at hok
      obtain ⟨⟨⟨⟨⟨⟨o1, o2⟩, o3⟩, o4⟩, o5⟩, o6⟩, o7⟩ := hok
      simp only [mj_tl, decide_eq_true_eq] at hlen
      subst hlen
      obtain ⟨hmc, h⟩ := h
      generalize hb : (Nat.beq (st.take n).length n && (Nat.ble (st.drop n).length 4)) = b at h
      cases b with
      | false => exact h.elim
      | true =>
        simp only [Bool.and_eq_true] at hb
        obtain ⟨b1, b3⟩ := hb
        have e := mj_split st n
        rw [e]
        exact mj_r_callS hd o1 o2 o3 o5 o4 (by rw [List.length_reverse]; exact (Nat.eq_of_beq_eq_true b1).trans o6) (by omega) hmc (Nat.le_of_ble_eq_true b3) h
    · exact h.elim
  · -- 16
    simp only [mj_tok, Bool.and_eq_true, decide_eq_true_eq] at hok
    simp only [mj_tl, decide_eq_true_eq] at hlen
    obtain ⟨rfl, hr⟩ := hok
    subst hlen
    split at h
    · exact mj_r_iret hr h.1 hd h.2
    · exact h.elim
  · -- 17
    simp only [mj_tok, Bool.and_eq_true, decide_eq_true_eq] at hok
    simp only [mj_tl, decide_eq_true_eq] at hlen
    obtain ⟨rfl, hr⟩ := hok
    subst hlen
    split at h
    · exact mj_r_zret hr h.1 hd h.2
    · exact h.elim
  · -- 18
    simp only [mj_tok, Bool.and_eq_true, decide_eq_true_eq] at hok
    simp only [mj_tl, decide_eq_true_eq] at hlen
    obtain ⟨rfl, hr⟩ := hok
    subst hlen
    split at h
    · exact mj_r_vret hr h.1 hd h.2
    · exact h.elim
  · exact h.elim
set_option maxHeartbeats 4000000 in
/-- A BLOCK, run at once -/
theorem mj_go_ok (hht : mj_ht k ≤ d) : ∀ (b : List mj_I) (pc : Nat) (ls : List (Option Value)) (st : List Value) (M : mj_M) (cn : Nat) (K : mj_K), mj_ok lv k pc b = true → mj_go lv k d b pc ls st M cn K → mj_W lv k d pc ls st M cn K
  | [], pc, ls, st, M, cn, K, _, h => h
  | (i, len, kd, a) :: r, pc, ls, st, M, cn, K, hok, h => by
    unfold mj_ok at hok
    rw [Bool.and_eq_true, decide_eq_true_eq] at hok
    obtain ⟨hd, hok⟩ := hok
    unfold mj_go at h
    split at h
    · -- 0
      simp only [Bool.and_eq_true, decide_eq_true_eq] at hok
      obtain ⟨⟨o1, o2⟩, o3⟩ := hok
      subst o1
      refine mj_s_ok hd o2 ?_
      exact mj_s_mono (fun ls st M h2 => mj_go_ok hht r _ ls st M cn K o3 h2) h
    · -- 10
      simp only [Bool.and_eq_true, decide_eq_true_eq] at hok
      obtain ⟨⟨o1, rfl⟩, o3⟩ := hok
      cases i <;> simp only [Bool.false_eq_true] at o1
      split at h
      · rename_i y x s
        generalize hb : (Nat.ble cn (mj_mc k) && Nat.ble s.length 4) = b at h
        cases b with
        | false => exact h.elim
        | true =>
          simp only [Bool.and_eq_true] at hb
          exact mj_r_min (List.contains_iff_mem.mp o1) (Nat.le_of_ble_eq_true hb.1) (Nat.le_of_ble_eq_true hb.2) hd (mj_go_ok hht r _ _ _ M cn K o3 h)
      · exact h.elim
    · -- 11
      simp only [Bool.and_eq_true, decide_eq_true_eq] at hok
      obtain ⟨⟨o1, rfl⟩, o3⟩ := hok
      cases i <;> simp only [Bool.false_eq_true] at o1
      split at h
      · rename_i y x s
        generalize hb : (Nat.ble cn (mj_mc k) && Nat.ble s.length 4) = b at h
        cases b with
        | false => exact h.elim
        | true =>
          simp only [Bool.and_eq_true] at hb
          exact mj_r_max (List.contains_iff_mem.mp o1) (Nat.le_of_ble_eq_true hb.1) (Nat.le_of_ble_eq_true hb.2) hd (mj_go_ok hht r _ _ _ M cn K o3 h)
      · exact h.elim
    · rename_i h0 h10 h11
      have hok' : (mj_tl kd len && mj_tok lv k kd a i pc) = true := by
        split at hok
        · exact absurd rfl (h0 · )
        · exact absurd rfl (h10 · )
        · exact absurd rfl (h11 · )
        · exact hok
      rw [Bool.and_eq_true] at hok'
      exact mj_t_ok hht hd hok'.1 hok'.2 h
end MJ
