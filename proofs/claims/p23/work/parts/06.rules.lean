-- one row an instruction
section MJ
variable {lv k d pc cn : Nat} {ls : List (Option Value)} {st rest : List Value} {M : mj_M} {K : mj_K}
def mj_al (ad : Nat → Nat) (ls : List (Option Value)) : List (Nat × Value) := (List.range ls.length).filterMap (fun i => match ls[i]? with | some (some v) => some (i, mj_tr ad v) | _ => none)
theorem mj_al_mem {ad : Nat → Nat} {ls : List (Option Value)} {q : Nat × Value} : q ∈ mj_al ad ls ↔ ∃ v, ls[q.1]? = some (some v) ∧ q.2 = mj_tr ad v := by
  unfold mj_al
  rw [List.mem_filterMap]
  constructor
  · rintro ⟨i, hi, h⟩
    split at h
    · rename_i v hv
      cases h
      exact ⟨v, hv, rfl⟩
    · cases h
  · rintro ⟨v, hv, h2⟩
    refine ⟨q.1, List.mem_range.mpr (List.getElem?_eq_some_iff.mp hv).1, ?_⟩
    rw [hv]
    simp only [← h2]
theorem mj_L.has {ad : Nat → Nat} {lsA : Array Slot} {n : Nat} (h : mj_L ad lsA n ls) : lv_has lsA n (mj_al ad ls) := by
  refine ⟨h.1, h.2.2.1, fun q hq => ?_⟩
  obtain ⟨v, hv, h2⟩ := mj_al_mem.mp hq
  rw [h2]
  exact (h.2.2.2 q.1 v hv).2
theorem mj_L.put {ad : Nat → Nat} {lsA lsB : Array Slot} {n i : Nat} {v : Value} (h : mj_L ad lsA n ls) (hc : v.category = 1) (hn : i < n) (h' : lv_has lsB n ((i, mj_tr ad v) :: (mj_al ad ls).filter (fun q => !(q.1 == i) && !(q.1 + 1 == i && q.2.category == 2)))) : mj_L ad lsB n (ls.set i (some v)) := by
  refine ⟨h'.1, by rw [List.length_set]; exact h.2.1, h'.2.1, fun j w hw => ?_⟩
  by_cases hj : j = i
  · subst hj
    rw [List.getElem?_set_self (by rw [h.2.1]; exact hn)] at hw
    cases hw
    exact ⟨hc, h'.2.2 (j, mj_tr ad v) List.mem_cons_self⟩
  · rw [List.getElem?_set_ne (fun e => hj e.symm)] at hw
    have h1 := (h.2.2.2 j w hw).1
    refine ⟨h1, h'.2.2 (j, mj_tr ad w) (List.mem_cons_of_mem _ (List.mem_filter.mpr ⟨mj_al_mem.mpr ⟨w, hw, rfl⟩, ?_⟩))⟩
    have e1 : (j == i) = false := by simpa using hj
    have e2 : ((mj_tr ad w).category == 2) = false := by rw [mj_tr_cat, h1]; rfl
    simp only [e1, e2, Bool.and_false, Bool.not_false, Bool.and_self]
theorem mj_L.idx {ad : Nat → Nat} {lsA : Array Slot} {n i : Nat} {v : Value} (h : mj_L ad lsA n ls) (hv : ls[i]? = some (some v)) : ∃ q : Nat, (mj_al ad ls)[q]? = some (i, mj_tr ad v) := List.getElem?_of_mem (mj_al_mem.mpr ⟨v, hv, rfl⟩)
theorem mj_r_iconst {n : Int} (hd : decode (mj_c k) pc = .ok (.iconst n, 1)) (h : mj_W lv k d (pc + 1) ls (.int (Int32.ofInt n) :: st) M cn K) : mj_W lv k d pc ls st M cn K := by
  intro p l e s m args below meth c D cA ad C H locs lsA hl hP hS
  obtain ⟨hx, -, hb, -⟩ := id C
  exact lv_iconst hx hb hd rfl (h p l e s m args below meth c D cA ad C H locs lsA hl hP hS)
theorem mj_r_bipush {n : Int} (hd : decode (mj_c k) pc = .ok (.bipush n, 2)) (h : mj_W lv k d (pc + 2) ls (.int (Int8.ofInt n).toInt32 :: st) M cn K) : mj_W lv k d pc ls st M cn K := by
  intro p l e s m args below meth c D cA ad C H locs lsA hl hP hS
  obtain ⟨hx, -, hb, -⟩ := id C
  exact lv_bipush hx hb hd rfl (h p l e s m args below meth c D cA ad C H locs lsA hl hP hS)
theorem mj_r_sipush {n : Int} (hd : decode (mj_c k) pc = .ok (.sipush n, 3)) (h : mj_W lv k d (pc + 3) ls (.int (Int16.ofInt n).toInt32 :: st) M cn K) : mj_W lv k d pc ls st M cn K := by
  intro p l e s m args below meth c D cA ad C H locs lsA hl hP hS
  obtain ⟨hx, -, hb, -⟩ := id C
  exact lv_sipush hx hb hd rfl (h p l e s m args below meth c D cA ad C H locs lsA hl hP hS)
theorem mj_r_iload_n {j : Fin 4} {x : Int32} (hd : decode (mj_c k) pc = .ok (.iload_n j, 1)) (hv : ls[(j : Nat)]? = some (some (.int x))) (h : mj_W lv k d (pc + 1) ls (.int x :: st) M cn K) : mj_W lv k d pc ls st M cn K := by
  intro p l e s m args below meth c D cA ad C H locs lsA hl hP hS
  obtain ⟨hx, -, hb, -⟩ := id C
  exact lv_iload_n hx hb hd rfl (hl.2.2.2 _ _ hv).2 (h p l e s m args below meth c D cA ad C H locs lsA hl hP hS)
theorem mj_r_iload {j : Nat} {x : Int32} (hd : decode (mj_c k) pc = .ok (.iload j, 2)) (hv : ls[j]? = some (some (.int x))) (h : mj_W lv k d (pc + 2) ls (.int x :: st) M cn K) : mj_W lv k d pc ls st M cn K := by
  intro p l e s m args below meth c D cA ad C H locs lsA hl hP hS
  obtain ⟨hx, -, hb, -⟩ := id C
  exact lv_iload hx hb hd (hl.2.2.2 _ _ hv).2 (h p l e s m args below meth c D cA ad C H locs lsA hl hP hS)
theorem mj_r_aload_n {j : Fin 4} {x : Nat} (hd : decode (mj_c k) pc = .ok (.aload_n j, 1)) (hv : ls[(j : Nat)]? = some (some (.ref x))) (h : mj_W lv k d (pc + 1) ls (.ref x :: st) M cn K) : mj_W lv k d pc ls st M cn K := by
  intro p l e s m args below meth c D cA ad C H locs lsA hl hP hS
  obtain ⟨hx, -, hb, -⟩ := id C
  exact lv_aload_n hx hb hd rfl (hl.2.2.2 _ _ hv).2 (h p l e s m args below meth c D cA ad C H locs lsA hl hP hS)
theorem mj_r_aload {j : Nat} {x : Nat} (hd : decode (mj_c k) pc = .ok (.aload j, 2)) (hv : ls[j]? = some (some (.ref x))) (h : mj_W lv k d (pc + 2) ls (.ref x :: st) M cn K) : mj_W lv k d pc ls st M cn K := by
  intro p l e s m args below meth c D cA ad C H locs lsA hl hP hS
  obtain ⟨hx, -, hb, -⟩ := id C
  exact lv_aload hx hb hd (hl.2.2.2 _ _ hv).2 (h p l e s m args below meth c D cA ad C H locs lsA hl hP hS)
theorem mj_r_istore_n {j : Fin 4} {x : Int32} (hn : (j : Nat) < mj_n k) (hd : decode (mj_c k) pc = .ok (.istore_n j, 1)) (h : mj_W lv k d (pc + 1) (ls.set (j : Nat) (some (.int x))) st M cn K) : mj_W lv k d pc ls (.int x :: st) M cn K := by
  intro p l e s m args below meth c D cA ad C H locs lsA hl hP hS
  obtain ⟨hx, -, hb, -⟩ := id C
  exact lv_istore_n hx hb hd rfl hl.has hn rfl (fun lsB h' => h p l e s m args below meth c D cA ad C H locs lsB (hl.put (v := .int x) rfl hn h') hP hS)
theorem mj_r_istore {j : Nat} {x : Int32} (hn : j < mj_n k) (hd : decode (mj_c k) pc = .ok (.istore j, 2)) (h : mj_W lv k d (pc + 2) (ls.set j (some (.int x))) st M cn K) : mj_W lv k d pc ls (.int x :: st) M cn K := by
  intro p l e s m args below meth c D cA ad C H locs lsA hl hP hS
  obtain ⟨hx, -, hb, -⟩ := id C
  exact lv_istore hx hb hd hl.has hn rfl (fun lsB h' => h p l e s m args below meth c D cA ad C H locs lsB (hl.put (v := .int x) rfl hn h') hP hS)
theorem mj_r_astore_n {j : Fin 4} {x : Nat} (hn : (j : Nat) < mj_n k) (hd : decode (mj_c k) pc = .ok (.astore_n j, 1)) (h : mj_W lv k d (pc + 1) (ls.set (j : Nat) (some (.ref x))) st M cn K) : mj_W lv k d pc ls (.ref x :: st) M cn K := by
  intro p l e s m args below meth c D cA ad C H locs lsA hl hP hS
  obtain ⟨hx, -, hb, -⟩ := id C
  exact lv_astore_n hx hb hd rfl hl.has hn rfl (fun lsB h' => h p l e s m args below meth c D cA ad C H locs lsB (hl.put (v := .ref x) rfl hn h') hP hS)
theorem mj_r_astore {j : Nat} {x : Nat} (hn : j < mj_n k) (hd : decode (mj_c k) pc = .ok (.astore j, 2)) (h : mj_W lv k d (pc + 2) (ls.set j (some (.ref x))) st M cn K) : mj_W lv k d pc ls (.ref x :: st) M cn K := by
  intro p l e s m args below meth c D cA ad C H locs lsA hl hP hS
  obtain ⟨hx, -, hb, -⟩ := id C
  exact lv_astore hx hb hd hl.has hn rfl (fun lsB h' => h p l e s m args below meth c D cA ad C H locs lsB (hl.put (v := .ref x) rfl hn h') hP hS)
theorem mj_r_iinc {j : Nat} {n : Int} {x : Int32} (hn : j < mj_n k) (hd : decode (mj_c k) pc = .ok (.iinc j n, 3)) (hv : ls[j]? = some (some (.int x))) (h : mj_W lv k d (pc + 3) (ls.set j (some (.int (x + Int32.ofInt n)))) st M cn K) : mj_W lv k d pc ls st M cn K := by
  intro p l e s m args below meth c D cA ad C H locs lsA hl hP hS
  obtain ⟨hx, -, hb, -⟩ := id C
  obtain ⟨q, hq⟩ := hl.idx hv
  exact lv_iinc hx hb hd hl.has hq rfl hn rfl (fun lsB h' => h p l e s m args below meth c D cA ad C H locs lsB (hl.put (v := .int (x + Int32.ofInt n)) rfl hn h') hP hS)
theorem mj_r_iadd {x y : Int32} (hd : decode (mj_c k) pc = .ok (.iadd, 1)) (h : mj_W lv k d (pc + 1) ls (.int (x + y) :: st) M cn K) : mj_W lv k d pc ls (.int y :: .int x :: st) M cn K := by
  intro p l e s m args below meth c D cA ad C H locs lsA hl hP hS
  obtain ⟨hx, -, hb, -⟩ := id C
  exact lv_iadd hx hb hd (h p l e s m args below meth c D cA ad C H locs lsA hl hP hS)
theorem mj_r_isub {x y : Int32} (hd : decode (mj_c k) pc = .ok (.isub, 1)) (h : mj_W lv k d (pc + 1) ls (.int (x - y) :: st) M cn K) : mj_W lv k d pc ls (.int y :: .int x :: st) M cn K := by
  intro p l e s m args below meth c D cA ad C H locs lsA hl hP hS
  obtain ⟨hx, -, hb, -⟩ := id C
  exact lv_isub hx hb hd (h p l e s m args below meth c D cA ad C H locs lsA hl hP hS)
theorem mj_r_imul {x y : Int32} (hd : decode (mj_c k) pc = .ok (.imul, 1)) (h : mj_W lv k d (pc + 1) ls (.int (x * y) :: st) M cn K) : mj_W lv k d pc ls (.int y :: .int x :: st) M cn K := by
  intro p l e s m args below meth c D cA ad C H locs lsA hl hP hS
  obtain ⟨hx, -, hb, -⟩ := id C
  exact lv_imul hx hb hd (h p l e s m args below meth c D cA ad C H locs lsA hl hP hS)
theorem mj_r_idiv {x y : Int32} (hd : decode (mj_c k) pc = .ok (.idiv, 1)) (hy : ¬ y = 0) (h : mj_W lv k d (pc + 1) ls (.int (x / y) :: st) M cn K) : mj_W lv k d pc ls (.int y :: .int x :: st) M cn K := by
  intro p l e s m args below meth c D cA ad C H locs lsA hl hP hS
  obtain ⟨hx, -, hb, -⟩ := id C
  exact lv_idiv hx hb hd hy (h p l e s m args below meth c D cA ad C H locs lsA hl hP hS)
theorem mj_r_irem {x y : Int32} (hd : decode (mj_c k) pc = .ok (.irem, 1)) (hy : ¬ y = 0) (h : mj_W lv k d (pc + 1) ls (.int (x - x / y * y) :: st) M cn K) : mj_W lv k d pc ls (.int y :: .int x :: st) M cn K := by
  intro p l e s m args below meth c D cA ad C H locs lsA hl hP hS
  obtain ⟨hx, -, hb, -⟩ := id C
  exact lv_irem hx hb hd hy (h p l e s m args below meth c D cA ad C H locs lsA hl hP hS)
theorem mj_r_iand {x y : Int32} (hd : decode (mj_c k) pc = .ok (.iand, 1)) (h : mj_W lv k d (pc + 1) ls (.int (x &&& y) :: st) M cn K) : mj_W lv k d pc ls (.int y :: .int x :: st) M cn K := by
  intro p l e s m args below meth c D cA ad C H locs lsA hl hP hS
  obtain ⟨hx, -, hb, -⟩ := id C
  exact lv_iand hx hb hd (h p l e s m args below meth c D cA ad C H locs lsA hl hP hS)
theorem mj_r_ior {x y : Int32} (hd : decode (mj_c k) pc = .ok (.ior, 1)) (h : mj_W lv k d (pc + 1) ls (.int (x ||| y) :: st) M cn K) : mj_W lv k d pc ls (.int y :: .int x :: st) M cn K := by
  intro p l e s m args below meth c D cA ad C H locs lsA hl hP hS
  obtain ⟨hx, -, hb, -⟩ := id C
  exact lv_ior hx hb hd (h p l e s m args below meth c D cA ad C H locs lsA hl hP hS)
theorem mj_r_ishl {x y : Int32} (hd : decode (mj_c k) pc = .ok (.ishl, 1)) (h : mj_W lv k d (pc + 1) ls (.int (x <<< (y &&& 31)) :: st) M cn K) : mj_W lv k d pc ls (.int y :: .int x :: st) M cn K := by
  intro p l e s m args below meth c D cA ad C H locs lsA hl hP hS
  obtain ⟨hx, -, hb, -⟩ := id C
  exact lv_ishl hx hb hd (h p l e s m args below meth c D cA ad C H locs lsA hl hP hS)
theorem mj_r_dup {v : Value} (hc : v.category = 1) (hd : decode (mj_c k) pc = .ok (.dup, 1)) (h : mj_W lv k d (pc + 1) ls (v :: v :: st) M cn K) : mj_W lv k d pc ls (v :: st) M cn K := by
  intro p l e s m args below meth c D cA ad C H locs lsA hl hP hS
  obtain ⟨hx, -, hb, -⟩ := id C
  exact lv_dup hx hb hd (by rw [mj_tr_cat, hc]) (h p l e s m args below meth c D cA ad C H locs lsA hl hP hS)
theorem mj_r_dup2 {v w : Value} (hc : v.category = 1) (hw : w.category = 1) (hd : decode (mj_c k) pc = .ok (.dup2, 1)) (h : mj_W lv k d (pc + 1) ls (v :: w :: v :: w :: st) M cn K) : mj_W lv k d pc ls (v :: w :: st) M cn K := by
  intro p l e s m args below meth c D cA ad C H locs lsA hl hP hS
  obtain ⟨hx, -, hb, -⟩ := id C
  exact lv_dup2_11 hx hb hd (by rw [mj_tr_cat, hc]) (by rw [mj_tr_cat, hw]) (h p l e s m args below meth c D cA ad C H locs lsA hl hP hS)
theorem mj_r_pop {v : Value} (hc : v.category = 1) (hd : decode (mj_c k) pc = .ok (.pop, 1)) (h : mj_W lv k d (pc + 1) ls st M cn K) : mj_W lv k d pc ls (v :: st) M cn K := by
  intro p l e s m args below meth c D cA ad C H locs lsA hl hP hS
  obtain ⟨hx, -, hb, -⟩ := id C
  exact lv_pop hx hb hd (by rw [mj_tr_cat, hc]) (h p l e s m args below meth c D cA ad C H locs lsA hl hP hS)
theorem mj_r_goto {off : Int} {tgt : Nat} (hd : decode (mj_c k) pc = .ok (.goto off, 3)) (ht : (pc : Int) + off = (tgt : Int)) (h : mj_W lv k d tgt ls st M cn K) : mj_W lv k d pc ls st M cn K := by
  intro p l e s m args below meth c D cA ad C H locs lsA hl hP hS
  obtain ⟨hx, -, hb, -⟩ := id C
  exact lv_goto hx hb hd ht (h p l e s m args below meth c D cA ad C H locs lsA hl hP hS)
/-- a field: ci its class, sl its slot -/
theorem mj_r_get {idx ci sl x : Nat} {fs : List (Option Nat)} {v : Value} (hd : decode (mj_c k) pc = .ok (.getfield idx, 3)) (hF : (mj_oc k, idx, ci, sl) ∈ mj_FL) (hci : ci < 7) (hsl : sl < (mj_q ci).2.2) (hsh : (mj_Sh lv)[x]? = some (.inl (ci, fs))) (hv : (fs[sl]?).map (fun o => match o with | none => Value.int (M x sl) | some q => Value.ref q) = some v) (h : mj_W lv k d (pc + 3) ls (v :: st) M cn K) : mj_W lv k d pc ls (.ref x :: st) M cn K := by
  intro p l e s m args below meth c D cA ad C H locs lsA hl hP hS
  obtain ⟨hx, -, hb, -, hown, hts, -, -, -, hinj, hK, -⟩ := id C
  refine va_get (C := (mj_q ci).1) (T := (mj_q ci).2.1) (N := (mj_q ci).2.2) (ref := ((mj_q ci).2.1 sl).1) hx hb hts (mj_inL hci) hown hK hP x (mj_w_some hsh) (mj_cl_q hci) sl hsl (hts _ (mj_inF hF)) (fun _ h => h) (v := mj_tr ad v) ?_ hd (h p l e s m args below meth c D cA ad C H locs lsA hl hP hS)
  rw [mj_f_get]
  cases hq : fs[sl]? with
  | none => rw [hq] at hv; cases hv
  | some o =>
    rw [hq] at hv
    cases o with
    | none => cases hv; simp [mj_tr]
    | some q => cases hv; rfl
theorem mj_r_put {idx ci sl x : Nat} {fs : List (Option Nat)} {v : Int32} {ty : FieldType} (hd : decode (mj_c k) pc = .ok (.putfield idx, 3)) (hF : (mj_oc k, idx, ci, sl) ∈ mj_FL) (hci : ci < 7) (hsl : sl < (mj_q ci).2.2) (hfin : ((mj_q ci).2.1 sl).2.2.2 = false) (hty : mj_ty0 ci sl = ty) (hn : narrow ty (.int v) = .int v) (hfit : fits ty (.int v) = true) (hsh : (mj_Sh lv)[x]? = some (.inl (ci, fs))) (hv : fs[sl]? = some none) (h : mj_W lv k d (pc + 3) ls st (mj_u M x sl v) cn K) : mj_W lv k d pc ls (.int v :: .ref x :: st) M cn K := by
  intro p l e s m args below meth c D cA ad C H locs lsA hl hP hS
  obtain ⟨hx, -, hb, -, hown, hts, -, -, -, hinj, hK, -⟩ := id C
  refine va_put (C := (mj_q ci).1) (T := (mj_q ci).2.1) (N := (mj_q ci).2.2) (ref := ((mj_q ci).2.1 sl).1) hx hb hts (mj_inL hci) (mj_ty0 ci) (mj_tyok hci) (mj_nm hci) hown hK hP (mj_D_of hinj) hS x (mj_w_some hsh) (mj_cl_q hci) sl hsl (hts _ (mj_inF hF)) (fun _ h => h) hfin (ty := ty) (by rw [← hty]; exact mj_tyok hci sl hsl) hn hfit (by rw [mj_f_len]; exact (List.getElem?_eq_some_iff.mp hv).1) hd (fun H1 locs1 hP1 hD1 hS1 => ?_)
  rw [mj_w_set sl v hsh _ (by simp only [mj_e, mj_tr]; rw [mj_u_same, mj_f_set ad (M x) fs sl v hv])] at hP1
  exact h p l e s m args below meth c D cA ad C H1 locs1 lsA hl hP1 hS1
theorem mj_r_iald {x n : Nat} {i : Int32} (hd : decode (mj_c k) pc = .ok (.iaload, 1)) (hsh : (mj_Sh lv)[x]? = some (.inr (0, n))) (hin : vp_in i n) (h : mj_W lv k d (pc + 1) ls (.int (M x i.toNatClampNeg) :: st) M cn K) : mj_W lv k d pc ls (.int i :: .ref x :: st) M cn K := by
  intro p l e s m args below meth c D cA ad C H locs lsA hl hP hS
  obtain ⟨hx, -, hb, -, hown, hts, -, -, -, hinj, hK, -⟩ := id C
  exact va_iald hx hb hK hP x 0 (mj_w_some hsh) rfl hin hd (h p l e s m args below meth c D cA ad C H locs lsA hl hP hS)
theorem mj_r_ishr {x y : Int32} (hd : decode (mj_c k) pc = .ok (.ishr, 1)) (h : mj_W lv k d (pc + 1) ls (.int (x >>> (y &&& 31)) :: st) M cn K) : mj_W lv k d pc ls (.int y :: .int x :: st) M cn K := by
  intro p l e s m args below meth c D cA ad C H locs lsA hl hP hS
  obtain ⟨hx, -, hb, -⟩ := id C
  exact lv_ishr hx hb hd (h p l e s m args below meth c D cA ad C H locs lsA hl hP hS)
theorem mj_r_bald {x n : Nat} {i : Int32} (hd : decode (mj_c k) pc = .ok (.baload, 1)) (hsh : (mj_Sh lv)[x]? = some (.inr (1, n))) (hin : vp_in i n) (h : mj_W lv k d (pc + 1) ls (.int (M x i.toNatClampNeg) :: st) M cn K) : mj_W lv k d pc ls (.int i :: .ref x :: st) M cn K := by
  intro p l e s m args below meth c D cA ad C H locs lsA hl hP hS
  obtain ⟨hx, -, hb, -, hown, hts, -, -, -, hinj, hK, -⟩ := id C
  exact va_zald hx hb hK hP x 1 (mj_w_some hsh) rfl hin hd (h p l e s m args below meth c D cA ad C H locs lsA hl hP hS)
theorem mj_r_iast {x n : Nat} {i v : Int32} (hd : decode (mj_c k) pc = .ok (.iastore, 1)) (hsh : (mj_Sh lv)[x]? = some (.inr (0, n))) (hin : vp_in i n) (h : mj_W lv k d (pc + 1) ls st (mj_u M x i.toNatClampNeg v) cn K) : mj_W lv k d pc ls (.int v :: .int i :: .ref x :: st) M cn K := by
  intro p l e s m args below meth c D cA ad C H locs lsA hl hP hS
  obtain ⟨hx, -, hb, -, hown, hts, -, -, -, hinj, hK, -⟩ := id C
  refine va_iast hx hb hK hP (mj_D_of hinj) hS x 0 (mj_w_some hsh) rfl hin hd (fun H1 locs1 hP1 hD1 hS1 => ?_)
  rw [mj_w_set i.toNatClampNeg v hsh _ (by simp only [mj_e]; rw [mj_u_same])] at hP1
  exact h p l e s m args below meth c D cA ad C H1 locs1 lsA hl hP1 hS1
def mj_nb (x : Int32) : Int32 := vp_nar .boolean x
theorem mj_r_bast {x n : Nat} {i v : Int32} (hd : decode (mj_c k) pc = .ok (.bastore, 1)) (hsh : (mj_Sh lv)[x]? = some (.inr (1, n))) (hin : vp_in i n) (h : mj_W lv k d (pc + 1) ls st (mj_u M x i.toNatClampNeg (mj_nb v)) cn K) : mj_W lv k d pc ls (.int v :: .int i :: .ref x :: st) M cn K := by
  intro p l e s m args below meth c D cA ad C H locs lsA hl hP hS
  obtain ⟨hx, -, hb, -, hown, hts, -, -, -, hinj, hK, -⟩ := id C
  refine va_zast hx hb hK hP (mj_D_of hinj) hS x 1 (mj_w_some hsh) rfl hin hd (fun H1 locs1 hP1 hD1 hS1 => ?_)
  rw [mj_w_set i.toNatClampNeg (mj_nb v) hsh _ (by simp only [mj_e]; rw [mj_u_same]; rfl)] at hP1
  exact h p l e s m args below meth c D cA ad C H1 locs1 lsA hl hP1 hS1
end MJ
