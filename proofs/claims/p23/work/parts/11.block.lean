-- a new row: the world grows by a cell
def mj_z0 (M : mj_M) (q : Nat) : mj_M := fun c => if c = q then fun _ => 0 else M c
def mj_fo (q : Nat) : Option Value → Option Value
  | some (.ref x) => bif Nat.beq x q then none else some (.ref x)
  | o => o
-- a block of code: straight instructions, and what ends it
def mj_WN : List (Nat × Nat × Nat) := [(2, 0, 1), (2, 0, 41), (3, 1, 0), (8, 1, 5), (9, 1, 81), (9, 2, 0)]
set_option maxRecDepth 100000 in
theorem mj_WN_ok : ∀ e ∈ mj_WN, mj_wok e.1 e.2.1 e.2.2 = true := by decide +kernel
def mj_sw (x : Int32) (W : Nat → Prop) : Nat → List Nat → Prop
  | _, [] => True
  | j, t :: ts => (x.toInt = (j : Int) → W t) ∧ mj_sw x W (j + 1) ts
def mj_cond (i : Instr) (st : List Value) (T F : List Value → Prop) : Prop := match i with
  | .ifCond c _ => match st with
    | .int x :: r => match c with
      | .eq => (x = 0 → T r) ∧ (¬ x = 0 → F r)
      | .ne => (¬ x = 0 → T r) ∧ (x = 0 → F r)
      | .lt => (x < 0 → T r) ∧ (¬ x < 0 → F r)
      | .ge => (0 ≤ x → T r) ∧ (¬ 0 ≤ x → F r)
      | .gt => (0 < x → T r) ∧ (¬ 0 < x → F r)
      | .le => (x ≤ 0 → T r) ∧ (¬ x ≤ 0 → F r)
    | _ => False
  | .if_icmp c _ => match st with
    | .int y :: .int x :: r => match c with
      | .eq => (x = y → T r) ∧ (¬ x = y → F r)
      | .ne => (¬ x = y → T r) ∧ (x = y → F r)
      | .lt => (x < y → T r) ∧ (¬ x < y → F r)
      | .ge => (y ≤ x → T r) ∧ (¬ y ≤ x → F r)
      | .gt => (y < x → T r) ∧ (¬ y < x → F r)
      | .le => (x ≤ y → T r) ∧ (¬ x ≤ y → F r)
    | _ => False
  | _ => False
def mj_off (i : Instr) : Int := match i with
  | .ifCond _ o => o
  | .if_icmp _ o => o
  | .goto o => o
  | _ => 0
def mj_ge (o : Nat) : Value → Bool
  | .ref x => Nat.ble o x
  | _ => true
def mj_un (o : Nat) : Value → Value
  | .ref x => .ref (x - o)
  | v => v
theorem mj_un_ok {o : Nat} {l : List Value} (h : l.all (mj_ge o) = true) : (l.map (mj_un o)).map (mj_sv_ o) = l := by
  rw [List.map_map]
  have h1 : ∀ v ∈ l, (mj_sv_ o ∘ mj_un o) v = v := by
    intro v hv
    have h2 := List.all_eq_true.mp h v hv
    cases v with
    | ref x =>
      have h3 := Nat.le_of_ble_eq_true h2
      show Value.ref (o + (x - o)) = Value.ref x
      rw [show o + (x - o) = x by omega]
    | _ => rfl
  rw [List.map_congr_left h1]
  simp
def mj_t (lv k d kd : Nat) (a : List Nat) (i : Instr) (pc : Nat) (ls : List (Option Value)) (st : List Value) (M : mj_M) (cn : Nat) (K : mj_K) : Prop :=
  match kd with
  | 1 => match a with
    | [tgt] => mj_cond i st (fun r => mj_W lv k d tgt ls r M cn K) (fun r => mj_W lv k d (pc + 3) ls r M cn K)
    | _ => False
  | 2 => match a with
    | [tgt] => mj_W lv k d tgt ls st M cn K
    | _ => False
  | 3 => match st with
    | [.int v] => bif Nat.ble cn (mj_mc k) then K 0 v M else False
    | _ => False
  | 12 => match st with
    | [.int v] => bif Nat.ble cn (mj_mc k) then K 0 (mj_nb v) M else False
    | _ => False
  | 4 => match st with
    | [] => bif Nat.ble cn (mj_mc k) then K 0 0 M else False
    | _ => False
  | 5 => match a with
    | [j, n, dj] => match (st.take (n + 1)).reverse with
      | .ref x :: as => match (mj_Sh lv)[x]? with
        | some (.inl (ci, _)) => bif Nat.beq ci (mj_oc j) && (Nat.beq as.length n && (Nat.ble (cn + mj_mc j) (mj_mc k) && Nat.ble (st.drop (n + 1)).length 4)) then mj_Cm j dj (.ref x :: as) M (mj_k lv k d (pc + 3) ls (st.drop (n + 1)) (cn + mj_mc j) (mj_r j) K) else False
        | _ => False
      | _ => False
    | _ => False
  | 6 => match a with
    | [j, n, dj, y] => match (st.take (n + 1)).reverse with
      | .ref x :: as => match (mj_Sh lv)[x]? with
        | some (.inl (ci, _)) => bif Nat.beq ci (mj_oc j) && (Nat.beq as.length n && (Nat.ble (cn + mj_mc j) (mj_mc k) && (Nat.ble (st.drop (n + 1)).length 4 && (Nat.ble y x && (mj_WN.contains (lv, mj_lv j, x - y) && as.all (fun v => match v with | .int _ => true | _ => false)))))) then mj_Cm j dj (.ref y :: as) (mj_v M (x - y)) (mj_k2 lv k d (pc + 3) ls (st.drop (n + 1)) M (x - y) (mj_Sh (mj_lv j)).length (cn + mj_mc j) (mj_r j) K) else False
        | _ => False
      | _ => False
    | _ => False
  | 7 => match a with
    | [j, n, dj] => bif Nat.beq (st.take n).length n && (Nat.ble (cn + mj_mc j) (mj_mc k) && Nat.ble (st.drop n).length 4) then mj_Cm j dj (st.take n).reverse M (mj_k lv k d (pc + 3) ls (st.drop n) (cn + mj_mc j) (mj_r j) K) else False
    | _ => False
  | 14 => match a with
    | [j, n] => bif Nat.beq (st.take n).length n && (Nat.ble (cn + mj_mc j) (mj_mc k) && Nat.ble (st.drop n).length 4) then mj_Cm j (d - 1) (st.take n).reverse M (mj_k lv k d (pc + 3) ls (st.drop n) (cn + mj_mc j) (mj_r j) K) else False
    | _ => False
  | 8 => match a with
    | [e, _, _] => bif Nat.ble (cn + 1) (mj_mc k) && Nat.ble st.length 4 then K (e + 1) 0 M else False
    | _ => False
  | 9 => match a with
    | t0 :: ts => match st with
      | .int x :: r => (x.toInt < 0 ∨ (ts.length : Int) ≤ x.toInt → mj_W lv k d t0 ls r M cn K) ∧ mj_sw x (fun t => mj_W lv k d t ls r M cn K) 0 ts
      | _ => False
    | _ => False
  | 13 => match a, st with
    | [n, lv'], [.int v] => v = nI n ∧ cn + 1 ≤ mj_mc k ∧ mj_W lv' k d (pc + 2) (ls.map (mj_fo (mj_Sh lv).length)) [.ref (mj_Sh lv).length] (mj_z0 M (mj_Sh lv).length) (cn + 1) K
    | _, _ => False
  | 15 => match a with
    | [j, n, dj, o] => cn + mj_mc j ≤ mj_mc k ∧ (bif Nat.beq (st.take n).length n && (Nat.ble (st.drop n).length 4 && (st.take n).all (mj_ge o)) then mj_Cm j dj ((st.take n).reverse.map (mj_un o)) (mj_v M o) (mj_k2 lv k d (pc + 3) ls (st.drop n) M o (mj_Sh (mj_lv j)).length (cn + mj_mc j) (mj_r j) K) else False)
    | _ => False
  | 26 => match a with
    | [j, n, dj, y] => match (st.take (n + 1)).reverse with
      | .ref x :: as => match (mj_Sh lv)[x]? with
        | some (.inl (ci, _)) => cn + mj_mc j ≤ mj_mc k ∧ (bif Nat.beq ci (mj_oc j) && (Nat.beq as.length n && ((Nat.ble (st.drop (n + 1)).length 4 && (Nat.ble y x && (mj_WN.contains (lv, mj_lv j, x - y) && as.all (fun v => match v with | .int _ => true | _ => false)))))) then mj_Cm j dj (.ref y :: as) (mj_v M (x - y)) (mj_k2 lv k d (pc + 3) ls (st.drop (n + 1)) M (x - y) (mj_Sh (mj_lv j)).length (cn + mj_mc j) (mj_r j) K) else False)
        | _ => False
      | _ => False
    | _ => False
  | 27 => match a with
    | [j, n, dj] => cn + mj_mc j ≤ mj_mc k ∧ (bif Nat.beq (st.take n).length n && (Nat.ble (st.drop n).length 4) then mj_Cm j dj (st.take n).reverse M (mj_k lv k d (pc + 3) ls (st.drop n) (cn + mj_mc j) (mj_r j) K) else False)
    | _ => False
  | 16 => match st with
    | [.int v] => cn ≤ mj_mc k ∧ K 0 v M
    | _ => False
  | 17 => match st with
    | [.int v] => cn ≤ mj_mc k ∧ K 0 (mj_nb v) M
    | _ => False
  | 18 => match st with
    | [] => cn ≤ mj_mc k ∧ K 0 0 M
    | _ => False
  | _ => False
def mj_go (lv k d : Nat) : List mj_I → Nat → List (Option Value) → List Value → mj_M → Nat → mj_K → Prop
  | [], pc, ls, st, M, cn, K => mj_W lv k d pc ls st M cn K
  | (i, len, kd, a) :: r, pc, ls, st, M, cn, K => match kd with
    | 0 => mj_s lv i a ls st M (fun ls st M => mj_go lv k d r (pc + len) ls st M cn K)
    | 10 => match st with
      | .int y :: .int x :: s => bif Nat.ble cn (mj_mc k) && Nat.ble s.length 4 then mj_go lv k d r (pc + 3) ls (.int (if y < x then y else x) :: s) M cn K else False
      | _ => False
    | 11 => match st with
      | .int y :: .int x :: s => bif Nat.ble cn (mj_mc k) && Nat.ble s.length 4 then mj_go lv k d r (pc + 3) ls (.int (if x < y then y else x) :: s) M cn K else False
      | _ => False
    | kd => mj_t lv k d kd a i pc ls st M cn K
/-- what a program checks of what ends a block -/
def mj_tok (lv k kd : Nat) (a : List Nat) (i : Instr) (pc : Nat) : Bool :=
  match kd with
  | 1 => match a with
    | [tgt] => decide ((pc : Int) + mj_off i = (tgt : Int))
    | _ => false
  | 2 => match a, i with
    | [tgt], .goto o => decide ((pc : Int) + o = (tgt : Int))
    | _, _ => false
  | 3 => decide (i = .ireturn) && decide (mj_r k = some .int)
  | 12 => decide (i = .ireturn) && decide (mj_r k = some .boolean)
  | 4 => decide (i = .return_) && decide (mj_r k = none)
  | 5 => match a, i with
    | [j, n, dj], .invokevirtual idx => mj_ML.contains (mj_oc k, idx, j) && decide (j < mj_N) && mj_kV.contains j && decide (mj_lv j = lv) && decide (n = mj_ar j) && decide (dj + 1 ≤ mj_ht k)
    | _, _ => false
  | 6 => match a, i with
    | [j, n, dj, _], .invokevirtual idx => mj_ML.contains (mj_oc k, idx, j) && decide (j < mj_N) && mj_kV.contains j && decide (mj_lv j ≠ 2) && decide (mj_lv j ≠ 9) && decide (n = mj_ar j) && decide (dj + 1 ≤ mj_ht k)
    | _, _ => false
  | 7 => match a, i with
    | [j, n, dj], .invokestatic idx => mj_ML.contains (mj_oc k, idx, j) && decide (j < mj_N) && mj_kS.contains j && decide (mj_lv j = lv) && decide (mj_oc j = mj_oc k) && decide (n = mj_ar j) && decide (dj + 1 ≤ mj_ht k)
    | _, _ => false
  | 14 => match a, i with
    | [j, n], .invokestatic idx => mj_ML.contains (mj_oc k, idx, j) && decide (j < mj_N) && mj_kS.contains j && decide (mj_lv j = lv) && decide (mj_oc j = mj_oc k) && decide (n = mj_ar j) && decide (1 ≤ mj_ht k)
    | _, _ => false
  | 13 => match a, i with
    | [n, lv'], .newarray .int => decide (mj_Sh lv' = mj_Sh lv ++ [.inr (0, n)]) && decide (lv' < 9) && decide (lv' ≠ 2) && decide (n ≤ 64) && decide (lv < 10)
    | _, _ => false
  | 15 => match a, i with
    | [j, n, dj, o], .invokestatic idx => mj_ML.contains (mj_oc k, idx, j) && decide (j < mj_N) && mj_kS.contains j && decide (mj_lv j = 2 → lv = 2 ∨ lv = 9) && decide (mj_lv j ≠ 9) && mj_WN.contains (lv, mj_lv j, o) && decide (mj_oc j = mj_oc k) && decide (n = mj_ar j) && decide (dj + 1 ≤ mj_ht k)
    | _, _ => false
  | 26 => match a, i with
    | [j, n, dj, _], .invokevirtual idx => mj_ML.contains (mj_oc k, idx, j) && decide (j < mj_N) && mj_kV.contains j && decide (mj_lv j = 2 → lv = 2 ∨ lv = 9) && decide (mj_lv j ≠ 9) && decide (n = mj_ar j) && decide (dj + 1 ≤ mj_ht k)
    | _, _ => false
  | 27 => match a, i with
    | [j, n, dj], .invokestatic idx => mj_ML.contains (mj_oc k, idx, j) && decide (j < mj_N) && mj_kS.contains j && decide (mj_lv j = lv) && decide (mj_oc j = mj_oc k) && decide (n = mj_ar j) && decide (dj + 1 ≤ mj_ht k)
    | _, _ => false
  | 16 => decide (i = .ireturn) && decide (mj_r k = some .int)
  | 17 => decide (i = .ireturn) && decide (mj_r k = some .boolean)
  | 18 => decide (i = .return_) && decide (mj_r k = none)
  | 8 => match a, i with
    | [e, is, ic], .new ik => decide (lv = 2) && decide (mj_oc k = 6) && decide ((e = 1 ∧ ik = 209 ∧ ic = 213) ∨ (e = 2 ∧ ik = 218 ∧ ic = 222) ∨ (e = 0 ∧ ik = 226 ∧ ic = 230)) && mj_tx.any (fun q => decide (q.1 = is)) && decide (decode (mj_c k) (pc + 3) = .ok (.dup, 1)) && decide (decode (mj_c k) (pc + 4) = .ok (.ldc is, 2)) && decide (decode (mj_c k) (pc + 6) = .ok (.invokespecial ic, 3)) && decide (decode (mj_c k) (pc + 9) = .ok (.athrow, 1))
    | _, _ => false
  | 9 => match a, i with
    | t0 :: ts, .tableswitch df lo hi offs => decide (lo = 0) && decide (hi + 1 = (ts.length : Int)) && decide ((pc : Int) + df = (t0 : Int)) && decide (offs.toList.map (fun o => (pc : Int) + o) = ts.map (fun t : Nat => (t : Int)))
    | _, _ => false
  | _ => false
def mj_tl (kd len : Nat) : Bool := match kd with
  | 3 => decide (len = 1)
  | 12 => decide (len = 1)
  | 4 => decide (len = 1)
  | 9 => true
  | 13 => decide (len = 2)
  | 16 => decide (len = 1)
  | 17 => decide (len = 1)
  | 18 => decide (len = 1)
  | _ => decide (len = 3)
def mj_ok (lv k : Nat) : Nat → List mj_I → Bool
  | _, [] => true
  | pc, (i, len, kd, a) :: r => decide (decode (mj_c k) pc = .ok (i, len)) && (match kd with
    | 0 => decide (len = mj_len i) && mj_sok k i a && mj_ok lv k (pc + len) r
    | 10 => (match i with | .invokestatic idx => mj_MN.contains (mj_oc k, idx) | _ => false) && decide (len = 3) && mj_ok lv k (pc + 3) r
    | 11 => (match i with | .invokestatic idx => mj_MX.contains (mj_oc k, idx) | _ => false) && decide (len = 3) && mj_ok lv k (pc + 3) r
    | kd => mj_tl kd len && mj_tok lv k kd a i pc)
theorem mj_sw_at {x : Int32} {W : Nat → Prop} : ∀ (ts : List Nat) (j i : Nat) (t : Nat), mj_sw x W j ts → ts[i]? = some t → x.toInt = ((j + i : Nat) : Int) → W t
  | [], _, _, _, _, h, _ => by simp at h
  | t :: ts, j, 0, t', h, h2, h3 => by
    simp at h2
    subst h2
    exact h.1 h3
  | t :: ts, j, i + 1, t', h, h2, h3 => mj_sw_at ts (j + 1) i t' h.2 (by simpa using h2) (by rw [h3, show j + (i + 1) = j + 1 + i by omega])
