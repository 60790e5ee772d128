-- a straight stretch of code, run at once
def mj_ic : Int → Int32
  | .negSucc 0 => -1
  | n => Int32.ofInt n
theorem mj_ic_eq (n : Int) : mj_ic n = Int32.ofInt n := by
  unfold mj_ic
  split
  · decide
  · rfl
def mj_s (lv : Nat) (i : Instr) (a : List Nat) (ls : List (Option Value)) (st : List Value) (M : mj_M) (Φ : List (Option Value) → List Value → mj_M → Prop) : Prop :=
  match i with
  | .iconst n => Φ ls (.int (mj_ic n) :: st) M
  | .bipush n => Φ ls (.int (Int8.ofInt n).toInt32 :: st) M
  | .sipush n => Φ ls (.int (Int16.ofInt n).toInt32 :: st) M
  | .ldc _ => Φ ls (.int 1000000000 :: st) M
  | .iload_n j => match ls[(j : Nat)]? with
    | some (some (.int x)) => Φ ls (.int x :: st) M
    | _ => False
  | .iload j => match ls[j]? with
    | some (some (.int x)) => Φ ls (.int x :: st) M
    | _ => False
  | .aload_n j => match ls[(j : Nat)]? with
    | some (some (.ref x)) => Φ ls (.ref x :: st) M
    | _ => False
  | .aload j => match ls[j]? with
    | some (some (.ref x)) => Φ ls (.ref x :: st) M
    | _ => False
  | .istore_n j => match st with
    | .int x :: r => Φ (ls.set (j : Nat) (some (.int x))) r M
    | _ => False
  | .istore j => match st with
    | .int x :: r => Φ (ls.set j (some (.int x))) r M
    | _ => False
  | .astore_n j => match st with
    | .ref x :: r => Φ (ls.set (j : Nat) (some (.ref x))) r M
    | _ => False
  | .astore j => match st with
    | .ref x :: r => Φ (ls.set j (some (.ref x))) r M
    | _ => False
  | .iinc j n => match ls[j]? with
    | some (some (.int x)) => Φ (ls.set j (some (.int (x + Int32.ofInt n)))) st M
    | _ => False
  | .iadd => match st with
    | .int y :: .int x :: r => Φ ls (.int (x + y) :: r) M
    | _ => False
  | .isub => match st with
    | .int y :: .int x :: r => Φ ls (.int (x - y) :: r) M
    | _ => False
  | .imul => match st with
    | .int y :: .int x :: r => Φ ls (.int (x * y) :: r) M
    | _ => False
  | .idiv => match st with
    | .int y :: .int x :: r => ¬ y = 0 ∧ Φ ls (.int (x / y) :: r) M
    | _ => False
  | .irem => match st with
    | .int y :: .int x :: r => ¬ y = 0 ∧ Φ ls (.int (x - x / y * y) :: r) M
    | _ => False
  | .iand => match st with
    | .int y :: .int x :: r => Φ ls (.int (x &&& y) :: r) M
    | _ => False
  | .ior => match st with
    | .int y :: .int x :: r => Φ ls (.int (x ||| y) :: r) M
    | _ => False
  | .ishl => match st with
    | .int y :: .int x :: r => Φ ls (.int (x <<< (y &&& 31)) :: r) M
    | _ => False
  | .ishr => match st with
    | .int y :: .int x :: r => Φ ls (.int (x >>> (y &&& 31)) :: r) M
    | _ => False
  | .dup => match st with
    | .int x :: r => Φ ls (.int x :: .int x :: r) M
    | .ref x :: r => Φ ls (.ref x :: .ref x :: r) M
    | _ => False
  | .dup2 => match st with
    | .int y :: .ref x :: r => Φ ls (.int y :: .ref x :: .int y :: .ref x :: r) M
    | _ => False
  | .pop => match st with
    | .int _ :: r => Φ ls r M
    | _ => False
  | .getfield _ => match a, st with
    | [sl, ci], .ref x :: r => match (mj_Sh lv)[x]? with
      | some (.inl (ci', fs)) => bif Nat.beq ci' ci then (match fs[sl]? with
        | some none => Φ ls (.int (M x sl) :: r) M
        | some (some q) => Φ ls (.ref q :: r) M
        | none => False) else False
      | _ => False
    | _, _ => False
  | .putfield _ => match a, st with
    | [sl, ci, ty], .int v :: .ref x :: r => match (mj_Sh lv)[x]? with
      | some (.inl (ci', fs)) => bif Nat.beq ci' ci then (match fs[sl]? with
        | some none => (match ty with
          | 0 => Φ ls r (mj_u M x sl v)
          | _ => (v = 0 ∨ v = 1) ∧ Φ ls r (mj_u M x sl v))
        | _ => False) else False
      | _ => False
    | _, _ => False
  | .iaload => match st with
    | .int i :: .ref x :: r => match (mj_Sh lv)[x]? with
      | some (.inr (0, n)) => vp_in i n ∧ Φ ls (.int (M x i.toNatClampNeg) :: r) M
      | _ => False
    | _ => False
  | .baload => match st with
    | .int i :: .ref x :: r => match (mj_Sh lv)[x]? with
      | some (.inr (1, n)) => vp_in i n ∧ Φ ls (.int (M x i.toNatClampNeg) :: r) M
      | _ => False
    | _ => False
  | .iastore => match st with
    | .int v :: .int i :: .ref x :: r => match (mj_Sh lv)[x]? with
      | some (.inr (0, n)) => vp_in i n ∧ Φ ls r (mj_u M x i.toNatClampNeg v)
      | _ => False
    | _ => False
  | .bastore => match st with
    | .int v :: .int i :: .ref x :: r => match (mj_Sh lv)[x]? with
      | some (.inr (1, n)) => vp_in i n ∧ Φ ls r (mj_u M x i.toNatClampNeg (mj_nb v))
      | _ => False
    | _ => False
  | _ => False
/-- what a program checks of such an instruction -/
def mj_sok (k : Nat) (i : Instr) (a : List Nat) : Bool :=
  match i with
  | .ldc idx => decide (idx = 132) && decide (mj_oc k = 7)
  | .istore_n j => decide ((j : Nat) < mj_n k)
  | .istore j => decide (j < mj_n k)
  | .astore_n j => decide ((j : Nat) < mj_n k)
  | .astore j => decide (j < mj_n k)
  | .iinc j _ => decide (j < mj_n k)
  | .getfield idx => match a with
    | [sl, ci] => mj_FL.contains (mj_oc k, idx, ci, sl) && decide (ci < 7) && decide (sl < (mj_q ci).2.2)
    | _ => false
  | .putfield idx => match a with
    | [sl, ci, ty] => mj_FL.contains (mj_oc k, idx, ci, sl) && decide (ci < 7) && decide (sl < (mj_q ci).2.2) && !((mj_q ci).2.1 sl).2.2.2 && decide ((ty = 0 ∧ mj_ty0 ci sl = .int) ∨ (ty = 1 ∧ mj_ty0 ci sl = .boolean))
    | _ => false
  | _ => true
def mj_len (i : Instr) : Nat := match i with
  | .iconst _ => 1
  | .bipush _ => 2
  | .sipush _ => 3
  | .ldc _ => 2
  | .iload_n _ => 1
  | .iload _ => 2
  | .aload_n _ => 1
  | .aload _ => 2
  | .istore_n _ => 1
  | .istore _ => 2
  | .astore_n _ => 1
  | .astore _ => 2
  | .iinc _ _ => 3
  | .getfield _ => 3
  | .putfield _ => 3
  | _ => 1
set_option maxHeartbeats 4000000 in
theorem mj_s_ok {lv k d pc cn : Nat} {ls : List (Option Value)} {st : List Value} {M : mj_M} {K : mj_K} {i : Instr} {a : List Nat} (hd : decode (mj_c k) pc = .ok (i, mj_len i)) (hok : mj_sok k i a = true) (h : mj_s lv i a ls st M (fun ls st M => mj_W lv k d (pc + mj_len i) ls st M cn K)) : mj_W lv k d pc ls st M cn K := by
  cases i
  case iconst n => exact mj_r_iconst hd (by rw [← mj_ic_eq]; exact h)
  case bipush n => exact mj_r_bipush hd h
  case sipush n => exact mj_r_sipush hd h
  case ldc idx =>
    simp only [mj_sok, Bool.and_eq_true, decide_eq_true_eq] at hok
    obtain ⟨rfl, ho⟩ := hok
    exact mj_r_ldc ho hd h
  case iload_n j =>
    simp only [mj_s] at h
    split at h
    · rename_i hv
      exact mj_r_iload_n hd hv h
    · exact h.elim
  case iload j =>
    simp only [mj_s] at h
    split at h
    · rename_i hv
      exact mj_r_iload hd hv h
    · exact h.elim
  case aload_n j =>
    simp only [mj_s] at h
    split at h
    · rename_i hv
      exact mj_r_aload_n hd hv h
    · exact h.elim
  case aload j =>
    simp only [mj_s] at h
    split at h
    · rename_i hv
      exact mj_r_aload hd hv h
    · exact h.elim
  case istore_n j =>
    simp only [mj_sok, decide_eq_true_eq] at hok
    simp only [mj_s] at h
    split at h
    · exact mj_r_istore_n hok hd h
    · exact h.elim
  case istore j =>
    simp only [mj_sok, decide_eq_true_eq] at hok
    simp only [mj_s] at h
    split at h
    · exact mj_r_istore hok hd h
    · exact h.elim
  case astore_n j =>
    simp only [mj_sok, decide_eq_true_eq] at hok
    simp only [mj_s] at h
    split at h
    · exact mj_r_astore_n hok hd h
    · exact h.elim
  case astore j =>
    simp only [mj_sok, decide_eq_true_eq] at hok
    simp only [mj_s] at h
    split at h
    · exact mj_r_astore hok hd h
    · exact h.elim
  case iinc j n =>
    simp only [mj_sok, decide_eq_true_eq] at hok
    simp only [mj_s] at h
    split at h
    · rename_i hv
      exact mj_r_iinc hok hd hv h
    · exact h.elim
  case iadd =>
    simp only [mj_s] at h
    split at h
    · exact mj_r_iadd hd h
    · exact h.elim
  case isub =>
    simp only [mj_s] at h
    split at h
    · exact mj_r_isub hd h
    · exact h.elim
  case imul =>
    simp only [mj_s] at h
    split at h
    · exact mj_r_imul hd h
    · exact h.elim
  case idiv =>
    simp only [mj_s] at h
    split at h
    · exact mj_r_idiv hd h.1 h.2
    · exact h.elim
  case irem =>
    simp only [mj_s] at h
    split at h
    · exact mj_r_irem hd h.1 h.2
    · exact h.elim
  case iand =>
    simp only [mj_s] at h
    split at h
    · exact mj_r_iand hd h
    · exact h.elim
  case ior =>
    simp only [mj_s] at h
    split at h
    · exact mj_r_ior hd h
    · exact h.elim
  case ishl =>
    simp only [mj_s] at h
    split at h
    · exact mj_r_ishl hd h
    · exact h.elim
  case ishr =>
    simp only [mj_s] at h
    split at h
    · exact mj_r_ishr hd h
    · exact h.elim
  case dup =>
    simp only [mj_s] at h
    split at h
    · exact mj_r_dup rfl hd h
    · exact mj_r_dup rfl hd h
    · exact h.elim
  case dup2 =>
    simp only [mj_s] at h
    split at h
    · exact mj_r_dup2 rfl rfl hd h
    · exact h.elim
  case pop =>
    simp only [mj_s] at h
    split at h
    · exact mj_r_pop rfl hd h
    · exact h.elim
  case getfield idx =>
    simp only [mj_s] at h
    split at h
    · rename_i sl ci x r
      simp only [mj_sok, Bool.and_eq_true, decide_eq_true_eq, List.contains_iff_mem] at hok
      obtain ⟨⟨o1, o2⟩, o3⟩ := hok
      split at h
      · rename_i ci' fs hsh
        cases hb : Nat.beq ci' ci with
        | false => rw [hb] at h; exact h.elim
        | true =>
          rw [hb] at h
          obtain rfl := Nat.eq_of_beq_eq_true hb
          simp only [cond_true] at h
          split at h
          · rename_i hf
            exact mj_r_get hd o1 o2 o3 hsh (by rw [hf]; rfl) h
          · rename_i q hf
            exact mj_r_get hd o1 o2 o3 hsh (by rw [hf]; rfl) h
          · exact h.elim
      · exact h.elim
    · exact h.elim
  case putfield idx =>
    simp only [mj_s] at h
    split at h
    · rename_i sl ci ty v x r
      simp only [mj_sok, Bool.and_eq_true, decide_eq_true_eq, List.contains_iff_mem, Bool.not_eq_true'] at hok
      obtain ⟨⟨⟨⟨o1, o2⟩, o3⟩, o4⟩, o5⟩ := hok
      split at h
      · rename_i ci' fs hsh
        cases hb : Nat.beq ci' ci with
        | false => rw [hb] at h; exact h.elim
        | true =>
          rw [hb] at h
          obtain rfl := Nat.eq_of_beq_eq_true hb
          simp only [cond_true] at h
          split at h
          · rename_i hf
            rcases o5 with ⟨rfl, o5⟩ | ⟨rfl, o5⟩
            · exact mj_r_put hd o1 o2 o3 o4 o5 rfl rfl hsh hf h
            · obtain ⟨h1, h2⟩ := h
              rcases h1 with rfl | rfl
              · exact mj_r_put hd o1 o2 o3 o4 o5 rfl rfl hsh hf h2
              · exact mj_r_put hd o1 o2 o3 o4 o5 rfl rfl hsh hf h2
          · exact h.elim
      · exact h.elim
    · exact h.elim
  case iaload =>
    simp only [mj_s] at h
    split at h
    · split at h
      · rename_i hsh
        exact mj_r_iald hd hsh h.1 h.2
      · exact h.elim
    · exact h.elim
  case baload =>
    simp only [mj_s] at h
    split at h
    · split at h
      · rename_i hsh
        exact mj_r_bald hd hsh h.1 h.2
      · exact h.elim
    · exact h.elim
  case iastore =>
    simp only [mj_s] at h
    split at h
    · split at h
      · rename_i hsh
        exact mj_r_iast hd hsh h.1 h.2
      · exact h.elim
    · exact h.elim
  case bastore =>
    simp only [mj_s] at h
    split at h
    · split at h
      · rename_i hsh
        exact mj_r_bast hd hsh h.1 h.2
      · exact h.elim
    · exact h.elim
  all_goals exact False.elim h
