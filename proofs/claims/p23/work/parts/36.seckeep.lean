-- a second as a whole
theorem mj_lo_c {f : Nat → mj_M → mj_M} {c : Nat} (h : ∀ k Z, f k Z c = Z c) : ∀ (n : Nat) (Z : mj_M), mj_lo f n Z c = Z c
  | 0, _ => rfl
  | n + 1, Z => by
    show f n (mj_lo f n Z) c = _
    rw [h, mj_lo_c h n Z]
theorem mj_sv_0 (t : Nat) (Z : mj_M) : mj_sv t Z 0 = Z 0 := by
  have h1 : ∀ (k : Nat) (Z : mj_M), mj_b1 t Z 0 = Z 0 := fun _ Z => by
    unfold mj_b1
    split <;> rfl
  have h2 : ∀ Z : mj_M, mj_b2 t Z 0 = Z 0 := fun Z => by
    unfold mj_b2
    split <;> rfl
  unfold mj_sv
  split
  · rw [h2]
    show mj_lo (fun _ => mj_b1 t) 4 Z 0 = Z 0
    exact mj_lo_c h1 4 Z
  · rfl
theorem mj_lk_0 (v : Nat → Int32) (l : Nat) (Z : mj_M) : mj_lk v l Z 0 = Z 0 := by
  have h : ∀ (q : Nat → Int32) (n : Nat) (Z : mj_M), (mj_be v l q n Z).1 0 = Z 0 := by
    intro q n
    induction n with
    | zero => intro Z; rfl
    | succ n ih =>
      intro Z
      show (mj_be1 v l (q n).toNatClampNeg (mj_be v l q n Z)).1 0 = Z 0
      unfold mj_be1
      split
      · dsimp only
        rw [mj_bk_o (by decide), ih]
      · exact ih Z
  unfold mj_lk
  split
  · exact h _ _ _
  · rfl
theorem mj_sec_def (Z : mj_M) : mj_sec Z = mj_lo mj_alr (mj_nr Z) (mj_lo (mj_lk (mj_nv (mj_sec3 Z))) (mj_nl Z) (mj_kno (mj_sec3 Z))) := rfl
theorem mj_sec_ok {Z : mj_M} (h : mj_J Z) (hb : (Z 0 5).toInt < 1000000) : mj_J (mj_sec Z) ∧ mj_pr mj_s1 (mj_sec Z) = mj_pr mj_s1 Z ∧ (mj_sec Z 0 5).toInt = (Z 0 5).toInt + 1 := by
  obtain ⟨h3, p3⟩ := mj_sec3_ok h hb
  obtain ⟨n1, n2, n3, n4⟩ := mj_n_pr p3
  obtain ⟨h5, v5⟩ := mj_lks_ok h3 (mj_nl Z) (by omega)
  obtain ⟨m1, m2, m3, m4⟩ := mj_n_pr v5.1
  obtain ⟨h6, p6⟩ := mj_alr_k h5 (mj_nr Z) (by omega)
  rw [mj_sec_def]
  refine ⟨h6, p6.trans (v5.1.trans p3), ?_⟩
  obtain ⟨t1, t2, t3, t4, t5⟩ := mj_tick_ok h hb
  have e : mj_lo mj_alr (mj_nr Z) (mj_lo (mj_lk (mj_nv (mj_sec3 Z))) (mj_nl Z) (mj_kno (mj_sec3 Z))) 0 = mj_tick Z 0 := by
    rw [mj_lo_c (fun r Z => by unfold mj_alr; split <;> rfl), mj_lo_c (fun l Z => mj_lk_0 _ l Z), (mj_kno_at _).1 0 (by decide)]
    show mj_lo mj_sv _ _ 0 = _
    rw [mj_lo_c mj_sv_0, (mj_arr_ok t1 t2 t3).2.2.2.2]
  rw [e]
  exact t5
