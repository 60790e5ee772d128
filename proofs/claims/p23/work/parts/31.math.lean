-- THE MATH OF A SECOND
theorem mj_ring1 (a b : Int32) : a + 1 - b = a - b + 1 := by grind
theorem mj_ring2 (a b : Int32) : a - (b + 1) = a - b - 1 := by grind
theorem mj_ring3 (a b c : Int32) : a - (b + c) = a - b - c := by grind
theorem mj_ring4 {a b c : Int32} (h : a = b + c) : a - c = b := by grind
def mj_pr (s : Nat → Bool) (Z : mj_M) : mj_M := fun c => bif s c then Z c else fun _ => 0
theorem mj_pr_u {s : Nat → Bool} {Z : mj_M} {c i : Nat} {v : Int32} (h : s c = false) : mj_pr s (mj_u Z c i v) = mj_pr s Z := by
  funext c'
  unfold mj_pr
  cases hs : s c' with
  | false => rfl
  | true =>
    simp only [cond_true]
    exact mj_u_ne _ _ _ (by rintro rfl; rw [h] at hs; cases hs)
theorem mj_pr_at {s : Nat → Bool} {Z Z' : mj_M} (h : mj_pr s Z' = mj_pr s Z) {c : Nat} (hc : s c = true) : Z' c = Z c := by
  have h1 := congrFun h c
  unfold mj_pr at h1
  rw [hc] at h1
  exact h1
/-- what stands still while seconds pass -/
def mj_s1 (c : Nat) : Bool := c == 1 || c == 2 || c == 3 || (8 ≤ c && c ≤ 13) || (16 ≤ c && c ≤ 20) || (23 ≤ c && c ≤ 25) || (27 ≤ c && c ≤ 30) || c == 34
/-- what the ways depend on -/
def mj_s2 (c : Nat) : Bool := c == 1 || (8 ≤ c && c ≤ 12) || (16 ≤ c && c ≤ 19)
def mj_lo (f : Nat → mj_M → mj_M) : Nat → mj_M → mj_M
  | 0, Z => Z
  | n + 1, Z => f n (mj_lo f n Z)
def mj_oA (p : Nat) (Z : mj_M) : mj_M := if Z 21 p = 0 ∧ Z 22 p = Z 23 p ∧ Z 2 (Z 22 p).toNatClampNeg = 0 then mj_u (mj_u Z 21 p 3) 6 (Z 22 p).toNatClampNeg (Z 6 (Z 22 p).toNatClampNeg + 1) else Z
def mj_a0 (p : Nat) (Z : mj_M) : mj_M := mj_u (mj_u (mj_u Z 21 p 0) 4 (Z 22 p).toNatClampNeg (Z 4 (Z 22 p).toNatClampNeg - 1)) 5 (Z 22 p).toNatClampNeg (Z 5 (Z 22 p).toNatClampNeg + 1)
def mj_a1 (p : Nat) (Z : mj_M) : mj_M := if Z 21 p = 1 ∧ Z 26 p = Z 0 5 then mj_oA p (mj_a0 p Z) else Z
def mj_arr (Z : mj_M) : mj_M := mj_lo mj_a1 (mj_np Z) Z
abbrev mj_wn (Z : mj_M) (r : Int32) (p : Nat) : Prop := Z 21 p = 0 ∧ Z 22 p = r ∧ Z 23 p = r ∧ ¬ Z 27 p = 0
def mj_fi (Z : mj_M) (r : Int32) : Nat → Int32
  | 0 => -1
  | n + 1 => if mj_wn Z r n ∧ (mj_fi Z r n = -1 ∨ Z 26 n < Z 26 (mj_fi Z r n).toNatClampNeg) then nI n else mj_fi Z r n
abbrev mj_first (Z : mj_M) (t : Nat) : Int32 := mj_fi Z (Z 29 t) (mj_np Z)
def mj_b0 (t p : Nat) (Z : mj_M) : mj_M := mj_u (mj_u (mj_u Z 21 p 2) 6 (Z 29 t).toNatClampNeg (Z 6 (Z 29 t).toNatClampNeg + 1)) 33 t (Z 33 t + 1)
def mj_b1 (t : Nat) (Z : mj_M) : mj_M := if Z 33 t < Z 30 t ∧ ¬ mj_first Z t = -1 then mj_b0 t (mj_first Z t).toNatClampNeg Z else Z
def mj_b2 (t : Nat) (Z : mj_M) : mj_M := if Z 31 t = 0 ∧ Z 33 t < Z 30 t ∧ ¬ mj_first Z t = -1 ∧ Z 32 t < 3 then mj_u (mj_u Z 32 t (Z 32 t + 1)) 31 t 1 else Z
def mj_b3 (t : Nat) (Z : mj_M) : mj_M := mj_u Z 31 t (Z 31 t - 1)
def mj_sv (t : Nat) (Z : mj_M) : mj_M := if 0 < Z 31 t then mj_b2 t (mj_b3 t (mj_lo (fun _ => mj_b1 t) 4 Z)) else Z
def mj_srv (Z : mj_M) : mj_M := mj_lo mj_sv (mj_nt Z) Z
noncomputable def mj_nl1 (Z : mj_M) (p : Nat) : Int32 := if Z 21 p = 0 then mj_nx Z (Z 24 p) (Z 40 p) (Z 22 p).toNatClampNeg (Z 23 p).toNatClampNeg else -1
abbrev mj_cld (Z : mj_M) (x : Int32) : Prop := ¬ x = -1 ∧ ¬ Z 16 x.toNatClampNeg = 0
noncomputable def mj_kn (p : Nat) (Z : mj_M) : mj_M := if mj_cld Z (mj_nl1 Z p) then mj_u Z 40 p 1 else Z
noncomputable def mj_kno (Z : mj_M) : mj_M := mj_lo mj_kn (mj_np Z) Z
noncomputable def mj_nv (Z : mj_M) (p : Nat) : Int32 := if mj_cld Z (mj_nl1 Z p) then -1 else mj_nl1 Z p
abbrev mj_ah (Z : mj_M) (l a b : Nat) : Prop := (Z 9 l = 2 ∧ ¬ Z 24 a = Z 24 b ∧ ¬ Z 24 a = 0) ∨ (¬ (Z 9 l = 2 ∧ ¬ Z 24 a = Z 24 b) ∧ (Z 26 a < Z 26 b ∨ (Z 26 a = Z 26 b ∧ a < b)))
def mj_is (Z : mj_M) (l k : Nat) : Nat → (Nat → Int32) → (Nat → Int32)
  | 0, q => upd q 0 (nI k)
  | a + 1, q => if mj_ah Z l k (q a).toNatClampNeg then mj_is Z l k a (upd q (a + 1) (q a)) else upd q (a + 1) (nI k)
/-- the line of a link: how many, who -/
def mj_ln (Z : mj_M) (v : Nat → Int32) (l : Nat) (q : Nat → Int32) : Nat → Nat × (Nat → Int32)
  | 0 => (0, q)
  | k + 1 => if v k = nI l then ((mj_ln Z v l q k).1 + 1, mj_is Z l k (mj_ln Z v l q k).1 (mj_ln Z v l q k).2) else mj_ln Z v l q k
abbrev mj_mb (Z : mj_M) (p q : Nat) : Prop := Z 25 q = Z 25 p ∧ (Z 21 q = 0 ∨ Z 21 q = 1)
abbrev mj_rd (Z : mj_M) (v : Nat → Int32) (l p q : Nat) : Prop := Z 21 q = 0 ∧ v q = nI l ∧ Z 22 q = Z 22 p
def mj_sz (Z : mj_M) (v : Nat → Int32) (l p : Nat) : Nat := if Z 25 p = -1 then 1 else if mj_cb (fun q => decide (mj_mb Z p q ∧ ¬ mj_rd Z v l p q)) (mj_np Z) = 0 then mj_cb (fun q => decide (mj_mb Z p q)) (mj_np Z) else 0
def mj_ct (Z : mj_M) (r : Nat) (s : Int32) : Nat := mj_cb (fun p => decide (Z 22 p = nI r ∧ Z 21 p = s)) (mj_np Z)
def mj_ra (Z : mj_M) (l : Nat) : Int32 := if Z 19 l = 0 then Z 13 l else (Z 13 l + 1) / 2
abbrev mj_hp (Z : mj_M) (l m d p : Nat) : Prop := (((d + m : Nat) : Int) ≤ (mj_ra Z l).toInt ∨ (d = 0 ∧ 0 < (mj_ra Z l).toInt)) ∧ (Z 2 (mj_beh Z l (Z 22 p)).toNatClampNeg = 0 ∨ ((mj_ct Z (mj_beh Z l (Z 22 p)).toNatClampNeg 0 + mj_ct Z (mj_beh Z l (Z 22 p)).toNatClampNeg 1 + m : Nat) : Int) ≤ (Z 3 (mj_beh Z l (Z 22 p)).toNatClampNeg).toInt)
/-- those of S, who wait in room r, begin on link l, which leads to b -/
def mj_bk (l : Nat) (r b : Int32) (S : Nat → Bool) (Z : mj_M) : mj_M := fun c i =>
  if c = 21 ∧ i < mj_np Z ∧ S i = true then 1
  else if c = 22 ∧ i < mj_np Z ∧ S i = true then b
  else if c = 26 ∧ i < mj_np Z ∧ S i = true then Z 0 5 + Z 12 l
  else if c = 6 ∧ i = r.toNatClampNeg then Z 6 i + nI (mj_cb S (mj_np Z))
  else if c = 4 ∧ i = b.toNatClampNeg then Z 4 i + nI (mj_cb S (mj_np Z))
  else if c = (if r = Z 10 l then 14 else 15) ∧ i = l then Z c i + nI (mj_cb S (mj_np Z))
  else Z c i
abbrev mj_ms (Z : mj_M) (p q : Nat) : Prop := (Z 25 p = -1 ∧ q = p) ∨ (¬ Z 25 p = -1 ∧ Z 25 q = Z 25 p ∧ Z 21 q = 0)
def mj_be1 (v : Nat → Int32) (l p : Nat) (s : mj_M × Nat) : mj_M × Nat := if s.1 21 p = 0 ∧ ¬ mj_sz s.1 v l p = 0 ∧ mj_hp s.1 l (mj_sz s.1 v l p) s.2 p then (mj_bk l (s.1 22 p) (mj_beh s.1 l (s.1 22 p)) (fun q => decide (mj_ms s.1 p q)) s.1, s.2 + mj_sz s.1 v l p) else s
def mj_be (v : Nat → Int32) (l : Nat) (q : Nat → Int32) : Nat → mj_M → mj_M × Nat
  | 0, Z => (Z, 0)
  | n + 1, Z => mj_be1 v l (q n).toNatClampNeg (mj_be v l q n Z)
def mj_lk (v : Nat → Int32) (l : Nat) (Z : mj_M) : mj_M := if Z 16 l = 0 then (mj_be v l (mj_ln Z v l (fun _ => 0) (mj_np Z)).2 (mj_ln Z v l (fun _ => 0) (mj_np Z)).1 Z).1 else Z
def mj_alr (r : Nat) (Z : mj_M) : mj_M := if Z 2 r = 0 then Z else mj_u Z 7 r (if 9 * (Z 3 r).toInt ≤ 10 * (mj_ct Z r 0 : Int) ∨ (Z 7 r = 1 ∧ 7 * (Z 3 r).toInt < 10 * (mj_ct Z r 0 : Int)) then 1 else 0)
def mj_tick (Z : mj_M) : mj_M := mj_u Z 0 5 (Z 0 5 + 1)
/-- a second -/
noncomputable def mj_sec (Z : mj_M) : mj_M :=
  let Z3 := mj_srv (mj_arr (mj_tick Z))
  let Z5 := mj_lo (mj_lk (mj_nv Z3)) (mj_nl Z) (mj_kno Z3)
  mj_lo mj_alr (mj_nr Z) Z5
-- what holds of a station
def mj_S (Z : mj_M) : Prop := mj_In Z ∧ (0 ≤ (Z 20 0).toInt ∧ (Z 20 0).toInt ≤ 120) ∧ (0 ≤ (Z 28 0).toInt ∧ (Z 28 0).toInt ≤ 12) ∧ (∀ p, p < mj_np Z → vp_in (Z 23 p) (mj_nr Z) ∧ mj_bit (Z 24 p) ∧ mj_bit (Z 27 p)) ∧ (∀ r, r < mj_nr Z → 1 ≤ (Z 3 r).toInt ∧ (Z 3 r).toInt ≤ 60) ∧ (∀ l, l < mj_nl Z → mj_bit (Z 16 l) ∧ mj_bit (Z 17 l) ∧ mj_bit (Z 18 l) ∧ mj_bit (Z 19 l) ∧ 0 ≤ (Z 13 l).toInt ∧ (Z 13 l).toInt ≤ 9) ∧ (∀ t, t < mj_nt Z → vp_in (Z 29 t) (mj_nr Z) ∧ 0 ≤ (Z 30 t).toInt ∧ (Z 30 t).toInt ≤ 99) ∧ mj_bit (Z 8 1)
def mj_Da (Z : mj_M) : Prop := ∀ p, p < mj_np Z → (Z 21 p = 0 ∨ Z 21 p = 1 ∨ Z 21 p = 2 ∨ Z 21 p = 3) ∧ vp_in (Z 22 p) (mj_nr Z) ∧ mj_bit (Z 40 p) ∧ 0 ≤ (Z 26 p).toInt ∧ (Z 26 p).toInt ≤ (Z 0 5).toInt + 5
def mj_Db (Z : mj_M) : Prop := ∀ r, r < mj_nr Z → Z 5 r - Z 6 r = nI (mj_ct Z r 0) ∧ Z 4 r = nI (mj_ct Z r 1) ∧ (¬ Z 2 r = 0 → ((mj_ct Z r 0 + mj_ct Z r 1 : Nat) : Int) ≤ (Z 3 r).toInt)
def mj_Dc (Z : mj_M) : Prop := ∀ r, r < mj_nr Z → mj_bit (Z 7 r) ∧ (Z 2 r = 0 → Z 7 r = 0)
def mj_Dd (Z : mj_M) : Prop := ∀ t, t < mj_nt Z → 0 ≤ (Z 33 t).toInt ∧ (Z 33 t).toInt ≤ (Z 30 t).toInt
def mj_De (Z : mj_M) : Prop := 0 ≤ (Z 0 5).toInt ∧ (Z 0 5).toInt ≤ 1000000
def mj_Iv (Z : mj_M) : Prop := mj_S Z ∧ mj_Da Z ∧ mj_Db Z ∧ mj_Dc Z ∧ mj_Dd Z ∧ mj_De Z
theorem mj_Iv.s {Z : mj_M} (h : mj_Iv Z) : mj_S Z := h.1
theorem mj_Iv.a {Z : mj_M} (h : mj_Iv Z) : mj_Da Z := h.2.1
theorem mj_Iv.b {Z : mj_M} (h : mj_Iv Z) : mj_Db Z := h.2.2.1
theorem mj_Iv.c {Z : mj_M} (h : mj_Iv Z) : mj_Dc Z := h.2.2.2.1
theorem mj_Iv.d {Z : mj_M} (h : mj_Iv Z) : mj_Dd Z := h.2.2.2.2.1
theorem mj_Iv.e {Z : mj_M} (h : mj_Iv Z) : mj_De Z := h.2.2.2.2.2
/-- between seconds -/
def mj_On (Z : mj_M) : Prop := ∀ p, p < mj_np Z → Z 21 p = 1 → (Z 0 5).toInt < (Z 26 p).toInt
theorem mj_S_pr {Z Z' : mj_M} (h : mj_pr mj_s1 Z' = mj_pr mj_s1 Z) (hS : mj_S Z) : mj_S Z' := by
  have h1 : mj_S (mj_pr mj_s1 Z') := by rw [h]; exact hS
  exact h1
theorem mj_n_pr {Z Z' : mj_M} (h : mj_pr mj_s1 Z' = mj_pr mj_s1 Z) : mj_np Z' = mj_np Z ∧ mj_nr Z' = mj_nr Z ∧ mj_nl Z' = mj_nl Z ∧ mj_nt Z' = mj_nt Z := by
  have h1 : mj_np (mj_pr mj_s1 Z') = mj_np Z := by rw [h]; rfl
  have h2 : mj_nr (mj_pr mj_s1 Z') = mj_nr Z := by rw [h]; rfl
  have h3 : mj_nl (mj_pr mj_s1 Z') = mj_nl Z := by rw [h]; rfl
  have h4 : mj_nt (mj_pr mj_s1 Z') = mj_nt Z := by rw [h]; rfl
  exact ⟨h1, h2, h3, h4⟩
theorem mj_s12 {Z Z' : mj_M} (h : mj_pr mj_s1 Z' = mj_pr mj_s1 Z) : mj_pr mj_s2 Z' = mj_pr mj_s2 Z := by
  funext c
  unfold mj_pr
  cases hs : mj_s2 c with
  | false => rfl
  | true =>
    simp only [cond_true]
    refine mj_pr_at h ?_
    unfold mj_s2 at hs
    unfold mj_s1
    simp only [Bool.or_eq_true, Bool.and_eq_true, beq_iff_eq, decide_eq_true_eq] at hs ⊢
    omega
theorem mj_wt_pr {Z Z' : mj_M} {u v : Nat → Int32} (h : mj_pr mj_s2 Z' = mj_pr mj_s2 Z) (hw : mj_wt Z u v) : mj_wt Z' u v := by
  have h1 : mj_wt (mj_pr mj_s2 Z') u v := by rw [h]; exact hw
  exact h1
theorem mj_nx_pr {Z Z' : mj_M} (h : mj_pr mj_s2 Z' = mj_pr mj_s2 Z) (c k : Int32) (a g : Nat) : mj_nx Z' c k a g = mj_nx Z c k a g := by
  have h1 : mj_nx (mj_pr mj_s2 Z') c k a g = mj_nx Z c k a g := by rw [h]; rfl
  exact h1
-- counting
theorem mj_cb_S (S P P' : Nat → Bool) : ∀ n, (∀ j, j < n → S j = false → P' j = P j) → mj_cb P' n + mj_cb (fun j => S j && P j) n = mj_cb P n + mj_cb (fun j => S j && P' j) n
  | 0, _ => rfl
  | n + 1, h => by
    have ih := mj_cb_S S P P' n (fun j hj => h j (by omega))
    unfold mj_cb
    cases hs : S n with
    | false =>
      rw [h n (by omega) hs]
      simp only [Bool.false_and, Bool.false_eq_true, if_false]
      omega
    | true =>
      simp only [Bool.true_and]
      omega
theorem mj_cb_c {P Q : Nat → Bool} : ∀ n, (∀ j, j < n → P j = Q j) → mj_cb P n = mj_cb Q n
  | 0, _ => rfl
  | n + 1, h => by
    unfold mj_cb
    rw [mj_cb_c n (fun j hj => h j (by omega)), h n (by omega)]
theorem mj_cb_0 {P : Nat → Bool} : ∀ n, (∀ j, j < n → P j = false) → mj_cb P n = 0
  | 0, _ => rfl
  | n + 1, h => by
    unfold mj_cb
    rw [mj_cb_0 n (fun j hj => h j (by omega)), h n (by omega)]
    rfl
theorem mj_cb_1 {p : Nat} : ∀ n, p < n → mj_cb (fun q => decide (q = p)) n = 1
  | 0, h => by omega
  | n + 1, h => by
    unfold mj_cb
    by_cases e : n = p
    · subst e
      rw [mj_cb_0 n (fun j hj => decide_eq_false (by omega))]
      simp
    · rw [mj_cb_1 n (by omega)]
      simp [e]
theorem mj_cb_pos {P : Nat → Bool} : ∀ n, mj_cb P n = 0 → ∀ j, j < n → P j = false
  | 0, _, j, hj => by omega
  | n + 1, h, j, hj => by
    unfold mj_cb at h
    by_cases e : j = n
    · subst e
      cases hp : P j with
      | false => rfl
      | true => rw [hp] at h; simp at h
    · exact mj_cb_pos n (by omega) j (by omega)
/-- those of S move from (r0, s0) to (r1, s1) -/
theorem mj_ct_mv {Z Z' : mj_M} {S : Nat → Bool} {r0 r1 : Nat} {s0 s1 : Int32} (hr0 : r0 < 10) (hr1 : r1 < 10) (hn : mj_np Z' = mj_np Z) (hS : ∀ p, p < mj_np Z → S p = true → Z 22 p = nI r0 ∧ Z 21 p = s0 ∧ Z' 22 p = nI r1 ∧ Z' 21 p = s1) (ho : ∀ p, p < mj_np Z → S p = false → Z' 22 p = Z 22 p ∧ Z' 21 p = Z 21 p) {x : Nat} (hx : x < 10) (s : Int32) : mj_ct Z' x s + (if x = r0 ∧ s = s0 then mj_cb S (mj_np Z) else 0) = mj_ct Z x s + (if x = r1 ∧ s = s1 then mj_cb S (mj_np Z) else 0) := by
  have h1 := mj_cb_S S (fun p => decide (Z 22 p = nI x ∧ Z 21 p = s)) (fun p => decide (Z' 22 p = nI x ∧ Z' 21 p = s)) (mj_np Z) (fun j hj hs => by
    obtain ⟨e1, e2⟩ := ho j hj hs
    rw [e1, e2])
  have h2 : mj_cb (fun j => S j && decide (Z 22 j = nI x ∧ Z 21 j = s)) (mj_np Z) = if x = r0 ∧ s = s0 then mj_cb S (mj_np Z) else 0 := by
    by_cases c : x = r0 ∧ s = s0
    · rw [if_pos c]
      refine mj_cb_c _ (fun j hj => ?_)
      cases hs : S j with
      | false => rfl
      | true =>
        obtain ⟨e1, e2, -⟩ := hS j hj hs
        rw [e1, e2, c.1, c.2]
        simp
    · rw [if_neg c]
      refine mj_cb_0 _ (fun j hj => ?_)
      cases hs : S j with
      | false => rfl
      | true =>
        obtain ⟨e1, e2, -⟩ := hS j hj hs
        rw [e1, e2]
        simp only [Bool.true_and, decide_eq_false_iff_not]
        rintro ⟨z1, z2⟩
        exact c ⟨((nI_eq (by omega) (by omega)).mp z1).symm, z2.symm⟩
  have h3 : mj_cb (fun j => S j && decide (Z' 22 j = nI x ∧ Z' 21 j = s)) (mj_np Z) = if x = r1 ∧ s = s1 then mj_cb S (mj_np Z) else 0 := by
    by_cases c : x = r1 ∧ s = s1
    · rw [if_pos c]
      refine mj_cb_c _ (fun j hj => ?_)
      cases hs : S j with
      | false => rfl
      | true =>
        obtain ⟨-, -, e1, e2⟩ := hS j hj hs
        rw [e1, e2, c.1, c.2]
        simp
    · rw [if_neg c]
      refine mj_cb_0 _ (fun j hj => ?_)
      cases hs : S j with
      | false => rfl
      | true =>
        obtain ⟨-, -, e1, e2⟩ := hS j hj hs
        rw [e1, e2]
        simp only [Bool.true_and, decide_eq_false_iff_not]
        rintro ⟨z1, z2⟩
        exact c ⟨((nI_eq (by omega) (by omega)).mp z1).symm, z2.symm⟩
  rw [h2, h3] at h1
  unfold mj_ct
  rw [hn]
  exact h1
