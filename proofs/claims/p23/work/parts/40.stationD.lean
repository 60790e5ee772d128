-- THE STATION'S METHODS, D: who begins
section STD
variable {Z Z3 Y : mj_M} {K : mj_K} {p l : Nat}
theorem sp60 (h : mj_Iv Z) {v : Nat → Int32} (hp : p < mj_np Z) (hw : Z 21 p = 0) (hv : ∀ i, i < mj_np Z → Y 38 i = v i) (hK : K 0 (nI (mj_sz Z v l p)) (mj_cc Z Y)) : mj_Cm 60 3 [.ref 0, .int (nI p), .int (nI l)] (mj_cc Z Y) K := by
  have hc := mj_qc h.s hp
  have hP := (mj_S_P h.s).1
  unfold mj_sz at hK
  refine e60 ⟨mj_qv h.s hp, ?_⟩
  rw [hc]
  refine ⟨fun c => ?_, fun c => ?_⟩
  · have c' : ¬ Z 25 p = -1 := c
    rw [if_neg c'] at hK
    refine mj_down (P := fun k => mj_cb (fun q => decide (mj_mb Z p q ∧ ¬ mj_rd Z v l p q)) k = 0 → ∀ o6, mj_W 0 60 3 23 [some (.ref 0), some (.int (nI p)), some (.int (nI l)), some (.int (Z 25 p)), some (.int (nI (mj_cb (fun q => decide (mj_mb Z p q)) k))), some (.int (nI k)), o6] [] (mj_cc Z Y) 0 K) (mj_np Z) ?_ ?_ rfl none
    · intro h0 o6
      rw [if_pos h0] at hK
      exact t60_23 ⟨fun _ => hK, fun c => absurd (mj_pe h.s rfl) c⟩
    · intro k hk ih h0 o6
      have hck := mj_qc h.s hk
      have e1 : mj_cb (fun q => decide (mj_mb Z p q ∧ ¬ mj_rd Z v l p q)) (k + 1) = mj_cb (fun q => decide (mj_mb Z p q ∧ ¬ mj_rd Z v l p q)) k + (if decide (mj_mb Z p k ∧ ¬ mj_rd Z v l p k) = true then 1 else 0) := rfl
      have e2 : mj_cb (fun q => decide (mj_mb Z p q)) (k + 1) = mj_cb (fun q => decide (mj_mb Z p q)) k + (if decide (mj_mb Z p k) = true then 1 else 0) := rfl
      rw [← nI_1] at ih
      have no : ¬ mj_mb Z p k → ∀ o6, mj_W 0 60 3 23 [some (.ref 0), some (.int (nI p)), some (.int (nI l)), some (.int (Z 25 p)), some (.int (nI (mj_cb (fun q => decide (mj_mb Z p q)) k))), some (.int (nI k + 1)), o6] [] (mj_cc Z Y) 0 K := by
        intro c o6
        rw [e1, e2, if_neg (fun z => c (of_decide_eq_true z)), if_neg (fun z => c (of_decide_eq_true z).1), h0] at ih
        exact ih rfl o6
      have bad : mj_mb Z p k → ¬ mj_rd Z v l p k → K 0 0 (mj_cc Z Y) := by
        intro c1 c2
        rw [if_neg (fun z => by
          have := mj_cb_pos _ z k hk
          exact absurd ⟨c1, c2⟩ (of_decide_eq_false this))] at hK
        exact hK
      refine t60_23 ⟨fun c => (mj_ps h.s hk c).elim, fun _ => ⟨mj_qv h.s hk, ?_⟩⟩
      rw [hck, hc]
      refine ⟨fun d1 => no (fun z => d1 z.1) _, fun d1 => ⟨mj_b20 h.s, fun d2 => ?_, fun d2 => ⟨mj_b20 h.s, fun d3 => ?_, fun d3 => ⟨fun d4 => ?_, fun d4 => ⟨mj_qv h.s hp, fun d5 => ?_, fun d5 => ?_⟩⟩⟩⟩⟩
      · rw [mj_q21 h.s hk] at d2
        exact no (fun z => d2 z.2) _
      · rw [mj_q21 h.s hk] at d2
        rw [mj_q20 h.s hk] at d3
        exact bad ⟨d1, d2⟩ (fun z => d3 z.1)
      · rw [mj_q21 h.s hk] at d2
        refine bad ⟨d1, d2⟩ (fun z => d4 ?_)
        show Y 38 k = nI l
        rw [hv k hk]
        exact z.2.1
      · rw [mj_q21 h.s hk] at d2
        exact bad ⟨d1, d2⟩ (fun z => d5 z.2.2)
      · rw [mj_q21 h.s hk] at d2
        rw [mj_q20 h.s hk] at d3
        have d4' : Y 38 k = nI l := d4
        rw [hv k hk] at d4'
        have hmb : mj_mb Z p k := ⟨d1, d2⟩
        have hrd : mj_rd Z v l p k := ⟨d3, d4', d5⟩
        rw [e1, e2, if_neg (fun z => (of_decide_eq_true z).2 hrd), if_pos (decide_eq_true hmb), h0, ← nI_1] at ih
        exact ih rfl _
  · have c' : Z 25 p = -1 := c
    rw [if_pos c'] at hK
    exact hK
theorem mj_f10 (h : mj_S Z) (hl : l < mj_nl Z) : f10 (mj_cc Z Y) (nI l) = mj_ra Z l := by
  have hL := mj_S_L h
  unfold f10
  rw [if_pos (mj_q7 h hl), nI_clamp (by omega)]
  rfl
/-- whether m more have place -/
theorem mj_f4 (h : mj_Iv Z) {b m : Nat} (hb : b < mj_nr Z) (hm : m < 2 ^ 20) : ¬ f4 (mj_cc Z Y) (nI b) (nI m) < nI m ↔ (Z 2 b = 0 ∨ ((mj_ct Z b 0 + mj_ct Z b 1 + m : Nat) : Int) ≤ (Z 3 b).toInt) ∨ m = 0 := by
  have hR := mj_S_R h.s
  obtain ⟨b1, b2, b3⟩ := h.b b hb
  obtain ⟨l1, l2⟩ := h.s.2.2.2.2.1 b hb
  have c1 : mj_ct Z b 0 ≤ 120 := Nat.le_trans (mj_cb_le _ _) (mj_S_P h.s).1
  have c2 : mj_ct Z b 1 ≤ 120 := Nat.le_trans (mj_cb_le _ _) (mj_S_P h.s).1
  have e : Z 3 b + Z 6 b - Z 5 b - Z 4 b = Z 3 b - nI (mj_ct Z b 0) - nI (mj_ct Z b 1) := by
    rw [← b1, ← b2]; grind
  have eI : (Z 3 b - nI (mj_ct Z b 0) - nI (mj_ct Z b 1)).toInt = (Z 3 b).toInt - mj_ct Z b 0 - mj_ct Z b 1 := by
    have n0 := nI_toInt (show mj_ct Z b 0 < 2 ^ 31 by omega)
    have n1 := nI_toInt (show mj_ct Z b 1 < 2 ^ 31 by omega)
    have e1 : (Z 3 b - nI (mj_ct Z b 0)).toInt = (Z 3 b).toInt - mj_ct Z b 0 := by
      rw [fb_subI (by omega) (by omega), n0]
    rw [fb_subI (by omega) (by omega), e1, n1]
  have hq := mj_q0 (Y := Y) h.s (vp_in_nI hb (by omega))
  have r2 : mj_cc Z Y 2 = Z 2 := rfl
  have r3 : mj_cc Z Y 3 = Z 3 := rfl
  have r4 : mj_cc Z Y 4 = Z 4 := rfl
  have r5 : mj_cc Z Y 5 = Z 5 := rfl
  have r6 : mj_cc Z Y 6 = Z 6 := rfl
  unfold f4
  rw [if_pos hq, nI_clamp (show b < 2 ^ 31 by omega), r2, r3, r4, r5, r6, e]
  have nm := nI_toInt (show m < 2 ^ 31 by omega)
  by_cases z : Z 2 b = 0
  · rw [if_pos z]
    exact ⟨fun _ => Or.inl (Or.inl z), fun _ y => by rw [mj_lt] at y; omega⟩
  · rw [if_neg z]
    generalize hx : Z 3 b - nI (mj_ct Z b 0) - nI (mj_ct Z b 1) = x at eI ⊢
    have i0 : (0 : Int32).toInt = 0 := by decide
    constructor
    · intro y
      rw [mj_lt] at y
      by_cases q1 : x < nI m
      · rw [if_pos q1] at y
        rw [mj_lt] at q1
        by_cases q2 : 0 < x
        · rw [if_pos q2] at y
          omega
        · rw [if_neg q2] at y
          rw [i0] at y
          exact Or.inr (by omega)
      · rw [mj_lt] at q1
        exact Or.inl (Or.inr (by omega))
    · intro y q
      rw [mj_lt] at q
      rcases y with (y | y) | y
      · exact z y
      · have q1 : ¬ x < nI m := by rw [mj_lt]; omega
        rw [if_neg q1] at q
        by_cases q2 : 0 < nI m
        · rw [if_pos q2] at q
          omega
        · rw [if_neg q2, i0] at q
          rw [mj_lt, i0] at q2
          omega
      · subst y
        have hpos : ∀ y : Int32, 0 ≤ (if 0 < y then y else 0 : Int32).toInt := fun y => by
          by_cases w : 0 < y
          · rw [if_pos w]
            rw [mj_lt, i0] at w
            omega
          · rw [if_neg w, i0]
            omega
        have := hpos (if x < nI 0 then x else nI 0)
        omega
theorem mj_cc_rb (w x : Int32) : f12 (mj_cc Z Y) x = f12 (Z) x := rfl
/-- the link at hand leads p on -/
theorem mj_f12b (h : mj_Iv Z) (hl : l < mj_nl Z) (hp : p < mj_np Z) {b : Nat} (hb : mj_rb Z (Z 24 p) (Z 40 p) l (Z 22 p) = nI b) : f12 (mj_cc Z Y) (nI l) (mj_cc Z Y 22 p) (mj_cc Z Y 24 p) = nI b := by
  have hL := mj_S_L h.s
  have e := mj_f12 (M := mj_cc Z Y) (x := nI l) (a := Z 22 p) (w := mj_cc Z Y 24 p) (mj_q7 h.s hl) (h.s.2.2.2.1 p hp).2.1 (h.a p hp).2.2.1 rfl
  rw [nI_clamp (by omega)] at e
  have e2 : mj_rb (mj_cc Z Y) (Z 24 p) (Z 40 p) l (Z 22 p) = mj_rb Z (Z 24 p) (Z 40 p) l (Z 22 p) := rfl
  rw [e2, hb] at e
  exact e
theorem mj_ra_b (h : mj_S Z) (hl : l < mj_nl Z) : 0 ≤ (mj_ra Z l).toInt ∧ (mj_ra Z l).toInt ≤ 9 := by
  have := (h.2.2.2.2.2.1 l hl).2.2.2.2
  unfold mj_ra
  split
  · exact this
  · obtain ⟨x, hx, e⟩ : ∃ x : Nat, x ≤ 9 ∧ Z 13 l = nI x := ⟨(Z 13 l).toInt.toNat, by omega, by rw [mj_eq, nI_toInt (by omega)]; omega⟩
    rw [e, nI_1, show (nI (x + 1) : Int32) / 2 = nI ((x + 1) / 2) from pk_div (d := 2) (by omega) (by decide) (by decide), nI_toInt (by omega)]
    omega
theorem sp61 (h : mj_Iv Z) (hl : l < mj_nl Z) (hp : p < mj_np Z) {m d b : Nat} (hm : m < 2 ^ 20 - 1) (hd : d < 2 ^ 20) (h0 : ¬ m = 0) (hY : Y 0 9 = nI d) (hb : b < mj_nr Z) (e1 : mj_rb Z (Z 24 p) (Z 40 p) l (Z 22 p) = nI b) (e2 : mj_beh Z l (Z 22 p) = nI b) (hK : K 0 (mj_bi (mj_hp Z l m d p)) (mj_cc Z Y)) : mj_Cm 61 3 [.ref 0, .int (nI m), .int (nI p), .int (nI l)] (mj_cc Z Y) K := by
  have hc := mj_qc h.s hp
  have hR := mj_S_R h.s
  have hra := mj_ra_b h.s hl
  have cb : (mj_beh Z l (Z 22 p)).toNatClampNeg = b := by rw [e2, nI_clamp (by omega)]
  have e09 : mj_cc Z Y 0 9 = nI d := hY
  have eC : nI d + nI m ≤ mj_ra Z l ↔ ((d + m : Nat) : Int) ≤ (mj_ra Z l).toInt := by
    rw [nI_add, mj_le, nI_toInt (by omega)]
  have place : (f4 (mj_cc Z Y) (nI b) (nI m) < nI m ↔ ¬ (Z 2 b = 0 ∨ ((mj_ct Z b 0 + mj_ct Z b 1 + m : Nat) : Int) ≤ (Z 3 b).toInt)) := by
    have := mj_f4 (Y := Y) h hb (show m < 2 ^ 20 by omega)
    constructor
    · intro z y
      exact this.mpr (Or.inl y) z
    · intro z
      by_cases y : f4 (mj_cc Z Y) (nI b) (nI m) < nI m
      · exact y
      · rcases this.mp y with w | w
        · exact absurd w z
        · exact absurd w h0
  have yes : mj_hp Z l m d p → K 0 1 (mj_cc Z Y) := fun z => by rw [mj_bi_t z] at hK; exact hK
  have no : ¬ mj_hp Z l m d p → K 0 0 (mj_cc Z Y) := fun z => by rw [mj_bi_f z] at hK; exact hK
  have fin : (((d + m : Nat) : Int) ≤ (mj_ra Z l).toInt ∨ (d = 0 ∧ 0 < (mj_ra Z l).toInt)) → (f4 (mj_cc Z Y) (nI b) (nI m) < nI m → K 0 0 (mj_cc Z Y)) ∧ (¬ f4 (mj_cc Z Y) (nI b) (nI m) < nI m → K 0 1 (mj_cc Z Y)) := by
    intro r
    refine ⟨fun z => no (fun y => ?_), fun z => yes ⟨r, ?_⟩⟩
    · have := y.2
      rw [cb] at this
      exact place.mp z this
    · rw [cb]
      by_cases y : Z 2 b = 0 ∨ ((mj_ct Z b 0 + mj_ct Z b 1 + m : Nat) : Int) ≤ (Z 3 b).toInt
      · exact y
      · exact absurd (place.mpr y) z
  refine e61 ⟨mj_b80 h.s, ?_⟩
  rw [e09, mj_f10 h.s hl, hc, mj_f12b h hl hp e1, eC]
  refine ⟨fun c => ⟨mj_qv h.s hp, mj_b80 h.s, mj_b10 h.s, fin (Or.inl c)⟩, fun c => ⟨fun c2 => ⟨mj_qv h.s hp, mj_b80 h.s, no (fun z => ?_)⟩, fun c2 => ⟨fun c3 => ⟨mj_qv h.s hp, mj_b80 h.s, no (fun z => ?_)⟩, fun c3 => ⟨mj_qv h.s hp, mj_b80 h.s, mj_b10 h.s, fin (Or.inr ⟨?_, ?_⟩)⟩⟩⟩⟩
  · rcases z.1 with y | y
    · exact c y
    · exact c2 (by rw [y.1]; rfl)
  · rcases z.1 with y | y
    · exact c y
    · rw [mj_le] at c3
      have i0 : (0 : Int32).toInt = 0 := by decide
      omega
  · exact (nI_eq (by omega) (by omega)).mp (show nI d = nI 0 from c2)
  · rw [mj_le] at c3
    have i0 : (0 : Int32).toInt = 0 := by decide
    omega
-- one begins
def mj_on (l : Nat) (r b : Int32) (p : Nat) (Z : mj_M) : mj_M := mj_u (mj_u (mj_u (mj_u (mj_u (mj_u Z (if r = Z 10 l then 14 else 15) l (Z (if r = Z 10 l then 14 else 15) l + 1)) 6 r.toNatClampNeg (Z 6 r.toNatClampNeg + 1)) 4 b.toNatClampNeg (Z 4 b.toNatClampNeg + 1)) 21 p 1) 22 p b) 26 p (Z 0 5 + Z 12 l)
theorem sp62 (h : mj_Iv Z) (hl : l < mj_nl Z) (hp : p < mj_np Z) {b : Nat} (hb : b < mj_nr Z) (e1 : mj_rb Z (Z 24 p) (Z 40 p) l (Z 22 p) = nI b) (hK : K 0 0 (mj_cc (mj_on l (Z 22 p) (nI b) p Z) (mj_u Y 0 9 (Y 0 9 + 1)))) : mj_Cm 62 3 [.ref 0, .int (nI p), .int (nI l)] (mj_cc Z Y) K := by
  have hc := mj_qc h.s hp
  have hR := mj_S_R h.s
  have hL := mj_S_L h.s
  have cl : (nI l).toNatClampNeg = l := nI_clamp (by omega)
  have vb : vp_in (nI b) (mj_nr Z) := vp_in_nI hb (by omega)
  refine e62 ⟨mj_qv h.s hp, mj_b80 h.s, ?_⟩
  rw [hc, mj_f12b h hl hp e1, cl]
  refine ⟨fun c => absurd (mj_q0 h.s (h.a p hp).2.1) c, fun _ => ⟨fun _ => ⟨vp_in_nI (by omega) (by decide), fun c => ⟨mj_r10 h.s (h.a p hp).2.1, mj_r10 h.s vb, ?_⟩, fun c => ⟨mj_r10 h.s (h.a p hp).2.1, mj_r10 h.s vb, ?_⟩⟩, fun c => absurd (mj_q0 h.s vb) c⟩⟩
  · have c' : ¬ Z 22 p = Z 10 l := c
    unfold mj_on at hK
    rw [if_neg c'] at hK
    rw [mj_cc_w rfl, mj_cc_wz (by decide), mj_cc_w rfl, mj_cc_w rfl, mj_cc_w rfl, mj_cc_w rfl, mj_cc_w rfl]
    exact hK
  · have c' : Z 22 p = Z 10 l := c
    unfold mj_on at hK
    rw [if_pos c'] at hK
    rw [mj_cc_w rfl, mj_cc_wz (by decide), mj_cc_w rfl, mj_cc_w rfl, mj_cc_w rfl, mj_cc_w rfl, mj_cc_w rfl]
    exact hK
/-- one more of many -/
theorem mj_cb_add {S : Nat → Bool} (hS : S p = false) : ∀ n, p < n → mj_cb (fun q => S q || decide (q = p)) n = mj_cb S n + 1
  | 0, h => by omega
  | n + 1, h => by
    unfold mj_cb
    by_cases e : n = p
    · subst e
      have : mj_cb (fun q => S q || decide (q = n)) n = mj_cb S n := mj_cb_c n (fun j hj => by
        rw [decide_eq_false (show ¬ j = n by omega), Bool.or_false])
      rw [this, hS]
      simp
    · have := mj_cb_add hS n (by omega)
      rw [this, decide_eq_false e, Bool.or_false]
      omega
theorem mj_on_bk {r b : Int32} {S : Nat → Bool} (hp : p < mj_np Z) (hS : S p = false) : mj_on l r b p (mj_bk l r b S Z) = mj_bk l r b (fun q => S q || decide (q = p)) Z := by
  have hm := mj_cb_add (p := p) hS (mj_np Z) hp
  have h10 : mj_bk l r b S Z 10 = Z 10 := mj_bk_o (by decide)
  have h12 : mj_bk l r b S Z 12 = Z 12 := mj_bk_o (by decide)
  have h0 : mj_bk l r b S Z 0 = Z 0 := mj_bk_o (by decide)
  funext c i
  unfold mj_on
  rw [h10, h12, h0]
  generalize hx : (if r = Z 10 l then 14 else 15 : Nat) = x
  have hx' : x = 14 ∨ x = 15 := by rw [← hx]; split <;> simp
  have key : mj_bk l r b S Z x l = Z x l + nI (mj_cb S (mj_np Z)) := by
    rw [mj_bk_x hx', hx, if_pos ⟨rfl, rfl⟩]
  rw [mj_u_at, mj_u_at, mj_u_at, mj_u_at, mj_u_at, mj_u_at]
  rw [key, mj_bk_6, mj_bk_4, if_pos rfl, if_pos rfl]
  by_cases c21 : c = 21
  · subst c21
    rw [if_neg (by omega), if_neg (by omega), mj_bk_21, mj_bk_21]
    by_cases e : i = p
    · subst e
      rw [if_pos ⟨rfl, rfl⟩, if_pos ⟨hp, by simp⟩]
    · rw [if_neg (fun z => e z.2), if_neg (by omega), if_neg (by omega), if_neg (by omega)]
      have : (S i || decide (i = p)) = S i := by rw [decide_eq_false e, Bool.or_false]
      rw [this]
  · by_cases c22 : c = 22
    · subst c22
      rw [if_neg (by omega), mj_bk_22, mj_bk_22]
      by_cases e : i = p
      · subst e
        rw [if_pos ⟨rfl, rfl⟩, if_pos ⟨hp, by simp⟩]
      · rw [if_neg (fun z => e z.2), if_neg (by omega), if_neg (by omega), if_neg (by omega), if_neg (by omega)]
        have : (S i || decide (i = p)) = S i := by rw [decide_eq_false e, Bool.or_false]
        rw [this]
    · by_cases c26 : c = 26
      · subst c26
        rw [mj_bk_26, mj_bk_26]
        by_cases e : i = p
        · subst e
          rw [if_pos ⟨rfl, rfl⟩, if_pos ⟨hp, by simp⟩]
        · rw [if_neg (fun z => e z.2), if_neg (by omega), if_neg (by omega), if_neg (by omega), if_neg (by omega), if_neg (by omega)]
          have : (S i || decide (i = p)) = S i := by rw [decide_eq_false e, Bool.or_false]
          rw [this]
      · rw [if_neg (by omega), if_neg (by omega), if_neg (by omega)]
        by_cases c4 : c = 4
        · subst c4
          rw [mj_bk_4, mj_bk_4, hm]
          by_cases e : i = b.toNatClampNeg
          · rw [if_pos ⟨rfl, e⟩, if_pos e, e, ← nI_1]; grind
          · rw [if_neg (fun z => e z.2), if_neg (by omega), if_neg (by omega), if_neg e, if_neg e]
        · rw [if_neg (by omega)]
          by_cases c6 : c = 6
          · subst c6
            rw [mj_bk_6, mj_bk_6, hm]
            by_cases e : i = r.toNatClampNeg
            · rw [if_pos ⟨rfl, e⟩, if_pos e, e, ← nI_1]; grind
            · rw [if_neg (fun z => e z.2), if_neg (by omega), if_neg e, if_neg e]
          · rw [if_neg (by omega)]
            by_cases cx : c = x
            · subst cx
              rw [mj_bk_x hx', mj_bk_x hx', hx, hm]
              by_cases e : i = l
              · rw [if_pos ⟨rfl, e⟩, if_pos ⟨rfl, e⟩, e, ← nI_1]; grind
              · rw [if_neg (fun z => e z.2), if_neg (fun z => e z.2), if_neg (fun z => e z.2)]
            · rw [if_neg (fun z => cx z.1)]
              by_cases c14 : c = 14 ∨ c = 15
              · rw [mj_bk_x c14, mj_bk_x c14, hx, if_neg (fun z => cx z.1), if_neg (fun z => cx z.1)]
              · rw [mj_bk_o (by omega), mj_bk_o (by omega)]
theorem mj_bk_0 {r b : Int32} {S : Nat → Bool} (hS : ∀ q, q < mj_np Z → S q = false) : mj_bk l r b S Z = Z := by
  have hm := mj_cb_0 (P := S) (mj_np Z) hS
  have hz : ∀ x : Int32, x + nI 0 = x := fun x => by
    rw [show (nI 0 : Int32) = 0 from rfl]; grind
  have hn : ∀ q, ¬ (q < mj_np Z ∧ S q = true) := fun q z => by rw [hS q z.1] at z; exact absurd z.2 (by decide)
  funext c i
  unfold mj_bk
  rw [hm, hz, hz, hz, if_neg (fun z => hn i z.2), if_neg (fun z => hn i z.2), if_neg (fun z => hn i z.2)]
  split
  · rename_i z; rw [z.1]
  · split
    · rename_i z; rw [z.1]
    · exact ite_self _
theorem mj_bk_c {r b : Int32} {S S' : Nat → Bool} (hS : ∀ q, q < mj_np Z → S q = S' q) : mj_bk l r b S Z = mj_bk l r b S' Z := by
  have hm := mj_cb_c (P := S) (Q := S') (mj_np Z) hS
  funext c i
  unfold mj_bk
  rw [hm]
  have : ∀ c', (c = c' ∧ i < mj_np Z ∧ S i = true) ↔ (c = c' ∧ i < mj_np Z ∧ S' i = true) := fun c' => by
    constructor
    · rintro ⟨a, b, z⟩; exact ⟨a, b, by rw [← hS i b]; exact z⟩
    · rintro ⟨a, b, z⟩; exact ⟨a, b, by rw [hS i b]; exact z⟩
  simp only [this]
end STD
