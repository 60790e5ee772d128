-- THE CLASS AND THE LAW'S ROWS IN ONE WORLD
def mz_j (C L : mj_M) : mj_M := fun q => if q < 81 then C q else L (q - 81)
section LWN
variable {Z Z' X X' C C' L L' : mj_M} {K : mj_K} {p l r t a b i : Nat} {v : Int32}
theorem mz_j81 : mz_j C L 81 = L 0 := rfl
theorem mz_j82 : mz_j C L 82 = L 1 := rfl
theorem mz_j83 : mz_j C L 83 = L 2 := rfl
theorem mz_j84 : mz_j C L 84 = L 3 := rfl
theorem mz_j85 : mz_j C L 85 = L 4 := rfl
theorem mz_ju (c : Nat) : mj_u (mz_j C L) (81 + c) i v = mz_j C (mj_u L c i v) := by
  funext q
  by_cases e : q = 81 + c
  · subst e
    rw [mj_u_same]
    unfold mz_j
    rw [if_neg (by omega), if_neg (by omega), show 81 + c - 81 = c by omega, mj_u_same]
  · rw [mj_u_ne _ _ _ e]
    unfold mz_j
    split
    · rfl
    · rw [mj_u_ne _ _ _ (by omega)]
theorem mz_ju81 : mj_u (mz_j C L) 81 i v = mz_j C (mj_u L 0 i v) := mz_ju 0
theorem mz_ju82 : mj_u (mz_j C L) 82 i v = mz_j C (mj_u L 1 i v) := mz_ju 1
theorem mz_ju83 : mj_u (mz_j C L) 83 i v = mz_j C (mj_u L 2 i v) := mz_ju 2
theorem mz_ju84 : mj_u (mz_j C L) 84 i v = mz_j C (mj_u L 3 i v) := mz_ju 3
theorem mz_ju85 : mj_u (mz_j C L) 85 i v = mz_j C (mj_u L 4 i v) := mz_ju 4
theorem mz_jv : mj_v (mz_j C L) 81 = L := by
  funext q
  unfold mj_v mz_j
  rw [if_neg (by omega), show 81 + q - 81 = q by omega]
theorem mz_jm0 : mj_mg (mz_j C L) 0 81 C' = mz_j C' L := by
  funext q
  unfold mj_mg mz_j
  by_cases e : q < 81
  · rw [if_pos ⟨Nat.zero_le _, by omega⟩, if_pos e, Nat.sub_zero]
  · rw [if_neg (by omega), if_neg e, if_neg e]
theorem mz_jm5 (h : ∀ c, 5 ≤ c → L c = L c) : mj_mg (mz_j C L) 81 5 L' = mz_j C (fun c => if c < 5 then L' c else L c) := by
  funext q
  unfold mj_mg mz_j
  by_cases e : q < 81
  · rw [if_neg (by omega), if_pos e, if_pos e]
  · rw [if_neg e]
    by_cases e2 : q < 86
    · rw [if_pos (show 81 ≤ q ∧ q < 81 + 5 from ⟨by omega, by omega⟩), if_neg e]
      show L' (q - 81) = if q - 81 < 5 then L' (q - 81) else L (q - 81)
      rw [if_pos (by omega)]
    · rw [if_neg (show ¬ (81 ≤ q ∧ q < 81 + 5) from fun z => e2 (by omega)), if_neg e]
      show L (q - 81) = if q - 81 < 5 then L' (q - 81) else L (q - 81)
      rw [if_neg (by omega)]
def mz_mx (X X' : mj_M) : mj_M := fun c => if c < 5 then X' c else X c
theorem mz_jmz : mj_mg (mz_j C (mz Z X)) 81 5 (mz Z' X') = mz_j C (mz Z' (mz_mx X X')) := by
  rw [mz_jm5 (fun _ _ => rfl)]
  congr 1
  refine mz_ext (fun i => rfl) (fun i => rfl) (fun i => rfl) (fun i => rfl) (fun i => ?_) (fun c i => ?_)
  · show mz_m Z' X' i = mz_m Z' (mz_mx X X') i
    unfold mz_m mz_mx
    rw [if_pos (show 4 < 5 by decide)]
  · show (if c + 5 < 5 then mz Z' X' (c + 5) else mz Z X (c + 5)) i = mz_mx X X' (c + 5) i
    unfold mz_mx
    rw [if_neg (by omega), if_neg (by omega)]
    rfl
theorem mz_jmF (h : ∀ c, c < 5 → L' c = L c) : mj_mg (mz_j C L) 81 5 L' = mz_j C L := by
  rw [mz_jm5 (fun _ _ => rfl)]
  congr 1
  funext c
  split
  · rename_i e; exact h c e
  · rfl
theorem mz_jCL (h : mk_CL Z C) : mk_CL Z (mz_j C L) := by
  obtain ⟨⟨Y, h1, h2⟩, h3⟩ := h
  refine ⟨⟨fun q => if q < 80 then Y q else mz_j C L (1 + q), ?_, h2⟩, ?_⟩
  · funext q
    by_cases e : q < 80
    · have h4 : mj_v (mz_j C L) 1 q = C (1 + q) := by
        unfold mj_v mz_j
        rw [if_pos (by omega)]
      have h5 : C (1 + q) = mj_cc Z Y q := congrFun h1 q
      rw [h4, h5]
      refine mj_cc_ne (fun _ => rfl) (fun _ _ => ⟨rfl, rfl⟩) (fun _ => rfl) (fun _ => rfl) (fun _ => ⟨rfl, rfl⟩) (fun _ => rfl) (fun _ => rfl) ?_
      rw [if_pos e]
    · rw [mj_cc_der _ _ (mk_der (by omega))]
      rw [if_neg e]
      rfl
  · intro c i a b d
    have hc : c ≤ 39 := by
      have h6 : ∀ c, mj_has c = true → c ≤ 40 := by
        intro c hc
        unfold mj_has at hc
        simp only [Bool.or_eq_true, Bool.and_eq_true, beq_iff_eq, decide_eq_true_eq] at hc
        omega
      have := h6 c a
      omega
    have h7 : mz_j C L (41 + c) i = C (41 + c) i := by
      unfold mz_j
      rw [if_pos (by omega)]
    rw [h7]
    exact h3 c i a b d
theorem mz_jk {k d pc : Nat} {ls : List (Option Value)} {rest : List Value} {cn : Nat} {r : Option FieldType} {x : Int32} (h : mj_W 9 k d pc ls (mj_pu r x rest) (mz_j C' L) cn K) : mj_k2 9 k d pc ls rest (mz_j C L) 0 81 cn r K 0 x C' := by
  show mj_W 9 k d pc ls (mj_pu r x rest) (mj_mg (mz_j C L) 0 81 C') cn K
  rw [mz_jm0]
  exact h
/-- the same when nothing has changed -/
theorem mz_jk' {k d pc : Nat} {ls : List (Option Value)} {rest : List Value} {cn : Nat} {r : Option FieldType} {x : Int32} (h : mj_W 9 k d pc ls (mj_pu r x rest) (mz_j C L) cn K) : mj_k2 9 k d pc ls rest (mz_j C L) 0 81 cn r K 0 x (mz_j C L) := mz_k20 h
theorem mz_jl {k d pc : Nat} {ls : List (Option Value)} {rest : List Value} {cn : Nat} {r : Option FieldType} {x : Int32} (h : mj_W 9 k d pc ls (mj_pu r x rest) (mz_j C (mz Z' (mz_mx X X'))) cn K) : mj_k2 9 k d pc ls rest (mz_j C (mz Z X)) 81 5 cn r K 0 x (mz Z' X') := by
  show mj_W 9 k d pc ls (mj_pu r x rest) (mj_mg (mz_j C (mz Z X)) 81 5 (mz Z' X')) cn K
  rw [mz_jmz]
  exact h
theorem mz_mxX : mz_mx X X = X := by
  funext c
  unfold mz_mx
  split <;> rfl
/-- what holds of the state through the law's loop -/
def mz_H (Z : mj_M) : Prop := mj_Ia Z ∧ mz_B Z ∧ mj_nr Z = 6 ∧ mj_nl Z = 5 ∧ ∀ r, r < 6 → Z 2 r = nI (r / 2)
theorem mz_H.e8 (h : mz_H Z) : Z 8 0 = nI 5 := by
  have := mj_toN h.1.1.1.s.1.2.1.1
  rw [this]
  have h5 : (Z 8 0).toNatClampNeg = 5 := h.2.2.2.1
  rw [h5]
theorem mz_H.e1 (h : mz_H Z) : Z 1 0 = nI 6 := by
  have := mj_toN h.1.1.1.s.1.1.1
  rw [this]
  have h5 : (Z 1 0).toNatClampNeg = 6 := h.2.2.1
  rw [h5]
abbrev mz_LK (x3 x4 x5 x6 : Int32) (o7 o8 : Option Value) : List (Option Value) := [some (.ref 0), some (.ref 82), some (.ref 85), some (.int x3), some (.int x4), some (.int x5), some (.int x6), o7, o8]
theorem sp110 (h : mz_H Z) (hc : mk_CL Z C) {way : Nat} (hw : way ≤ 4) {z : Int32} (hz : 0 ≤ z.toInt) (hK : ∀ Z' C', mz_H Z' → Z' 0 5 = Z 0 5 → mk_CL Z' C' → K 0 1 (mz_j C' (mz Z' X))) : mj_Cm 110 7 [.ref 0, .ref 82, .ref 85, .int (nI way), .int z] (mz_j C (mz Z X)) K := by
  have hI := h.1
  have hB := h.2.1
  have e5 := h.e8
  obtain ⟨li, hli⟩ : ∃ li, li = z.toNatClampNeg % 5 := ⟨_, rfl⟩
  have hl5 : li < 5 := by omega
  have hl : li < mj_nl Z := by rw [h.2.2.2.1]; exact hl5
  have he : z - z / nI 5 * nI 5 = nI li := by
    have := mz_rem hz (show 0 < (nI 5).toInt by decide)
    rw [this, hli]; rfl
  have hlv : vp_in (nI li) (mj_nl Z) := vp_in_nI hl (by have := mj_S_L hI.1.1.s; omega)
  obtain ⟨b16, b17, b18, b19, r1, r2⟩ := hI.1.1.s.2.2.2.2.2.1 li hl
  have cl : ∀ l', l' < mj_nl Z → nI li = nI l' → l' = li := fun l' h1 h2 => ((nI_eq (by omega) (by have := mj_S_L hI.1.1.s; omega)).mp h2).symm
  have nb1 : K 0 1 (mz_j C (mz Z X)) := hK Z C h rfl hc
  have bitv : ∀ {x : Int32}, mj_bit x → (¬ x = 1 → 0 = x) ∧ (x = 1 → 1 = x) := fun {x} hx => ⟨fun z => ((mz_and2 x hx).mp z).symm, fun z => z.symm⟩
  have hdiv : 0 ≤ (z / 5).toInt := by
    have e := mj_toN hz
    rw [e, show (5 : Int32) = nI 5 from rfl, pk_div (by have := fb_rng z; rw [mj_clN]; omega) (by decide) (by decide), nI_toInt (by have := fb_rng z; rw [mj_clN]; omega)]
    exact Int.natCast_nonneg _
  have w5 : way = 0 ∨ way = 1 ∨ way = 2 ∨ way = 3 ∨ way = 4 := by omega
  refine e110 ⟨?_, ?_⟩
  · show ¬ Z 8 0 = 0
    rw [e5]; decide
  · simp only [mz_j85, mz_j82, mz_ju82, mz_rS0, mz_wS0, mz_rS1, mz_wS1, mz_rS2, mz_wS2, mz_rS3, mz_wS3, mz_rS4, mz_wS4, mz_rS5, mz_wS5, e5, he, mz_rL0 hl5, mz_wL0 hl5, eq_true (mz_vL0 hl5), mz_rL1 hl5, mz_wL1 hl5, eq_true (mz_vL1 hl5), mz_rL2 hl5, mz_wL2 hl5, eq_true (mz_vL2 hl5), mz_rL3 hl5, mz_wL3 hl5, eq_true (mz_vL3 hl5), mz_rL4 hl5, mz_wL4 hl5, eq_true (mz_vL4 hl5), mz_rL5 hl5, mz_wL5 hl5, eq_true (mz_vL5 hl5), mz_rL6 hl5, mz_wL6 hl5, eq_true (mz_vL6 hl5), mz_rL7 hl5, mz_wL7 hl5, eq_true (mz_vL7 hl5), mz_rL8 hl5, mz_wL8 hl5, eq_true (mz_vL8 hl5), mz_rL9 hl5, mz_wL9 hl5, eq_true (mz_vL9 hl5), mz_rL10 hl5, mz_wL10 hl5, eq_true (mz_vL10 hl5), true_and]
    rcases w5 with rfl | rfl | rfl | rfl | rfl
    · -- close
      refine ⟨fun c => absurd rfl c, fun _ => ?_⟩
      have hclose : ∀ b : Int32, mj_bit b → mj_W 9 110 7 79 (mz_LK (nI 0) (z / 5) (11 * nI li) (nI li) (some (.int (Z 16 li))) none) [.int b, .int (nI li), .ref 0] (mz_j C (mz (mj_u Z 16 li b) X)) 0 K := by
        intro b hb
        refine t110_79 ⟨by decide, ?_⟩
        rw [mz_v0]
        refine mk_close hI (mz_jCL hc) hb (fun w => absurd hlv w) (fun l' h1 h2 M' hM => mz_jk ?_)
        have := cl l' h1 h2
        subst this
        refine t110_82 ⟨fun w => absurd rfl w, fun _ => t110_92 ⟨by decide, ?_⟩⟩
        rw [mj_nb1]
        exact hK _ _ ⟨md_flag hI (Or.inl ⟨by decide, by decide, hb⟩) hl, hB, h.2.2.1, h.2.2.2.1, h.2.2.2.2⟩ rfl hM
      have h44 : mj_W 9 110 7 44 (mz_LK (nI 0) (z / 5) (11 * nI li) (nI li) none none) [.int (Z 16 li)] (mz_j C (mz Z X)) 0 K := by
        refine t110_44 ⟨fun c => t110_63 ?_, fun c => t110_63 ?_⟩
        · simp only [mz_j82, mz_ju82, mz_rL0 hl5, mz_wL0 hl5, eq_true (mz_vL0 hl5), mz_rL1 hl5, mz_wL1 hl5, eq_true (mz_vL1 hl5), mz_rL2 hl5, mz_wL2 hl5, eq_true (mz_vL2 hl5), mz_rL3 hl5, mz_wL3 hl5, eq_true (mz_vL3 hl5), mz_rL4 hl5, mz_wL4 hl5, eq_true (mz_vL4 hl5), mz_rL5 hl5, mz_wL5 hl5, eq_true (mz_vL5 hl5), mz_rL6 hl5, mz_wL6 hl5, eq_true (mz_vL6 hl5), mz_rL7 hl5, mz_wL7 hl5, eq_true (mz_vL7 hl5), mz_rL8 hl5, mz_wL8 hl5, eq_true (mz_vL8 hl5), mz_rL9 hl5, mz_wL9 hl5, eq_true (mz_vL9 hl5), mz_rL10 hl5, mz_wL10 hl5, eq_true (mz_vL10 hl5), true_and]
          exact ⟨fun _ => hclose 0 (Or.inl rfl), fun w => absurd w c⟩
        · simp only [mz_j82, mz_ju82, mz_rL0 hl5, mz_wL0 hl5, eq_true (mz_vL0 hl5), mz_rL1 hl5, mz_wL1 hl5, eq_true (mz_vL1 hl5), mz_rL2 hl5, mz_wL2 hl5, eq_true (mz_vL2 hl5), mz_rL3 hl5, mz_wL3 hl5, eq_true (mz_vL3 hl5), mz_rL4 hl5, mz_wL4 hl5, eq_true (mz_vL4 hl5), mz_rL5 hl5, mz_wL5 hl5, eq_true (mz_vL5 hl5), mz_rL6 hl5, mz_wL6 hl5, eq_true (mz_vL6 hl5), mz_rL7 hl5, mz_wL7 hl5, eq_true (mz_vL7 hl5), mz_rL8 hl5, mz_wL8 hl5, eq_true (mz_vL8 hl5), mz_rL9 hl5, mz_wL9 hl5, eq_true (mz_vL9 hl5), mz_rL10 hl5, mz_wL10 hl5, eq_true (mz_vL10 hl5), true_and]
          exact ⟨fun w => absurd c w, fun _ => hclose 1 (Or.inr rfl)⟩
      obtain ⟨q0, q1⟩ := bitv b16
      refine ⟨fun c => ?_, fun c => ?_⟩
      · rw [q0 c]; exact h44
      · rw [q1 c]; exact h44
    · -- announce
      refine ⟨fun _ => ⟨fun c => absurd rfl c, fun _ => ?_⟩, fun c => absurd c (by decide)⟩
      have key := mj_down (P := fun k => mj_W 9 110 7 104 (mz_LK (nI 1) (z / 5) (11 * nI li) (nI li) (some (.int (nI (mj_cb (fun l => decide (¬ Z 16 l = 0)) k)))) (some (.int (nI k)))) [] (mz_j C (mz (mj_lo md_an1 k Z) X)) 0 K) (mj_nl Z) ?_ ?_
      · exact key
      · obtain ⟨i1, i2, i3⟩ := md_ann_k hI (mj_nl Z) (Nat.le_refl _)
        refine t110_104 ⟨fun _ => ⟨by decide, ?_⟩, fun c => absurd (mj_lle i1.1.1.s i2.symm) c⟩
        rw [mz_v0]
        refine mk_ann hI (mz_jCL hc) (fun M' hM => mz_jk ?_)
        refine t110_155 ⟨fun w => absurd rfl w, fun _ => t110_165 ⟨by decide, ?_⟩⟩
        rw [mj_nb1]
        have kk : ∀ k, mz_B (mj_lo md_an1 k Z) ∧ (∀ r, r < 6 → mj_lo md_an1 k Z 2 r = nI (r / 2)) ∧ mj_nr (mj_lo md_an1 k Z) = 6 ∧ mj_lo md_an1 k Z 0 = Z 0 := by
          intro k
          induction k with
          | zero => exact ⟨hB, h.2.2.2.2, h.2.2.1, rfl⟩
          | succ k ih => exact ih
        obtain ⟨k1, k2, k3, k4⟩ := kk (mj_nl Z)
        have k4' : md_ann Z 0 5 = Z 0 5 := by
          have := congrFun k4 5
          exact this
        exact hK (md_ann Z) _ ⟨i1, k1, k3, i2.trans h.2.2.2.1, k2⟩ k4' hM
      · intro k hk ih
        obtain ⟨i1, i2, i3⟩ := md_ann_k hI k (by omega)
        have ih' : mj_W 9 110 7 104 (mz_LK (nI 1) (z / 5) (11 * nI li) (nI li) (some (.int (nI (mj_cb (fun l => decide (¬ Z 16 l = 0)) (k + 1))))) (some (.int (nI (k + 1))))) [] (mz_j C (mz (mj_u (mj_lo md_an1 k Z) 17 k (mj_lo md_an1 k Z 16 k)) X)) 0 K := ih
        rw [i3] at ih'
        have hk5 : k < 5 := by have := h.2.2.2.1; omega
        have ecb : mj_cb (fun l => decide (¬ Z 16 l = 0)) (k + 1) = mj_cb (fun l => decide (¬ Z 16 l = 0)) k + (if decide (¬ Z 16 k = 0) = true then 1 else 0) := rfl
        rw [ecb, ← nI_1 k] at ih'
        have bk := (hI.1.1.s.2.2.2.2.2.1 k hk).1
        have e16 : mj_u (mj_lo md_an1 k Z) 17 k (Z 16 k) 16 k = Z 16 k := by
          rw [mj_u_ne _ _ _ (by decide), i3]
        refine t110_104 ⟨fun c => absurd c (mj_lls i1.1.1.s (by rw [i2]; exact hk)), fun _ => ?_⟩
        simp only [mz_j82, mz_ju82, mz_rL0 hk5, mz_wL0 hk5, eq_true (mz_vL0 hk5), mz_rL1 hk5, mz_wL1 hk5, eq_true (mz_vL1 hk5), mz_rL2 hk5, mz_wL2 hk5, eq_true (mz_vL2 hk5), mz_rL3 hk5, mz_wL3 hk5, eq_true (mz_vL3 hk5), mz_rL4 hk5, mz_wL4 hk5, eq_true (mz_vL4 hk5), mz_rL5 hk5, mz_wL5 hk5, eq_true (mz_vL5 hk5), mz_rL6 hk5, mz_wL6 hk5, eq_true (mz_vL6 hk5), mz_rL7 hk5, mz_wL7 hk5, eq_true (mz_vL7 hk5), mz_rL8 hk5, mz_wL8 hk5, eq_true (mz_vL8 hk5), mz_rL9 hk5, mz_wL9 hk5, eq_true (mz_vL9 hk5), mz_rL10 hk5, mz_wL10 hk5, eq_true (mz_vL10 hk5), true_and, i3, e16]
        rcases bk with q | q
        · rw [q]
          rw [q] at ih'
          rw [if_neg (by decide), Nat.add_zero] at ih'
          rw [mz_a0]
          exact ih'
        · rw [q]
          rw [q] at ih'
          rw [if_pos (by decide), ← nI_1 (mj_cb (fun l => decide (¬ Z 16 l = 0)) k)] at ih'
          exact ih'
    · -- meter
      refine ⟨fun _ => ⟨fun _ => ⟨fun c => absurd rfl c, fun _ => ⟨by decide, ?_⟩⟩, fun c => absurd c (by decide)⟩, fun c => absurd c (by decide)⟩
      have ev : z / 5 - z / 5 / 4 * 4 = nI ((z / 5).toNatClampNeg % 4) := by
        have := mz_rem hdiv (show 0 < (nI 4).toInt by decide)
        exact this
      rw [ev]
      have hm4 : (z / 5).toNatClampNeg % 4 < 4 := Nat.mod_lt _ (by decide)
      generalize (z / 5).toNatClampNeg % 4 = m at hm4 ⊢
      have tm : (nI m).toInt = m := nI_toInt (by omega)
      rw [mz_v0]
      refine mk_meter hI (mz_jCL hc) (fun w => absurd hlv w) (fun _ w => absurd ?_ w) (fun l' h1 h2 _ M' hM => mz_jk ?_)
      · refine ⟨nI_pos (by omega), ?_⟩
        rw [mj_lt, tm, show (9 : Int32).toInt = 9 by decide]
        omega
      · have := cl l' h1 h2
        subst this
        refine t110_199 ⟨fun w => absurd rfl w, fun _ => t110_209 ⟨by decide, ?_⟩⟩
        rw [mj_nb1]
        exact hK _ _ ⟨md_flag hI (Or.inr ⟨rfl, by omega, by omega⟩) hl, hB, h.2.2.1, h.2.2.2.1, h.2.2.2.2⟩ rfl hM
    · -- turn
      refine ⟨fun _ => ⟨fun _ => ⟨fun _ => ⟨fun c3 => ⟨fun c => absurd rfl c, fun _ => ⟨by decide, ?_⟩⟩, fun c3 => ⟨by decide, nb1⟩⟩, fun c => absurd c (by decide)⟩, fun c => absurd c (by decide)⟩, fun c => absurd c (by decide)⟩
      rw [mz_v0]
      have hb' : mj_bit (1 - Z 18 li) := by
        rcases b18 with q | q <;> rw [q]
        · exact Or.inr (by decide)
        · exact Or.inl (by decide)
      refine mk_turn hI (mz_jCL hc) (fun w => absurd hlv w) (fun l' h1 h2 w => absurd ?_ w) (fun l' h1 h2 _ M' hM => mz_jk ?_)
      · rw [cl l' h1 h2]; exact c3
      · have := cl l' h1 h2
        subst this
        refine t110_247 ?_
        simp only [mz_j82, mz_ju82, mz_rL0 hl5, mz_wL0 hl5, eq_true (mz_vL0 hl5), mz_rL1 hl5, mz_wL1 hl5, eq_true (mz_vL1 hl5), mz_rL2 hl5, mz_wL2 hl5, eq_true (mz_vL2 hl5), mz_rL3 hl5, mz_wL3 hl5, eq_true (mz_vL3 hl5), mz_rL4 hl5, mz_wL4 hl5, eq_true (mz_vL4 hl5), mz_rL5 hl5, mz_wL5 hl5, eq_true (mz_vL5 hl5), mz_rL6 hl5, mz_wL6 hl5, eq_true (mz_vL6 hl5), mz_rL7 hl5, mz_wL7 hl5, eq_true (mz_vL7 hl5), mz_rL8 hl5, mz_wL8 hl5, eq_true (mz_vL8 hl5), mz_rL9 hl5, mz_wL9 hl5, eq_true (mz_vL9 hl5), mz_rL10 hl5, mz_wL10 hl5, eq_true (mz_vL10 hl5), true_and]
        have e18 : mj_u Z 18 l' (1 - Z 18 l') 18 l' = 1 - Z 18 l' := by rw [mj_u_at, if_pos ⟨rfl, rfl⟩]
        rw [e18]
        have fin : mj_W 9 110 7 271 (mz_LK (nI 3) (z / 5) (11 * nI l') (nI l') none none) [.int 1] (mz_j M' (mz (mj_u Z 18 l' (1 - Z 18 l')) X)) (0 + 2) K := by
          refine t110_271 ⟨by decide, ?_⟩
          rw [mj_nb1]
          exact hK _ _ ⟨md_flag hI (Or.inl ⟨by decide, by decide, hb'⟩) hl, hB, h.2.2.1, h.2.2.2.1, h.2.2.2.2⟩ rfl hM
        obtain ⟨q0, q1⟩ := bitv hb'
        exact ⟨fun c => t110_263 ⟨fun w => absurd (q0 c).symm w, fun _ => fin⟩, fun c => t110_263 ⟨fun w => absurd (q1 c).symm w, fun _ => fin⟩⟩
    · -- stop
      refine ⟨fun _ => ⟨fun _ => ⟨fun _ => ⟨fun c3 => ⟨fun _ => ?_, fun c => absurd c (by decide)⟩, fun c3 => ⟨by decide, nb1⟩⟩, fun c => absurd c (by decide)⟩, fun c => absurd c (by decide)⟩, fun c => absurd c (by decide)⟩
      have ev : z / 5 - z / 5 / 2 * 2 = nI ((z / 5).toNatClampNeg % 2) := by
        have := mz_rem hdiv (show 0 < (nI 2).toInt by decide)
        exact this
      have hm2 : (z / 5).toNatClampNeg % 2 = 0 ∨ (z / 5).toNatClampNeg % 2 = 1 := by omega
      generalize (z / 5).toNatClampNeg % 2 = m at hm2 ev
      have h317 : ∀ b : Int32, mj_bit b → mj_W 9 110 7 317 (mz_LK (nI 4) (z / 5) (11 * nI li) (nI li) (some (.int (Z 19 li))) none) [.int b, .int (nI li), .ref 0] (mz_j C (mz (mj_u Z 19 li b) X)) 0 K := by
        intro b hb
        refine t110_317 ⟨by decide, ?_⟩
        rw [mz_v0]
        refine mk_stop hI (mz_jCL hc) hb (fun w => absurd hlv w) (fun l' h1 h2 w => absurd ?_ w) (fun l' h1 h2 _ M' hM => mz_jk ?_)
        · rw [cl l' h1 h2]; exact c3
        · have := cl l' h1 h2
          subst this
          refine t110_320 ⟨fun w => absurd rfl w, fun _ => t110_330 ⟨by decide, ?_⟩⟩
          rw [mj_nb1]
          refine hK _ _ ⟨md_flag hI (Or.inl ⟨by decide, by decide, hb⟩) hl, ⟨hB.1, hB.2.1, hB.2.2.1, hB.2.2.2.1, hB.2.2.2.2.1, fun k hk hne => ?_⟩, h.2.2.1, h.2.2.2.1, h.2.2.2.2⟩ rfl hM
          show Z 9 k = 3
          have hne' : ¬ mj_u Z 19 l' b 19 k = 0 := hne
          rw [mj_u_at] at hne'
          by_cases e : k = l'
          · rw [e]; exact c3
          · rw [if_neg (fun w => e w.2)] at hne'
            exact hB.2.2.2.2.2 k hk hne'
      have h288 : mj_W 9 110 7 288 (mz_LK (nI 4) (z / 5) (11 * nI li) (nI li) none none) [.int (Z 19 li)] (mz_j C (mz Z X)) 0 K := by
        refine t110_288 ?_
        simp only [mz_j82, mz_ju82, mz_rL0 hl5, mz_wL0 hl5, eq_true (mz_vL0 hl5), mz_rL1 hl5, mz_wL1 hl5, eq_true (mz_vL1 hl5), mz_rL2 hl5, mz_wL2 hl5, eq_true (mz_vL2 hl5), mz_rL3 hl5, mz_wL3 hl5, eq_true (mz_vL3 hl5), mz_rL4 hl5, mz_wL4 hl5, eq_true (mz_vL4 hl5), mz_rL5 hl5, mz_wL5 hl5, eq_true (mz_vL5 hl5), mz_rL6 hl5, mz_wL6 hl5, eq_true (mz_vL6 hl5), mz_rL7 hl5, mz_wL7 hl5, eq_true (mz_vL7 hl5), mz_rL8 hl5, mz_wL8 hl5, eq_true (mz_vL8 hl5), mz_rL9 hl5, mz_wL9 hl5, eq_true (mz_vL9 hl5), mz_rL10 hl5, mz_wL10 hl5, eq_true (mz_vL10 hl5), true_and]
        rw [ev]
        rcases hm2 with q | q
        · rw [q]
          exact ⟨fun _ => h317 0 (Or.inl rfl), fun w => absurd w (by decide)⟩
        · rw [q]
          exact ⟨fun w => absurd rfl w, fun _ => h317 1 (Or.inr rfl)⟩
      obtain ⟨q0, q1⟩ := bitv b19
      refine ⟨fun c => ?_, fun c => ?_⟩
      · rw [q0 c]; exact h288
      · rw [q1 c]; exact h288
end LWN
