-- THE LAW'S METHODS, F: a link is served
section LWF
variable {Z Y X : mj_M} {K : mj_K} {p l r t a b i : Nat} {v : Nat → Int32}
theorem mz_v0 (M : mj_M) : mj_v M 0 = M := by
  funext q
  show M (0 + q) = M q
  rw [Nat.zero_add]
theorem mz_mg0 (M : mj_M) (n : Nat) : mj_mg M 0 n M = M := by
  funext q
  unfold mj_mg
  split
  · rw [Nat.sub_zero]
  · rfl
theorem mz_k20 {lv k d pc : Nat} {ls : List (Option Value)} {rest : List Value} {M : mj_M} {n cn : Nat} {r : Option FieldType} {x : Int32} (h : mj_W lv k d pc ls (mj_pu r x rest) M cn K) : mj_k2 lv k d pc ls rest M 0 n cn r K 0 x M := by
  show mj_W lv k d pc ls (mj_pu r x rest) (mj_mg M 0 n M) cn K
  rw [mz_mg0]
  exact h
abbrev mz_LS (l : Nat) (x6 x7 x8 x9 : Int32) (o10 o11 o12 o13 o14 o15 o16 o17 : Option Value) : List (Option Value) := [some (.ref 0), some (.ref 1), some (.ref 2), some (.ref 4), some (.ref 5), some (.int (nI l)), some (.int x6), some (.int x7), some (.int x8), some (.int x9), o10, o11, o12, o13, o14, o15, o16, o17]
/-- who may be taken -/
def mz_C (Y : mj_M) (v : Nat → Int32) (l m k : Nat) : Prop := v k = nI l ∧ Y 21 k = 0 ∧ m.testBit k = false
def mz_fh (Y : mj_M) (v : Nat → Int32) (l m hi : Nat) (f : Int32) : Prop := (f = -1 ∧ ∀ j, j < hi → ¬ mz_C Y v l m j) ∨ ∃ i, i < hi ∧ f = nI i ∧ mz_C Y v l m i ∧ ∀ j, j < hi → mz_C Y v l m j → j = i ∨ mj_ah Y l i j
theorem mz_bts (h : mj_S Y) : mz_bt Y := fun q hq => (h.2.2.2.1 q hq).2.1
theorem mz_scanL (h : mj_S Y) (hB : mz_B Y) (hl : l < mj_nl Y) (hv : ∀ k, k < mj_np Y → X 5 k = v k) {m : Nat} (hm : m < 256) {x6 x7 x9 : Int32} (hK : ∀ f x11 o12 o13 o14 o15 o16 o17, mz_fh Y v l m (mj_np Y) f → Y 20 0 ≤ x11 → mj_W 3 101 3 81 (mz_LS l x6 x7 (nI m) x9 (some (.int f)) (some (.int x11)) o12 o13 o14 o15 o16 o17) [] (mz Y X) 0 K) : ∀ o12 o13 o14 o15 o16 o17, mj_W 3 101 3 81 (mz_LS l x6 x7 (nI m) x9 (some (.int (-1))) (some (.int 0)) o12 o13 o14 o15 o16 o17) [] (mz Y X) 0 K := by
  have hbt := mz_bts h
  have hP := hB.2.2.1
  have hl5 := mz_l5 hB hl
  have key : ∀ k, k ≤ mj_np Y → ∀ f o12 o13 o14 o15 o16 o17, mz_fh Y v l m k f → mj_W 3 101 3 81 (mz_LS l x6 x7 (nI m) x9 (some (.int f)) (some (.int (nI k))) o12 o13 o14 o15 o16 o17) [] (mz Y X) 0 K := by
    intro k hk
    obtain ⟨d, hd⟩ : ∃ d, d = mj_np Y - k := ⟨_, rfl⟩
    induction d generalizing k with
    | zero =>
      intro f o12 o13 o14 o15 o16 o17 hf
      have e : k = mj_np Y := by omega
      subst e
      exact hK f _ _ _ _ _ _ _ hf (mj_pe h rfl)
    | succ d ih =>
      intro f o12 o13 o14 o15 o16 o17 hf
      have hk2 : k < mj_np Y := by omega
      have hk8 := mz_p8 hB hk2
      have ck : (nI k).toNatClampNeg = k := nI_clamp (by omega)
      have fin : ∀ (x12 : Int32) (f' : Int32), mz_fh Y v l m (k + 1) f' → mj_W 3 101 3 159 (mz_LS l x6 x7 (nI m) x9 (some (.int f)) (some (.int (nI k))) (some (.int x12)) o13 o14 o15 o16 o17) [.int f'] (mz Y X) 0 K := by
        intro x12 f' hf'
        refine t101_159 ?_
        rw [nI_1]
        exact ih (k + 1) (by omega) (by omega) f' _ _ _ _ _ _ hf'
      have keep : (¬ mz_C Y v l m k ∨ ∃ i, i < k ∧ f = nI i ∧ mz_C Y v l m i ∧ ¬ mj_ah Y l k i) → mz_fh Y v l m (k + 1) f := by
        intro c
        rcases hf with ⟨e, g⟩ | ⟨i, g1, g2, g3, g4⟩
        · rcases c with c | ⟨i, c1, c2, c3, c4⟩
          · refine Or.inl ⟨e, fun j hj => ?_⟩
            by_cases q : j = k
            · subst q; exact c
            · exact g j (by omega)
          · exact absurd c3 (g i c1)
        · refine Or.inr ⟨i, by omega, g2, g3, fun j hj hc => ?_⟩
          by_cases q : j = k
          · subst q
            rcases c with c | ⟨i', c1, c2, c3, c4⟩
            · exact absurd hc c
            · have : i' = i := (nI_eq (by omega) (by omega)).mp (c2.symm.trans g2)
              subst this
              exact Or.inr (mz_ah_to hbt (by omega) (by omega) (by omega) c4)
          · exact g4 j (by omega) hc
      have no : ¬ mz_C Y v l m k → mj_W 3 101 3 126 (mz_LS l x6 x7 (nI m) x9 (some (.int f)) (some (.int (nI k))) o12 o13 o14 o15 o16 o17) [.int 0] (mz Y X) 0 K := fun c => t101_126 ⟨fun _ => fin _ f (keep (Or.inl c)), fun z => absurd rfl z⟩
      have yes : mz_C Y v l m k → mj_W 3 101 3 126 (mz_LS l x6 x7 (nI m) x9 (some (.int f)) (some (.int (nI k))) o12 o13 o14 o15 o16 o17) [.int 1] (mz Y X) 0 K := by
        intro c
        refine t101_126 ⟨fun z => absurd z (by decide), fun _ => ⟨fun z => fin _ (nI k) ?_, fun z => ?_⟩⟩
        · rcases hf with ⟨e, g⟩ | ⟨i, g1, g2, g3, g4⟩
          · refine Or.inr ⟨k, by omega, rfl, c, fun j hj hc => ?_⟩
            by_cases q : j = k
            · exact Or.inl q
            · exact absurd hc (g j (by omega))
          · rw [g2] at z
            exact absurd z (nI_pos (by omega))
        · rcases hf with ⟨e, g⟩ | ⟨i, g1, g2, g3, g4⟩
          · rw [e] at z
            exact absurd (by decide) z
          · have g2' := g2
            rw [g2]
            rw [mz_v0]
            refine sp100 hB hl hk2 (show i < mj_np Y by omega) ⟨hbt _ hk2, hbt _ (by omega)⟩ (mz_k20 ?_)
            refine t101_149 ⟨fun y => ?_, fun y => ?_⟩
            · rw [mj_bi0] at y
              rw [← g2']
              exact fin _ f (keep (Or.inr ⟨i, g1, g2', g3, y⟩))
            · rw [mj_bi1] at y
              rw [← g2']
              refine fin _ (nI k) (Or.inr ⟨k, by omega, rfl, c, fun j hj hc => ?_⟩)
              by_cases q : j = k
              · exact Or.inl q
              · rcases g4 j (by omega) hc with w | w
                · rw [w]; exact Or.inr y
                · exact Or.inr (mz_ah_tr hbt (by omega) (by omega) (by omega) y w)
      refine t101_81 ⟨fun c => absurd c (mj_ps h hk2), fun _ => ⟨vp_in_nI (by omega) (by decide), ?_⟩⟩
      rw [ck, mz_5, hv k hk2]
      simp only [mz_rP0 hk8, mz_wP0 hk8, eq_true (mz_vP0 hk8), mz_rP1 hk8, mz_wP1 hk8, eq_true (mz_vP1 hk8), mz_rP2 hk8, mz_wP2 hk8, eq_true (mz_vP2 hk8), mz_rP3 hk8, mz_wP3 hk8, eq_true (mz_vP3 hk8), mz_rP4 hk8, mz_wP4 hk8, eq_true (mz_vP4 hk8), mz_rP5 hk8, mz_wP5 hk8, eq_true (mz_vP5 hk8), mz_rP6 hk8, mz_wP6 hk8, eq_true (mz_vP6 hk8), mz_rP7 hk8, mz_wP7 hk8, eq_true (mz_vP7 hk8), true_and]
      rw [mz_bit1 m hm k hk8]
      refine ⟨fun c => no (fun z => c z.1), fun c => ⟨fun c2 => no (fun z => c2 z.2.1), fun c2 => ⟨fun c3 => no (fun z => c3 (by rw [z.2.2]; rfl)), fun c3 => yes ⟨c, c2, ?_⟩⟩⟩⟩
      cases hb : m.testBit k with
      | false => rfl
      | true => rw [hb] at c3; exact absurd c3 (by decide)
  intro o12 o13 o14 o15 o16 o17
  exact key 0 (Nat.zero_le _) (-1) _ _ _ _ _ _ (Or.inl ⟨rfl, fun j hj => absurd hj (Nat.not_lt_zero j)⟩)
/-- those marked go, one after the other -/
theorem mz_bk_c {r0 b0 : Int32} {S S' : Nat → Bool} (h : ∀ q, q < mj_np Z → S q = S' q) : mj_bk l r0 b0 S Z = mj_bk l r0 b0 S' Z := by
  funext c q
  unfold mj_bk
  rw [mj_cb_c (mj_np Z) h]
  by_cases hq : q < mj_np Z
  · rw [h q hq]
  · simp only [hq, false_and, and_false, if_false]
theorem mz_bk_0 {r0 b0 : Int32} {S : Nat → Bool} (h : ∀ q, q < mj_np Z → S q = false) : mj_bk l r0 b0 S Z = Z := by
  have e : mj_cb S (mj_np Z) = 0 := mj_cb_0 _ h
  funext c q
  unfold mj_bk
  rw [e]
  have z0 : ∀ x : Int32, x + nI 0 = x := mz_a0
  simp only [z0, ite_self]
  have n1 : ¬ (q < mj_np Z ∧ S q = true) := fun z => by rw [h q z.1] at z; exact absurd z.2 (by decide)
  rw [if_neg (fun z => n1 z.2), if_neg (fun z => n1 z.2), if_neg (fun z => n1 z.2)]
  split
  · rename_i z; rw [z.1]
  · split
    · rename_i z; rw [z.1]
    · rfl
/-- one more of them -/
theorem mz_bk_s {r0 b0 : Int32} {S S' : Nat → Bool} {k : Nat} (hk : k < mj_np Z) (hS : S k = false) (hS' : ∀ q, S' q = (S q || decide (q = k))) : ∀ c, c ≠ 4 → mj_bk l r0 b0 S' Z c = mj_u (mj_u (mj_u (mj_u (mj_u (mj_bk l r0 b0 S Z) 22 k b0) 21 k 1) 26 k (Z 0 5 + Z 12 l)) 6 r0.toNatClampNeg (mj_bk l r0 b0 S Z 6 r0.toNatClampNeg + 1)) (if r0 = Z 10 l then 14 else 15) l (mj_bk l r0 b0 S Z (if r0 = Z 10 l then 14 else 15) l + 1) c := by
  have hcb : mj_cb S' (mj_np Z) = mj_cb S (mj_np Z) + 1 := by
    have h1 := mj_cb_S (fun q => decide (q = k)) S S' (mj_np Z) (fun j hj hs => by
      rw [hS' j]
      have : decide (j = k) = false := hs
      rw [this, Bool.or_false])
    have h2 : mj_cb (fun j => decide (j = k) && S j) (mj_np Z) = 0 := mj_cb_0 _ (fun j hj => by
      by_cases e : j = k
      · subst e; rw [hS]; exact Bool.and_false _
      · rw [decide_eq_false e]; rfl)
    have h3 : mj_cb (fun j => decide (j = k) && S' j) (mj_np Z) = 1 := by
      rw [← mj_cb_1 (mj_np Z) hk]
      refine mj_cb_c _ (fun j hj => ?_)
      rw [hS' j]
      by_cases e : j = k
      · rw [decide_eq_true e, Bool.or_true]; rfl
      · rw [decide_eq_false e]; rfl
    rw [h2, h3] at h1
    omega
  have hn1 : ∀ x : Int32, ∀ n : Nat, x + nI (n + 1) = x + nI n + 1 := fun x n => by rw [← nI_1]; grind
  have h45 : (if r0 = Z 10 l then 14 else 15) = 14 ∨ (if r0 = Z 10 l then 14 else 15) = 15 := by
    split
    · exact Or.inl rfl
    · exact Or.inr rfl
  intro c hc
  funext q
  have sS : S' q = true ↔ S q = true ∨ q = k := by
    rw [hS' q, Bool.or_eq_true, decide_eq_true_eq]
  generalize hx : (if r0 = Z 10 l then 14 else 15) = x at h45 ⊢
  simp only [mj_u_at]
  by_cases e22 : c = 22
  · subst e22
    rw [if_neg (by omega), if_neg (by omega), if_neg (by omega), if_neg (by omega), mj_bk_22, mj_bk_22]
    by_cases e : q = k
    · subst e
      rw [if_pos ⟨hk, sS.mpr (Or.inr rfl)⟩, if_pos ⟨rfl, rfl⟩]
    · rw [if_neg (show ¬ (22 = 22 ∧ q = k) from fun z => e z.2)]
      by_cases s : q < mj_np Z ∧ S q = true
      · rw [if_pos s, if_pos ⟨s.1, sS.mpr (Or.inl s.2)⟩]
      · rw [if_neg s, if_neg (fun z => s ⟨z.1, (sS.mp z.2).resolve_right e⟩)]
  · by_cases e21 : c = 21
    · subst e21
      rw [if_neg (by omega), if_neg (by omega), if_neg (by omega), mj_bk_21, mj_bk_21]
      by_cases e : q = k
      · subst e
        rw [if_pos ⟨hk, sS.mpr (Or.inr rfl)⟩, if_pos ⟨rfl, rfl⟩]
      · rw [if_neg (show ¬ (21 = 21 ∧ q = k) from fun z => e z.2), if_neg (show ¬ (21 = 22 ∧ q = k) from fun z => absurd z.1 (by omega))]
        by_cases s : q < mj_np Z ∧ S q = true
        · rw [if_pos s, if_pos ⟨s.1, sS.mpr (Or.inl s.2)⟩]
        · rw [if_neg s, if_neg (fun z => s ⟨z.1, (sS.mp z.2).resolve_right e⟩)]
    · by_cases e26 : c = 26
      · subst e26
        rw [if_neg (by omega), if_neg (by omega), mj_bk_26, mj_bk_26]
        by_cases e : q = k
        · subst e
          rw [if_pos ⟨hk, sS.mpr (Or.inr rfl)⟩, if_pos ⟨rfl, rfl⟩]
        · rw [if_neg (show ¬ (26 = 26 ∧ q = k) from fun z => e z.2), if_neg (show ¬ (26 = 21 ∧ q = k) from fun z => absurd z.1 (by omega)), if_neg (show ¬ (26 = 22 ∧ q = k) from fun z => absurd z.1 (by omega))]
          by_cases s : q < mj_np Z ∧ S q = true
          · rw [if_pos s, if_pos ⟨s.1, sS.mpr (Or.inl s.2)⟩]
          · rw [if_neg s, if_neg (fun z => s ⟨z.1, (sS.mp z.2).resolve_right e⟩)]
      · by_cases e6 : c = 6
        · subst e6
          rw [if_neg (by omega), mj_bk_6, mj_bk_6, hcb]
          by_cases e : q = r0.toNatClampNeg
          · rw [if_pos e, if_pos ⟨rfl, e⟩, if_pos rfl, e, hn1]
          · rw [if_neg e, if_neg (show ¬ (6 = 6 ∧ q = r0.toNatClampNeg) from fun z => e z.2), if_neg (show ¬ (6 = 26 ∧ q = k) from fun z => absurd z.1 (by omega)), if_neg (show ¬ (6 = 21 ∧ q = k) from fun z => absurd z.1 (by omega)), if_neg (show ¬ (6 = 22 ∧ q = k) from fun z => absurd z.1 (by omega))]
            rw [mj_bk_6, if_neg e]
        · by_cases ex : c = x
          · subst ex
            have hcx : c = 14 ∨ c = 15 := by omega
            rw [mj_bk_x hcx, mj_bk_x hcx, hx, hcb]
            by_cases e : q = l
            · rw [if_pos (show c = c ∧ q = l from ⟨rfl, e⟩), if_pos (show c = c ∧ q = l from ⟨rfl, e⟩), if_pos (show c = c ∧ l = l from ⟨rfl, rfl⟩), e, hn1]
            · rw [if_neg (show ¬ (c = c ∧ q = l) from fun z => e z.2), if_neg (show ¬ (c = c ∧ q = l) from fun z => e z.2), if_neg (show ¬ (c = 6 ∧ q = r0.toNatClampNeg) from fun z => e6 z.1), if_neg (show ¬ (c = 26 ∧ q = k) from fun z => absurd z.1 (by omega)), if_neg (show ¬ (c = 21 ∧ q = k) from fun z => absurd z.1 (by omega)), if_neg (show ¬ (c = 22 ∧ q = k) from fun z => absurd z.1 (by omega))]
              rw [mj_bk_x hcx, hx, if_neg (show ¬ (c = c ∧ q = l) from fun z => e z.2)]
          · rw [if_neg (fun z => ex z.1), if_neg (fun z => e6 z.1), if_neg (fun z => e26 z.1), if_neg (fun z => e21 z.1), if_neg (fun z => e22 z.1)]
            by_cases c14 : c = 14 ∨ c = 15
            · rw [mj_bk_x c14, mj_bk_x c14, hx, if_neg (fun z => ex z.1), if_neg (fun z => ex z.1)]
            · rw [mj_bk_o (by omega), mj_bk_o (by omega)]
end LWF
