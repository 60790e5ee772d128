-- reckon
def mj_Qw (M : mj_M) (w g m a : Nat) : Prop := mj_re (mj_nl M) (mj_arc M (nI (w % 2)) (nI (w / 2))) (mj_sp M) g m a
def mj_L1 (M : mj_M) (w : Nat) (u0 u : Nat → Int32) : Prop := (∀ j, (j < w * 100 ∨ w * 100 + 100 ≤ j) → u j = u0 j) ∧ (∀ a b, a < 10 → b < 10 → 0 ≤ (u (w * 100 + a * 10 + b)).toInt ∧ (u (w * 100 + a * 10 + b)).toInt ≤ 1000 ∧ (a = b → (u (w * 100 + a * 10 + b)).toInt = 0)) ∧ (∀ a b, a < mj_nr M → b < mj_nr M → (u (w * 100 + a * 10 + b)).toInt < 1000 → ∃ m : Nat, (u (w * 100 + a * 10 + b)).toInt = m ∧ mj_Qw M w b m a)
def mj_L2 (M : mj_M) (w : Nat) (S : Nat → Nat → Prop) (u : Nat → Int32) : Prop := ∀ l a b, l < mj_nl M → S l a → mj_arc M (nI (w % 2)) (nI (w / 2)) l a b → (u (w * 100 + a * 10 + b)).toInt ≤ mj_sp M l
/-- row w of the table is right -/
def mj_wr (Z : mj_M) (w : Nat) (u v : Nat → Int32) : Prop := ∀ a g, a < mj_nr Z → g < mj_nr Z → (u (w * 100 + a * 10 + g)).toInt = (if mj_di Z (nI (w % 2)) (nI (w / 2)) a g < 1000 then (mj_di Z (nI (w % 2)) (nI (w / 2)) a g : Int) else 1000) ∧ v (w * 100 + a * 10 + g) = mj_nx Z (nI (w % 2)) (nI (w / 2)) a g
def mj_wt (Z : mj_M) (u v : Nat → Int32) : Prop := ∀ w, w < 4 → mj_wr Z w u v
theorem mj_sp12 {M : mj_M} (hI : mj_In M) {l : Nat} (hl : l < mj_nl M) : (M 12 l).toInt = mj_sp M l := by
  obtain ⟨-, -, -, h3, h4⟩ := hI.2.2 l hl
  unfold mj_sp
  rw [mj_clN]; omega
theorem mj_layS {M : mj_M} {K : mj_K} {w l a : Nat} {u0 u v : Nat → Int32} {S : Nat → Nat → Prop} (hI : mj_In M) (hw : w < 4) (hl : l < mj_nl M) (ha : a < mj_nr M) (h1 : mj_L1 M w u0 u) (h2 : mj_L2 M w S u)
    (hK : ∀ u', mj_L1 M w u0 u' → mj_L2 M w (fun l' a' => S l' a' ∨ (l' = l ∧ a' = a)) u' → K 0 0 (mj_yy M u' v)) : mj_Cm 37 3 [.ref 35, .int (nI w), .int (nI l), .int (nI a), .ref 8] (mj_yy M u v) K := by
  have hR := mj_nrle hI
  have hL := mj_nlle hI
  have s1 := mj_sp12 hI hl
  have s2 := mj_sp15 hI l hl
  refine sp37 hI hw hl ha (fun q => hK u h1 ?_) (fun b hb q => ?_)
  · intro l' a' b' hl' hS hA
    rcases hS with hS | ⟨rfl, rfl⟩
    · exact h2 l' a' b' hl' hS hA
    · exact absurd q (mj_arc_b hR hA).1
  · have hA : mj_arc M (nI (w % 2)) (nI (w / 2)) l a b := ⟨q, ha, hb⟩
    have hne : a ≠ b := by
      rintro rfl
      obtain ⟨e1, e2, e3, -⟩ := hI.2.2 l hl
      have hx : ¬ mj_rb M (nI (w % 2)) (nI (w / 2)) l (nI a) = -1 := by rw [q]; exact mj_nI_m1 (by omega)
      unfold mj_rb at q hx
      split at q
      · rename_i z
        rw [if_pos z] at hx
        unfold mj_beh at q hx
        split at q
        · rename_i y; exact e3 (by rw [q, ← y.1])
        · rename_i y1
          rw [if_neg y1] at hx
          split at q
          · rename_i y; exact e3 (by rw [q, ← y.1])
          · rename_i y2
            rw [if_neg y2] at hx
            exact hx rfl
      · rename_i z
        rw [if_neg z] at hx
        exact hx rfl
    have t1 := h1.2.1 a b (by omega) (by omega)
    have hx : ∀ x : Int32, x = (if M 12 l < u (w * 100 + a * 10 + b) then M 12 l else u (w * 100 + a * 10 + b)) → (x.toInt = if (mj_sp M l : Int) < (u (w * 100 + a * 10 + b)).toInt then (mj_sp M l : Int) else (u (w * 100 + a * 10 + b)).toInt) := by
      rintro x rfl
      by_cases c : M 12 l < u (w * 100 + a * 10 + b)
      · rw [if_pos c]
        rw [mj_lt] at c
        rw [if_pos (by omega), s1]
      · rw [if_neg c]
        rw [mj_lt] at c
        rw [if_neg (by omega)]
    have hx2 := hx _ rfl
    generalize (if M 12 l < u (w * 100 + a * 10 + b) then M 12 l else u (w * 100 + a * 10 + b)) = x at hx2 ⊢
    refine hK _ ⟨fun j hj => ?_, fun p g hp hg => ?_, fun p g hp hg => ?_⟩ (fun l' a' b' hl' hS hA' => ?_)
    · unfold upd
      rw [if_neg (by omega)]
      exact h1.1 j hj
    · unfold upd
      by_cases e : w * 100 + p * 10 + g = w * 100 + a * 10 + b
      · rw [if_pos e, hx2]
        refine ⟨?_, ?_, fun z => ?_⟩
        · split <;> omega
        · split <;> omega
        · omega
      · rw [if_neg e]
        exact h1.2.1 p g hp hg
    · unfold upd
      by_cases e : w * 100 + p * 10 + g = w * 100 + a * 10 + b
      · have ep : p = a := by omega
        have eg : g = b := by omega
        subst ep; subst eg
        rw [if_pos rfl, hx2]
        by_cases c : (mj_sp M l : Int) < (u (w * 100 + p * 10 + g)).toInt
        · rw [if_pos c]
          intro _
          have h3 := mj_re_s (st := mj_sp M) hl hA (mj_re_0 (g := g))
          rw [Nat.zero_add] at h3
          exact ⟨_, rfl, h3⟩
        · rw [if_neg c]
          exact h1.2.2 p g hp hg
      · rw [if_neg e]
        exact h1.2.2 p g hp hg
    · unfold upd
      by_cases e : w * 100 + a' * 10 + b' = w * 100 + a * 10 + b
      · have hp := hA'.2.1
        have hg := hA'.2.2
        have ep : a' = a := by omega
        have eg : b' = b := by omega
        subst ep; subst eg
        rw [if_pos rfl, hx2]
        rcases hS with hS | ⟨rfl, -⟩
        · have := h2 l' a' b' hl' hS hA'
          split <;> omega
        · split <;> omega
      · rw [if_neg e]
        rcases hS with hS | ⟨rfl, rfl⟩
        · exact h2 l' a' b' hl' hS hA'
        · obtain ⟨z1, -, -⟩ := hA
          obtain ⟨z2, z3, z4⟩ := hA'
          rw [z1] at z2
          have : b = b' := (nI_eq (by omega) (by omega)).mp z2
          omega
theorem mj_arc_ft {M : mj_M} {c k : Int32} {l a b : Nat} (hI : mj_In M) (h : mj_arc M c k l a b) : nI a = M 10 l ∨ nI a = M 11 l := by
  obtain ⟨h1, -, -⟩ := mj_arc_b (mj_nrle hI) h |>.1 |> fun z => (⟨z, trivial, trivial⟩ : ¬ mj_rb M c k l (nI a) = -1 ∧ True ∧ True)
  unfold mj_rb at h1
  split at h1
  · unfold mj_beh at h1
    split at h1
    · rename_i y; exact Or.inl y.1
    · split at h1
      · rename_i y; exact Or.inr y.1
      · exact absurd rfl h1
  · exact absurd rfl h1
theorem mj_ftN {M : mj_M} (hI : mj_In M) {l : Nat} (hl : l < mj_nl M) : ∃ f t, M 10 l = nI f ∧ M 11 l = nI t ∧ f < mj_nr M ∧ t < mj_nr M ∧ f ≠ t := by
  obtain ⟨h1, h2, h3, -⟩ := hI.2.2 l hl
  obtain ⟨e1, e2⟩ := mj_vin h1
  obtain ⟨e3, e4⟩ := mj_vin h2
  refine ⟨_, _, e1, e3, e2, e4, fun z => h3 ?_⟩
  rw [e1, e3, z]
theorem mj_lay_l {M : mj_M} {K : mj_K} {w : Nat} {u0 v : Nat → Int32} {o1 o3 : Int32} (hI : mj_In M) (hw : w < 4)
    (hK : ∀ u' x5, mj_L1 M w u0 u' → mj_L2 M w (fun _ _ => True) u' → mj_Cm 38 1 [.ref 35, .int (nI w * 10 * 10), .int o3] (mj_yy M u' v) (mj_k 0 34 4 85 [some (.ref 35), some (.int o1), some (.ref 8), some (.int o3), some (.int (nI w)), some (.int x5)] [] 0 none K)) :
    ∀ (r l : Nat) (u : Nat → Int32), l + r = mj_nl M → mj_L1 M w u0 u → mj_L2 M w (fun l' _ => l' < l) u → mj_W 0 34 4 25 [some (.ref 35), some (.int o1), some (.ref 8), some (.int o3), some (.int (nI w)), some (.int (nI l))] [] (mj_yy M u v) 0 K := by
  have hL := mj_nlle hI
  intro r
  induction r with
  | zero =>
    intro l u hl h1 h2
    have e : l = mj_nl M := by omega
    subst e
    refine t34_25 ⟨fun _ => hK u _ h1 (fun l' a b hl' _ hA => h2 l' a b hl' hl' hA), fun c => absurd ?_ c⟩
    show M 8 0 ≤ nI (mj_nl M)
    rw [mj_nlI hI]
    exact nI_le (Nat.le_refl _) (by omega)
  | succ r ih =>
    intro l u hl h1 h2
    have hl' : l < mj_nl M := by omega
    obtain ⟨f, t, ef, et, hf, ht, hft⟩ := mj_ftN hI hl'
    refine t34_25 ⟨fun c => ?_, fun _ => ⟨vp_in_nI (by omega) (by decide), ?_⟩⟩
    · have c' : M 8 0 ≤ nI l := c
      rw [mj_nlI hI] at c'
      exact absurd c' (nI_ge hl' (by omega))
    · rw [nI_clamp (show l < 2 ^ 31 by omega), show mj_yy M u v 10 l = M 10 l from rfl, ef]
      refine mj_layS hI hw hl' hf h1 h2 (fun u1 q1 q2 => ?_)
      refine t34_50 ⟨vp_in_nI (by omega) (by decide), ?_⟩
      rw [nI_clamp (show l < 2 ^ 31 by omega), show mj_yy M u1 v 11 l = M 11 l from rfl, et]
      refine mj_layS hI hw hl' ht q1 q2 (fun u2 r1 r2 => ?_)
      refine t34_66 ?_
      rw [nI_1]
      refine ih (l + 1) u2 (by omega) r1 (fun l' a b hl2 hS hA => r2 l' a b hl2 ?_ hA)
      by_cases e : l' < l
      · exact Or.inl (Or.inl e)
      · have e2 : l' = l := by omega
        subst e2
        rcases mj_arc_ft hI hA with z | z
        · rw [ef] at z
          exact Or.inl (Or.inr ⟨rfl, (nI_eq (by have := hA.2.1; have := mj_nrle hI; omega) (by have := mj_nrle hI; omega)).mp z⟩)
        · rw [et] at z
          exact Or.inr ⟨rfl, (nI_eq (by have := hA.2.1; have := mj_nrle hI; omega) (by have := mj_nrle hI; omega)).mp z⟩
/-- what the links chosen below c a make of row w -/
def mj_V {M : mj_M} (w : Nat) (n : Nat → Nat) (v0 v : Nat → Int32) : Prop := (∀ j, (j < w * 100 ∨ w * 100 + 100 ≤ j) → v j = v0 j) ∧ ∀ a g, a < mj_nr M → g < mj_nr M → v (w * 100 + a * 10 + g) = mj_ff (fun l => @decide (mj_nP M (nI (w % 2)) (nI (w / 2)) a g l) (Classical.propDecidable _)) (n a)
def mj_U (M : mj_M) (w : Nat) (u : Nat → Int32) : Prop := ∀ a g, a < mj_nr M → g < mj_nr M → (u (w * 100 + a * 10 + g)).toInt = (if mj_di M (nI (w % 2)) (nI (w / 2)) a g < 1000 then (mj_di M (nI (w % 2)) (nI (w / 2)) a g : Int) else 1000)
theorem mj_ff_s {p : Nat → Bool} {k : Nat} (h : p k = false) : mj_ff p (k + 1) = mj_ff p k := by
  show (if mj_ff p k = -1 then (if p k then nI k else -1) else mj_ff p k) = mj_ff p k
  by_cases e : mj_ff p k = -1
  · rw [if_pos e, h, e]; rfl
  · rw [if_neg e]
theorem mj_choS {M : mj_M} {K : mj_K} {w l a : Nat} {u v0 v : Nat → Int32} {n : Nat → Nat} (hI : mj_In M) (hw : w < 4) (hl : l < mj_nl M) (ha : a < mj_nr M) (hu : mj_U M w u) (h1 : mj_V (M := M) w n v0 v) (hn : n a = l)
    (hK : ∀ v', mj_V (M := M) w (fun x => if x = a then l + 1 else n x) v0 v' → K 0 0 (mj_yy M u v')) : mj_Cm 39 3 [.ref 35, .int (nI w), .int (nI l), .int (nI a), .ref 8] (mj_yy M u v) K := by
  have hR := mj_nrle hI
  have hL := mj_nlle hI
  have s1 := mj_sp12 hI hl
  have s2 := mj_sp15 hI l hl
  refine sp39 hI hw hl ha (fun q => hK v ⟨h1.1, fun x g hx hg => ?_⟩) (fun b hb q => hK _ ⟨fun j hj => ?_, fun x g hx hg => ?_⟩)
  · rw [h1.2 x g hx hg]
    dsimp only
    by_cases e : x = a
    · subst e
      rw [if_pos rfl, hn, mj_ff_s]
      exact @decide_eq_false _ (Classical.propDecidable _) (fun z => z.1 q)
    · rw [if_neg e]
  · unfold mj_cz
    rw [if_neg (by omega)]
    exact h1.1 j hj
  · dsimp only
    by_cases e : x = a
    · subst e
      rw [if_pos rfl]
      have hv := h1.2 x g hx hg
      rw [hn] at hv
      have d1 := hu x g hx hg
      have d2 := hu b g hb hg
      have c1 := mj_D_cases (c := nI (w % 2)) (k := nI (w / 2)) hI x g
      have c2 := mj_D_cases (c := nI (w % 2)) (k := nI (w / 2)) hI b g
      have hP : mj_nP M (nI (w % 2)) (nI (w / 2)) x g l ↔ (u (w * 100 + x * 10 + g) < 1000 ∧ u (w * 100 + x * 10 + g) = M 12 l + u (w * 100 + b * 10 + g)) := by
        unfold mj_nP
        rw [q, nI_clamp (show b < 2 ^ 31 by omega), mj_lt, mj_eq (u _), fb_addI (by rw [s1]; split at d2 <;> omega) (by rw [s1]; split at d2 <;> omega), s1, d1, d2, mj_I1000]
        have := mj_nI_m1 (show b < 2 ^ 31 by omega)
        constructor
        · rintro ⟨z1, z2, z3⟩
          rw [if_pos z2, if_pos (by omega)]
          omega
        · rintro ⟨z1, z2⟩
          refine ⟨this, ?_⟩
          split at z1
          · rename_i y
            rw [if_pos y] at z2
            split at z2
            · omega
            · omega
          · omega
      show mj_cz M w l x b 10 u v (w * 100 + x * 10 + g) = (if mj_ff _ l = -1 then (if _ then nI l else -1) else mj_ff _ l)
      unfold mj_cz
      rw [show w * 100 + b * 10 + (w * 100 + x * 10 + g - (w * 100 + x * 10)) = w * 100 + b * 10 + g by omega, hv]
      by_cases y : mj_ff (fun l => @decide (mj_nP M (nI (w % 2)) (nI (w / 2)) x g l) (Classical.propDecidable _)) l = -1
      · rw [if_pos y]
        by_cases z : mj_nP M (nI (w % 2)) (nI (w / 2)) x g l
        · rw [if_pos (show _ from ⟨by omega, by omega, y, hP.mp z⟩), if_pos (@decide_eq_true _ (Classical.propDecidable _) z)]
        · rw [if_neg (fun k => z (hP.mpr k.2.2.2)), y, if_neg (fun k => z (@of_decide_eq_true _ (Classical.propDecidable _) k))]
      · rw [if_neg y, if_neg (fun k => y k.2.2.1)]
    · rw [if_neg e]
      unfold mj_cz
      rw [if_neg (by omega)]
      exact h1.2 x g hx hg
theorem mj_cho_l {M : mj_M} {K : mj_K} {w : Nat} {u v0 : Nat → Int32} {o1 o3 : Int32} (hI : mj_In M) (hw : w < 4) (hu : mj_U M w u)
    (hK : ∀ v' x5, mj_V (M := M) w (fun _ => mj_nl M) v0 v' → mj_W 0 34 4 10 [some (.ref 35), some (.int o1), some (.ref 8), some (.int o3), some (.int (nI (w + 1))), some (.int x5)] [] (mj_yy M u v') 0 K) :
    ∀ (r l : Nat) (v : Nat → Int32), l + r = mj_nl M → mj_V (M := M) w (fun _ => l) v0 v → mj_W 0 34 4 88 [some (.ref 35), some (.int o1), some (.ref 8), some (.int o3), some (.int (nI w)), some (.int (nI l))] [] (mj_yy M u v) 0 K := by
  have hL := mj_nlle hI
  have hR := mj_nrle hI
  intro r
  induction r with
  | zero =>
    intro l v hl h1
    have e : l = mj_nl M := by omega
    subst e
    refine t34_88 ⟨fun _ => ?_, fun c => absurd ?_ c⟩
    · rw [nI_1]
      exact hK v _ h1
    · show M 8 0 ≤ nI (mj_nl M)
      rw [mj_nlI hI]
      exact nI_le (Nat.le_refl _) (by omega)
  | succ r ih =>
    intro l v hl h1
    have hl' : l < mj_nl M := by omega
    obtain ⟨f, t, ef, et, hf, ht, hft⟩ := mj_ftN hI hl'
    refine t34_88 ⟨fun c => ?_, fun _ => ⟨vp_in_nI (by omega) (by decide), ?_⟩⟩
    · have c' : M 8 0 ≤ nI l := c
      rw [mj_nlI hI] at c'
      exact absurd c' (nI_ge hl' (by omega))
    · rw [nI_clamp (show l < 2 ^ 31 by omega), show mj_yy M u v 10 l = M 10 l from rfl, ef]
      refine mj_choS hI hw hl' hf hu h1 rfl (fun v1 q1 => ?_)
      refine t34_113 ⟨vp_in_nI (by omega) (by decide), ?_⟩
      rw [nI_clamp (show l < 2 ^ 31 by omega), show mj_yy M u v1 11 l = M 11 l from rfl, et]
      refine mj_choS hI hw hl' ht hu q1 (if_neg (fun z => hft z.symm)) (fun v2 q2 => ?_)
      refine t34_129 ?_
      rw [nI_1]
      refine ih (l + 1) v2 (by omega) ⟨q2.1, fun x g hx hg => ?_⟩
      rw [q2.2 x g hx hg]
      dsimp only
      by_cases e1 : x = t
      · rw [if_pos e1]
      · rw [if_neg e1]
        by_cases e2 : x = f
        · rw [if_pos e2]
        · rw [if_neg e2]
          refine (mj_ff_s (@decide_eq_false _ (Classical.propDecidable _) (fun z => ?_))).symm
          have z1 := z.1
          unfold mj_rb at z1
          split at z1
          · unfold mj_beh at z1
            rw [if_neg (fun y => e2 ((nI_eq (by omega) (by omega)).mp (by rw [y.1, ef]))), if_neg (fun y => e1 ((nI_eq (by omega) (by omega)).mp (by rw [y.1, et])))] at z1
            exact z1 rfl
          · exact z1 rfl
theorem mj_rec_l {M : mj_M} {K : mj_K} (hI : mj_In M) (hK : ∀ u v, mj_wt M u v → K 0 0 (mj_yy M u v)) : ∀ (r w : Nat) (u v : Nat → Int32) (o5 : Option Value), w + r = 4 → (∀ x, x < w → mj_wr M x u v) → mj_W 0 34 4 10 [some (.ref 35), some (.int (nI (mj_nr M))), some (.ref 8), some (.int (nI (mj_nr M))), some (.int (nI w)), o5] [] (mj_yy M u v) 0 K := by
  have hL := mj_nlle hI
  have hR := mj_nrle hI
  intro r
  induction r with
  | zero =>
    intro w u v o5 hw h
    have e : w = 4 := by omega
    subst e
    exact t34_10 ⟨fun _ => hK u v h, fun c => absurd (nI_le (Nat.le_refl 4) (by decide)) c⟩
  | succ r ih =>
    intro w u v o5 hw h
    have hw4 : w < 4 := by omega
    refine t34_10 ⟨fun c => absurd c (nI_ge hw4 (by decide)), fun _ => ?_⟩
    refine sp36 hw4 ?_
    refine t34_22 ?_
    have z1 : mj_L1 M w u (mj_cu w 100 u) := by
      refine ⟨fun j hj => ?_, fun a b ha hb => ?_, fun a b ha hb => ?_⟩
      · unfold mj_cu; rw [if_neg (by omega)]
      · unfold mj_cu
        rw [if_pos (by omega)]
        split
        · refine ⟨by decide, by decide, fun _ => by decide⟩
        · refine ⟨by decide, by decide, fun _ => by omega⟩
      · unfold mj_cu
        rw [if_pos (by omega)]
        split
        · intro _
          have e : a = b := by omega
          subst e
          exact ⟨0, rfl, mj_re_0⟩
        · intro z
          exact absurd z (by decide)
    refine mj_lay_l (u0 := u) hI hw4 (fun u1 x5 q1 q2 => ?_) (mj_nl M) 0 _ (by omega) z1 (fun l' a b hl' hS => absurd hS (by omega))
    have e1 : nI w * 10 * 10 = nI (w * 100) := by
      rw [show (10 : Int32) = nI 10 from rfl, pk_mul, pk_mul, Nat.mul_assoc]
    rw [e1]
    have t3 : mj_T3 (mj_nr M) (fun a b => (u1 (w * 100 + a * 10 + b)).toInt) := fun a b ha hb => ⟨(q1.2.1 a b (by omega) (by omega)).1, (q1.2.1 a b (by omega) (by omega)).2.1, (q1.2.1 a a (by omega) (by omega)).2.2 rfl⟩
    refine sp38 hw4 hR t3 (fun a b ha hb => rfl) (fun u2 q3 => ?_)
    refine t34_85 ?_
    have hU : mj_U M w u2 := by
      intro a g ha hg
      have f3 := mj_Fi_T3 t3 (mj_nr M) (Nat.le_refl _)
      have f4 := mj_Fi_tri t3 (mj_nr M) (Nat.le_refl _)
      have f5 := mj_Fi_snd (Q := fun g m a => mj_Qw M w g m a) (fun v m1 a m2 g y1 y2 => mj_re_trans y1 y2) t3 (fun a b ha hb => q1.2.2 a b ha hb) (mj_nr M) (Nat.le_refl _)
      rw [q3.1 a g (by omega) (by omega)]
      refine mj_D_uniq (v := fun x => mj_Fi (mj_nr M) (fun a b => (u1 (w * 100 + a * 10 + b)).toInt) (mj_nr M) x g) hI (by decide) ?_ ?_ ?_ ?_ hg ha
      · have := (f3 g g hg hg).2.2
        omega
      · intro l x y hl hA
        have y1 := f4 y hA.2.2 x g hA.2.1 hg
        have y2 := mj_Fi_le (R := mj_nr M) (T := fun a b => (u1 (w * 100 + a * 10 + b)).toInt) x y (mj_nr M)
        have y3 := q2 l x y hl trivial hA
        have y4 : mj_Fi (mj_nr M) (fun a b => (u1 (w * 100 + a * 10 + b)).toInt) (mj_nr M) x y ≤ mj_sp M l := Int.le_trans y2 y3
        show mj_Fi (mj_nr M) (fun a b => (u1 (w * 100 + a * 10 + b)).toInt) (mj_nr M) x g ≤ mj_Fi (mj_nr M) (fun a b => (u1 (w * 100 + a * 10 + b)).toInt) (mj_nr M) y g + mj_sp M l
        omega
      · intro x hx hlt
        exact f5 x g hx hg hlt
      · intro x hx
        exact (f3 x g hx hg).2.1
    refine mj_cho_l (v0 := v) hI hw4 hU (fun v2 x5' q4 => ?_) (mj_nl M) 0 _ (by omega) ⟨fun j hj => ?_, fun a g ha hg => ?_⟩
    · refine ih (w + 1) u2 v2 _ (by omega) (fun x hx => ?_)
      by_cases e : x = w
      · subst e
        exact fun a g ha hg => ⟨hU a g ha hg, q4.2 a g ha hg⟩
      · intro a g ha hg
        have hx' : x < w := by omega
        obtain ⟨y1, y2⟩ := h x hx' a g ha hg
        rw [q3.2 _ (by omega), q1.1 _ (by omega), q4.1 _ (by omega)]
        exact ⟨y1, y2⟩
    · unfold mj_cv; rw [if_neg (by omega)]
    · unfold mj_cv; rw [if_pos (by omega)]; rfl
/-- reckon: the table comes out right -/
theorem sp34 {M : mj_M} {K : mj_K} (hI : mj_In M) (hK : ∀ u v, mj_wt M u v → K 0 0 (mj_yy M u v)) : mj_Cm 34 4 [.ref 35, .int (M 1 0), .ref 8] M K := by
  have hR := mj_nrle hI
  refine e34 ?_
  rw [mj_nrI hI, if_neg (show ¬ (10 : Int32) < nI (mj_nr M) from ?_)]
  · have h0 : M = mj_yy M (M 36) (M 37) := by
      funext c
      unfold mj_yy
      by_cases e : c = 36
      · rw [if_pos e, e]
      · rw [if_neg e]
        by_cases e : c = 37
        · rw [if_pos e, e]
        · rw [if_neg e]
    have h1 := mj_rec_l hI hK 4 0 (M 36) (M 37) none (by omega) (fun x hx => absurd hx (by omega))
    rw [← h0] at h1
    exact h1
  · rw [mj_lt, nI_toInt (by omega), show (10 : Int32).toInt = 10 from rfl]
    omega
