-- THE STATION'S METHODS, C: next links, lines
section STC
variable {Z Y : mj_M} {K : mj_K} {p l : Nat}
theorem mj_nl1_c (h : mj_Iv Z) (hp : p < mj_np Z) : mj_nl1 Z p = -1 ∨ ∃ l, l < mj_nl Z ∧ mj_nl1 Z p = nI l ∧ ¬ mj_rb Z (Z 24 p) (Z 40 p) l (Z 22 p) = -1 := by
  unfold mj_nl1
  by_cases c : Z 21 p = 0
  · rw [if_pos c]
    by_cases z : mj_nx Z (Z 24 p) (Z 40 p) (Z 22 p).toNatClampNeg (Z 23 p).toNatClampNeg = -1
    · exact Or.inl z
    · obtain ⟨l, e1, e2, e3, -⟩ := mj_nx_some h.s.1 z
      refine Or.inr ⟨l, e1, e2, ?_⟩
      have e4 := e3.1
      rw [← (mj_vin (h.a p hp).2.1).1] at e4
      exact e4
  · rw [if_neg c]
    exact Or.inl rfl
theorem mj_nl1_k (h : mj_Iv Z) (hp : p < mj_np Z) (hk : ¬ Z 40 p = 0) : ¬ mj_cld Z (mj_nl1 Z p) := by
  have hL := mj_S_L h.s
  intro c
  rcases mj_nl1_c h hp with e | ⟨l, h1, h2, h3⟩
  · exact c.1 e
  · obtain ⟨b, -, -, -, -, ho, -⟩ := mj_beh_ok h.s.1 h1 h3
    have c2 := c.2
    rw [h2, nI_clamp (by omega)] at c2
    rcases ho with ho | ho
    · exact hk ho.1
    · exact c2 ho.2
theorem mj_q11 (h : mj_Iv Z) (hp : p < mj_np Z) : p11 (mj_cc Z Y) (mj_nl1 Z p) ↔ mj_cld Z (mj_nl1 Z p) := by
  have hL := mj_S_L h.s
  rcases mj_nl1_c h hp with e | ⟨l, h1, h2, h3⟩
  · rw [e]
    constructor
    · intro z
      exact absurd (show (-1 : Int32) < 0 by decide) z.1.1
    · intro z
      exact absurd rfl z.1
  · rw [h2]
    constructor
    · intro z
      exact ⟨mj_nI_m1 (by omega), z.2⟩
    · intro z
      exact ⟨mj_q7 h.s h1, z.2⟩
theorem sp55 (h : mj_J Z) (hw : mj_wt Z (Y 36) (Y 37)) (hK : ∀ Y', Y' 36 = Y 36 → Y' 37 = Y 37 → (∀ i, i < mj_np Z → Y' 38 i = mj_nv Z i) → K 0 0 (mj_cc (mj_kno Z) Y')) : mj_Cm 55 4 [.ref 0] (mj_cc Z Y) K := by
  refine e55 ?_
  refine mj_down (P := fun k => ∀ Y', Y' 36 = Y 36 → Y' 37 = Y 37 → (∀ i, i < k → Y' 38 i = mj_nv Z i) → mj_W 0 55 4 2 [some (.ref 0), some (.int (nI k))] [] (mj_cc (mj_lo mj_kn k Z) Y') 0 K) (mj_np Z) ?_ ?_ Y rfl rfl (fun i hi => absurd hi (Nat.not_lt_zero i))
  · intro Y' y1 y2 y3
    obtain ⟨k1, k2⟩ := mj_kno_k h (mj_np Z) (Nat.le_refl _)
    exact t55_2 ⟨fun _ => hK Y' y1 y2 y3, fun c => absurd (mj_pe k1.1.s (mj_n_pr k2).1.symm) c⟩
  · intro k hk ih Y' y1 y2 y3
    obtain ⟨k1, k2⟩ := mj_kno_k h k (by omega)
    obtain ⟨m1, m2⟩ := mj_kn_l Z k
    have ih' : ∀ Y', Y' 36 = Y 36 → Y' 37 = Y 37 → (∀ i, i < k + 1 → Y' 38 i = mj_nv Z i) → mj_W 0 55 4 2 [some (.ref 0), some (.int (nI (k + 1)))] [] (mj_cc (mj_kn k (mj_lo mj_kn k Z)) Y') 0 K := ih
    generalize mj_lo mj_kn k Z = X at k1 k2 m1 m2 ih' ⊢
    have hpX : k < mj_np X := by rw [(mj_n_pr k2).1]; exact hk
    have e1 : mj_nl1 X k = mj_nl1 Z k := by
      unfold mj_nl1
      rw [m1 21 (by decide), m1 22 (by decide), m1 23 (by decide), m1 24 (by decide), m2 k, if_neg (show ¬ (k < k ∧ _) from fun z => absurd z.1 (Nat.lt_irrefl _)), mj_nx_pr (mj_s12 k2)]
    have e2 : mj_cld X (mj_nl1 X k) ↔ mj_cld Z (mj_nl1 Z k) := by
      rw [e1]
      unfold mj_cld
      rw [m1 16 (by decide)]
    have hwX : mj_wt X (Y' 36) (Y' 37) := by
      rw [y1, y2]
      exact mj_wt_pr (mj_s12 k2) hw
    have hc := mj_qc k1.1.s hpX
    rw [← nI_1] at ih'
    refine t55_2 ⟨fun c => (mj_ps k1.1.s hpX c).elim, fun _ => ?_⟩
    refine sp44 k1.1 hwX hpX ?_
    refine t55_23 ⟨mj_qv k1.1.s hpX, ?_⟩
    rw [hc, mj_cc_wd rfl]
    have hq : ∀ x : Int32, x = mj_nv Z k → ∀ i, i < k + 1 → mj_u Y' 38 k x 38 i = mj_nv Z i := by
      intro x hx i hi
      rw [mj_u_at]
      by_cases e : i = k
      · subst e
        rw [if_pos ⟨rfl, rfl⟩, hx]
      · rw [if_neg (fun z => e z.2)]
        exact y3 i (by omega)
    have no : ¬ mj_cld X (mj_nl1 X k) → mj_W 0 55 4 2 [some (.ref 0), some (.int (nI k + 1))] [] (mj_cc X (mj_u Y' 38 k (mj_nl1 X k))) 0 K := by
      intro c
      have := ih' (mj_u Y' 38 k (mj_nl1 X k)) y1 y2 (hq _ (by
        unfold mj_nv
        rw [if_neg (fun z => c (e2.mpr z)), e1]))
      unfold mj_kn at this
      rw [if_neg c] at this
      exact this
    refine ⟨mj_b20 k1.1.s, fun c => ?_, fun c => ⟨mj_qv k1.1.s hpX, mj_b80 k1.1.s, fun c2 => ?_, fun c2 => ?_⟩⟩
    · rw [mj_q22 k1.1.s (k1.1.a k hpX).2.2.1 hpX] at c
      exact no (mj_nl1_k k1.1 hpX c)
    · refine no (fun z => c2 ?_)
      have e : mj_cc X (mj_u Y' 38 k (mj_nl1 X k)) 38 k = mj_nl1 X k := by
        show mj_u Y' 38 k (mj_nl1 X k) 38 k = _
        rw [mj_u_at, if_pos ⟨rfl, rfl⟩]
      rw [e]
      exact (mj_q11 k1.1 hpX).mpr z
    · have e : mj_cc X (mj_u Y' 38 k (mj_nl1 X k)) 38 k = mj_nl1 X k := by
        show mj_u Y' 38 k (mj_nl1 X k) 38 k = _
        rw [mj_u_at, if_pos ⟨rfl, rfl⟩]
      rw [e] at c2
      have z := (mj_q11 k1.1 hpX).mp c2
      have b := mj_bits (X 24 k) (X 40 k) (k1.1.s.2.2.2.1 k hpX).2.1 (k1.1.a k hpX).2.2.1
      have eM : mj_u (mj_u (mj_cc X (mj_u Y' 38 k (mj_nl1 X k))) 24 k (mj_cc X Y' 24 k ||| 2)) 38 k (-1) = mj_cc (mj_u X 40 k 1) (mj_u (mj_u Y' 38 k (mj_nl1 X k)) 38 k (-1)) := by
        have e24 : mj_cc X Y' 24 k ||| 2 = X 24 k + 2 * 1 := b.2.2
        rw [e24, mj_cc_ww rfl, mj_u_id rfl, mj_cc_wd rfl]
      rw [eM]
      have := ih' (mj_u (mj_u Y' 38 k (mj_nl1 X k)) 38 k (-1)) y1 y2 (fun i hi => by
        rw [mj_u_at]
        by_cases e : i = k
        · subst e
          rw [if_pos ⟨rfl, rfl⟩]
          unfold mj_nv
          rw [if_pos (e2.mp z)]
        · rw [if_neg (fun z => e z.2), mj_u_at, if_neg (fun z => e z.2)]
          exact y3 i (by omega))
      unfold mj_kn at this
      rw [if_pos z] at this
      exact this
-- lines
theorem mj_q25 (h : mj_Iv Z) {a b : Nat} (ha : a < mj_np Z) (hb : b < mj_np Z) {x3 : Int32} (hx : x3 = 0 ↔ ¬ Z 9 l = 2) : p25 (mj_cc Z Y) (nI a) (nI b) x3 ↔ mj_ah Z l a b := by
  have ca := mj_qc h.s ha
  have cb := mj_qc h.s hb
  have hP := (mj_S_P h.s).1
  have qa := mj_q18 (Y := Y) h.s ha
  have qb := mj_q18 (Y := Y) h.s hb
  have e1 : mj_cc Z Y 24 a &&& 1 = Z 24 a := (mj_bits (Z 24 a) (Z 40 a) (h.s.2.2.2.1 a ha).2.1 (h.a a ha).2.2.1).1
  have e2 : mj_cc Z Y 24 b &&& 1 = Z 24 b := (mj_bits (Z 24 b) (Z 40 b) (h.s.2.2.2.1 b hb).2.1 (h.a b hb).2.2.1).1
  have e3 : ¬ nI b ≤ nI a ↔ a < b := by
    rw [nI_leI (by omega) (by omega)]; omega
  have e4 : ¬ Z 26 b ≤ Z 26 a ↔ Z 26 a < Z 26 b := by
    rw [mj_le, mj_lt]; omega
  have e5 : mj_cc Z Y 26 = Z 26 := rfl
  have e6 : Z 26 a < Z 26 b → ¬ Z 26 a = Z 26 b := by
    intro z1 z2
    rw [mj_lt, z2] at z1
    omega
  unfold p25 mj_ah
  rw [ca, cb, e1, e2, e3, e5, e4]
  constructor
  · rintro ⟨-, -, z⟩
    rcases z with ⟨z1, z2⟩ | ⟨z1, z2⟩
    · refine Or.inr ⟨fun y => hx.mp z1 y.1, ?_⟩
      rcases z2 with z2 | z2
      · exact Or.inr z2
      · exact Or.inl z2.2
    · rcases z2 with ⟨z2, z3⟩ | ⟨z2, z3⟩
      · refine Or.inr ⟨fun y => y.2 z2, ?_⟩
        rcases z3 with z3 | z3
        · exact Or.inr z3
        · exact Or.inl z3.2
      · refine Or.inl ⟨?_, z2, z3⟩
        by_cases y : Z 9 l = 2
        · exact y
        · exact absurd (hx.mpr y) z1
  · intro z
    refine ⟨qa, qb, ?_⟩
    rcases z with ⟨z1, z2, z3⟩ | ⟨z1, z2⟩
    · exact Or.inr ⟨fun y => hx.mp y z1, Or.inr ⟨z2, z3⟩⟩
    · have w : (Z 26 a = Z 26 b ∧ a < b) ∨ (¬ Z 26 a = Z 26 b ∧ Z 26 a < Z 26 b) := by
        rcases z2 with z2 | z2
        · exact Or.inr ⟨e6 z2, z2⟩
        · exact Or.inl z2
      by_cases y : x3 = 0
      · exact Or.inl ⟨y, w⟩
      · refine Or.inr ⟨y, Or.inl ⟨?_, w⟩⟩
        by_cases y2 : Z 24 a = Z 24 b
        · exact y2
        · refine absurd ⟨?_, y2⟩ z1
          by_cases y3 : Z 9 l = 2
          · exact y3
          · exact absurd (hx.mpr y3) y
/-- Y' is Y but for the queue and its length -/
def mj_Yq (Y Y' : mj_M) (n : Nat) (q : Nat → Int32) : Prop := (∀ c, c ≠ 39 → c ≠ 0 → Y' c = Y c) ∧ (∀ j, j ≠ 8 → Y' 0 j = Y 0 j) ∧ Y' 0 8 = nI n ∧ Y' 39 = q
theorem mj_line_l (h : mj_Iv Z) {k n : Nat} (hk : k < mj_np Z) {x2 : Int32} (hx : x2 = 0 ↔ ¬ Z 9 l = 2) (hn : n < 120) : ∀ (a : Nat) (Y : mj_M), a ≤ n → Y 0 8 = nI n → (∀ i, i < a → ∃ p, p < mj_np Z ∧ Y 39 i = nI p) → (∀ Y', mj_Yq Y Y' (n + 1) (mj_is Z l k a (Y 39)) → K 0 0 (mj_cc Z Y')) → mj_W 0 58 3 15 [some (.ref 0), some (.int (nI k)), some (.int x2), some (.int (nI a))] [] (mj_cc Z Y) 0 K
  | 0, Y, ha, hY, hq, hK => by
    refine t58_15 ⟨fun _ => ⟨vp_in_nI (by omega) (by decide), ?_⟩, fun c => absurd (show nI 0 ≤ 0 by decide) c⟩
    rw [nI_clamp (by omega), mj_cc_wd rfl, mj_cc_wz (by decide)]
    refine hK _ ⟨fun c h1 h2 => by rw [mj_u_ne _ _ _ h2, mj_u_ne _ _ _ h1], fun j hj => by rw [mj_u_at, if_neg (fun z => hj z.2)]; rfl, ?_, ?_⟩
    · rw [mj_u_at, if_pos ⟨rfl, rfl⟩]
      show Y 0 8 + 1 = _
      rw [hY, nI_1]
    · rw [mj_u_ne _ _ _ (by decide), mj_u_same]; rfl
  | a + 1, Y, ha, hY, hq, hK => by
    obtain ⟨p, hp, ep⟩ := hq a (by omega)
    have hP := (mj_S_P h.s).1
    have hs1 : nI (a + 1) - 1 = nI a := nI_pred a
    have fin : ¬ mj_ah Z l k p → K 0 0 (mj_u (mj_u (mj_cc Z Y) 39 (nI (a + 1)).toNatClampNeg (nI k)) 0 8 (mj_cc Z Y 0 8 + 1)) := by
      intro c
      rw [nI_clamp (by omega), mj_cc_wd rfl, mj_cc_wz (by decide)]
      refine hK _ ⟨fun c h1 h2 => by rw [mj_u_ne _ _ _ h2, mj_u_ne _ _ _ h1], fun j hj => by rw [mj_u_at, if_neg (fun z => hj z.2)]; rfl, ?_, ?_⟩
      · rw [mj_u_at, if_pos ⟨rfl, rfl⟩]
        show Y 0 8 + 1 = _
        rw [hY, nI_1]
      · rw [mj_u_ne _ _ _ (by decide), mj_u_same]
        unfold mj_is
        rw [ep, nI_clamp (by omega), if_neg c]
    refine t58_15 ⟨fun c => absurd c (nI_nle (by omega) (by omega)), fun _ => ?_⟩
    rw [hs1, nI_clamp (show a < 2 ^ 31 by omega), show mj_cc Z Y 39 a = Y 39 a from rfl, ep]
    refine ⟨vp_in_nI (by omega) (by decide), mj_b20 h.s, fun c => ⟨vp_in_nI (by omega) (by decide), ?_⟩, fun c => ⟨vp_in_nI (by omega) (by decide), ?_⟩⟩
    · rw [mj_q25 h hk hp hx] at c
      exact fin c
    · rw [mj_q25 h hk hp hx] at c
      rw [nI_clamp (by omega), mj_cc_wd rfl, show nI (a + 1) + -1 = nI (a + 1) - 1 by grind, hs1]
      refine mj_line_l h hk hx hn a _ (by omega) hY (fun i hi => ?_) (fun Y' hY' => ?_)
      · obtain ⟨p', hp', e'⟩ := hq i (by omega)
        refine ⟨p', hp', ?_⟩
        rw [mj_u_at, if_neg (by omega)]
        exact e'
      · obtain ⟨y1, y2, y3, y4⟩ := hY'
        refine hK Y' ⟨fun c h1 h2 => by rw [y1 c h1 h2, mj_u_ne _ _ _ h1], fun j hj => by rw [y2 j hj]; rfl, y3, ?_⟩
        rw [y4, mj_u_same]
        show _ = mj_is Z l k (a + 1) (Y 39)
        rw [show mj_is Z l k (a + 1) (Y 39) = if mj_ah Z l k (Y 39 a).toNatClampNeg then mj_is Z l k a (upd (Y 39) (a + 1) (Y 39 a)) else upd (Y 39) (a + 1) (nI k) from rfl, ep, nI_clamp (by omega), if_pos c]
theorem sp58 (h : mj_Iv Z) {k n : Nat} (hk : k < mj_np Z) {x2 : Int32} (hx : x2 = 0 ↔ ¬ Z 9 l = 2) (hn : n < 120) (hY : Y 0 8 = nI n) (hq : ∀ i, i < n → ∃ p, p < mj_np Z ∧ Y 39 i = nI p) (hK : ∀ Y', mj_Yq Y Y' (n + 1) (mj_is Z l k n (Y 39)) → K 0 0 (mj_cc Z Y')) : mj_Cm 58 3 [.ref 0, .int (nI k), .int x2] (mj_cc Z Y) K := by
  refine e58 ⟨fun _ => ?_, fun c => ?_⟩
  · show mj_W 0 58 3 15 [some (.ref 0), some (.int (nI k)), some (.int x2), some (.int (Y 0 8))] [] (mj_cc Z Y) 0 K
    rw [hY]
    exact mj_line_l h hk hx hn n Y (Nat.le_refl _) hY hq hK
  · have c' : ¬ Y 0 8 < 120 := c
    rw [hY] at c'
    exact absurd (nI_lt hn (by decide)) c'
theorem sp57 (h : mj_Iv Z) {v : Nat → Int32} (hl : l < mj_nl Z) (hv : ∀ i, i < mj_np Z → Y 38 i = v i) (hK : ∀ Y', mj_Yq Y Y' (mj_ln Z v l (Y 39) (mj_np Z)).1 (mj_ln Z v l (Y 39) (mj_np Z)).2 → K 0 0 (mj_cc Z Y')) : mj_Cm 57 4 [.ref 0, .int (nI l)] (mj_cc Z Y) K := by
  have hP := (mj_S_P h.s).1
  have hL := mj_S_L h.s
  have key : ∀ x2 : Int32, (x2 = 0 ↔ ¬ Z 9 l = 2) → mj_W 0 57 4 37 [some (.ref 0), some (.int (nI l)), some (.int x2), some (.int (nI 0))] [] (mj_cc Z (mj_u Y 0 8 0)) 0 K := by
    intro x2 hx
    refine mj_down (P := fun k => ∀ Y', mj_Yq Y Y' (mj_ln Z v l (Y 39) k).1 (mj_ln Z v l (Y 39) k).2 → mj_W 0 57 4 37 [some (.ref 0), some (.int (nI l)), some (.int x2), some (.int (nI k))] [] (mj_cc Z Y') 0 K) (mj_np Z) ?_ ?_ (mj_u Y 0 8 0) ⟨fun c h1 h2 => mj_u_ne _ _ _ h2, fun j hj => by rw [mj_u_at, if_neg (fun z => hj z.2)], by rw [mj_u_at, if_pos ⟨rfl, rfl⟩]; rfl, mj_u_ne _ _ _ (by decide)⟩
    · intro Y' hY
      exact t57_37 ⟨fun _ => hK Y' hY, fun c => absurd (mj_pe h.s rfl) c⟩
    · intro k hk ih Y' hY
      have hc := mj_qc h.s hk
      obtain ⟨y1, y2, y3, y4⟩ := hY
      have e38 : Y' 38 k = v k := by rw [y1 38 (by decide) (by decide)]; exact hv k hk
      have eln : mj_ln Z v l (Y 39) (k + 1) = if v k = nI l then ((mj_ln Z v l (Y 39) k).1 + 1, mj_is Z l k (mj_ln Z v l (Y 39) k).1 (mj_ln Z v l (Y 39) k).2) else mj_ln Z v l (Y 39) k := rfl
      rw [← nI_1] at ih
      obtain ⟨w1, w2⟩ := mj_ln_ok (Z := Z) (v := v) (l := l) (q := Y 39) k
      refine t57_37 ⟨fun c => (mj_ps h.s hk c).elim, fun _ => ⟨mj_qv h.s hk, ?_⟩⟩
      rw [hc]
      refine ⟨fun c => ?_, fun c => ?_⟩
      · have c' : ¬ Y' 38 k = nI l := c
        rw [e38] at c'
        rw [eln, if_neg c'] at ih
        exact ih Y' ⟨y1, y2, y3, y4⟩
      · have c' : Y' 38 k = nI l := c
        rw [e38] at c'
        rw [eln, if_pos c'] at ih
        refine sp58 (l := l) h hk hx (by omega) y3 (fun i hi => ?_) (fun Y2 hY2 => ?_)
        · obtain ⟨p, hp, e1, -⟩ := w2 i hi
          exact ⟨p, by omega, by rw [y4]; exact e1⟩
        · obtain ⟨x1, x2, x3, x4⟩ := hY2
          refine t57_64 (ih Y2 ⟨fun c h1 h2 => by rw [x1 c h1 h2, y1 c h1 h2], fun j hj => by rw [x2 j hj, y2 j hj], x3, ?_⟩)
          rw [x4, y4]
  have hq7 := mj_q7 (Y := mj_u Y 0 8 0) h.s hl
  refine e57 ?_
  rw [mj_cc_wz (by decide)]
  refine ⟨fun c => absurd hq7 c, fun _ => ⟨vp_in_nI (by omega) (by decide), ?_⟩⟩
  rw [nI_clamp (show l < 2 ^ 31 by omega)]
  refine ⟨fun c => ?_, fun c => ?_⟩
  · exact key 0 ⟨fun _ => c, fun _ => rfl⟩
  · exact key 1 ⟨fun z => absurd z (by decide), fun z => absurd c z⟩
end STC
