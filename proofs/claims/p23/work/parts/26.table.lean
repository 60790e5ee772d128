theorem fb_rng (x : Int32) : -2147483648 ≤ x.toInt ∧ x.toInt < 2147483648 := by
  have h1 := Int32.le_toInt x
  have h2 := Int32.toInt_lt x
  omega
theorem fb_bmod {z : Int} (h1 : -2147483648 ≤ z) (h2 : z < 2147483648) : z.bmod (2 ^ 32) = z := by
  rw [Int.bmod_eq_of_le (by omega) (by omega)]
theorem fb_addI {x y : Int32} (h1 : -2147483648 ≤ x.toInt + y.toInt) (h2 : x.toInt + y.toInt < 2147483648) : (x + y).toInt = x.toInt + y.toInt := by
  rw [Int32.toInt_add, fb_bmod h1 h2]
theorem fb_subI {x y : Int32} (h1 : -2147483648 ≤ x.toInt - y.toInt) (h2 : x.toInt - y.toInt < 2147483648) : (x - y).toInt = x.toInt - y.toInt := by
  rw [Int32.toInt_sub, fb_bmod h1 h2]
theorem fb_mulI {x y : Int32} (h1 : -2147483648 ≤ x.toInt * y.toInt) (h2 : x.toInt * y.toInt < 2147483648) : (x * y).toInt = x.toInt * y.toInt := by
  rw [Int32.toInt_mul, fb_bmod h1 h2]
-- the table of the ways: two rows of numbers
def mj_yy (M : mj_M) (u v : Nat → Int32) : mj_M := fun c => if c = 36 then u else if c = 37 then v else M c
theorem mj_yy_o (M : mj_M) (u v : Nat → Int32) {c : Nat} (h1 : c ≠ 36) (h2 : c ≠ 37) : mj_yy M u v c = M c := by
  unfold mj_yy; rw [if_neg h1, if_neg h2]
theorem mj_yy_w36 (M : mj_M) (u v : Nat → Int32) (j : Nat) (x : Int32) : mj_u (mj_yy M u v) 36 j x = mj_yy M (upd u j x) v := by
  funext c'
  by_cases e : c' = 36
  · subst e; rw [mj_u_same]; rfl
  · rw [mj_u_ne _ _ _ e]; unfold mj_yy; rw [if_neg e, if_neg e]
theorem mj_yy_w37 (M : mj_M) (u v : Nat → Int32) (j : Nat) (x : Int32) : mj_u (mj_yy M u v) 37 j x = mj_yy M u (upd v j x) := by
  funext c'
  by_cases e : c' = 37
  · subst e; rw [mj_u_same]; rfl
  · rw [mj_u_ne _ _ _ e]; unfold mj_yy; rw [if_neg e, if_neg e]
def mj_cu (w i : Nat) (u : Nat → Int32) : Nat → Int32 := fun j => if w * 100 ≤ j ∧ j < w * 100 + i then (if (j - w * 100) / 10 = (j - w * 100) % 10 then 0 else 1000) else u j
def mj_cv (w i : Nat) (v : Nat → Int32) : Nat → Int32 := fun j => if w * 100 ≤ j ∧ j < w * 100 + i then -1 else v j
theorem mj_cu_s (w i : Nat) (u : Nat → Int32) (x : Int32) (hx : x = if i / 10 = i % 10 then 0 else 1000) : upd (mj_cu w i u) (w * 100 + i) x = mj_cu w (i + 1) u := by
  funext j
  unfold upd mj_cu
  by_cases e : j = w * 100 + i
  · rw [if_pos e, if_pos (by omega), hx, show j - w * 100 = i by omega]
  · rw [if_neg e]
    by_cases h : w * 100 ≤ j ∧ j < w * 100 + i
    · rw [if_pos h, if_pos (show w * 100 ≤ j ∧ j < w * 100 + (i + 1) by omega)]
    · rw [if_neg h, if_neg (show ¬ (w * 100 ≤ j ∧ j < w * 100 + (i + 1)) by omega)]
theorem mj_cv_s (w i : Nat) (v : Nat → Int32) : upd (mj_cv w i v) (w * 100 + i) (-1) = mj_cv w (i + 1) v := by
  funext j
  unfold upd mj_cv
  by_cases e : j = w * 100 + i
  · rw [if_pos e, if_pos (by omega)]
  · rw [if_neg e]
    by_cases h : w * 100 ≤ j ∧ j < w * 100 + i
    · rw [if_pos h, if_pos (by omega)]
    · rw [if_neg h, if_neg (by omega)]
theorem mj_clean_l {M : mj_M} {K : mj_K} {w : Nat} {u v : Nat → Int32} (hw : w < 4) (h : K 0 0 (mj_yy M (mj_cu w 100 u) (mj_cv w 100 v))) : ∀ (r i : Nat), i + r = 100 → mj_W 0 36 1 10 [some (.ref 35), some (.int (nI w)), some (.int (nI (w * 100))), some (.int (nI i))] [] (mj_yy M (mj_cu w i u) (mj_cv w i v)) 0 K := by
  intro r
  induction r with
  | zero =>
    intro i hi
    have : i = 100 := by omega
    subst this
    exact t36_10 ⟨fun _ => h, fun c => absurd (nI_le (Nat.le_refl 100) (by decide)) c⟩
  | succ r ih =>
    intro i hi
    have e1 : nI (w * 100) + nI i = nI (w * 100 + i) := nI_add _ _
    have e2 : (nI (w * 100) + nI i).toNatClampNeg = w * 100 + i := by rw [e1, nI_clamp (by omega)]
    have hin : vp_in (nI (w * 100) + nI i) 400 := by rw [e1]; exact vp_in_nI (by omega) (by decide)
    have d1 : nI i / 10 = nI (i / 10) := pk_div (d := 10) (by omega) (by decide) (by decide)
    have d2 : nI i - nI i / 10 * 10 = nI (i % 10) := pk_rem (d := 10) (by omega) (by decide) (by decide)
    have d3 : (nI i / 10 = nI i - nI i / 10 * 10) ↔ i / 10 = i % 10 := by
      rw [d2, d1]
      exact nI_eq (by omega) (by omega)
    refine t36_10 ⟨fun c => absurd c (nI_ge (show i < 100 by omega) (by decide)), fun _ => ⟨fun c => ⟨hin, ?_⟩, fun c => ⟨hin, ?_⟩⟩⟩
    · rw [e2, mj_yy_w36, mj_yy_w37, mj_cu_s w i u 1000 (by rw [if_neg (fun z => c (d3.mpr z))]), mj_cv_s, nI_1]
      exact ih (i + 1) (by omega)
    · rw [e2, mj_yy_w36, mj_yy_w37, mj_cu_s w i u 0 (by rw [if_pos (d3.mp c)]), mj_cv_s, nI_1]
      exact ih (i + 1) (by omega)
/-- clean -/
theorem sp36 {M : mj_M} {K : mj_K} {w : Nat} {u v : Nat → Int32} (hw : w < 4) (h : K 0 0 (mj_yy M (mj_cu w 100 u) (mj_cv w 100 v))) : mj_Cm 36 1 [.ref 35, .int (nI w)] (mj_yy M u v) K := by
  refine e36 ?_
  have e1 : nI w * 10 * 10 = nI (w * 100) := by
    rw [show (10 : Int32) = nI 10 from rfl, pk_mul, pk_mul, Nat.mul_assoc]
  rw [e1]
  have h0 : mj_yy M u v = mj_yy M (mj_cu w 0 u) (mj_cv w 0 v) := by
    have a1 : mj_cu w 0 u = u := by funext j; unfold mj_cu; rw [if_neg (by omega)]
    have a2 : mj_cv w 0 v = v := by funext j; unfold mj_cv; rw [if_neg (by omega)]
    rw [a1, a2]
  rw [h0]
  exact mj_clean_l hw h 100 0 rfl
-- join: Floyd and Warshall
def mj_F (R v : Nat) (T : Nat → Nat → Int) : Nat → Nat → Int := fun a b => if a < R ∧ b < R then (if T a v + T v b < T a b then T a v + T v b else T a b) else T a b
def mj_Fi (R : Nat) (T : Nat → Nat → Int) : Nat → Nat → Nat → Int
  | 0 => T
  | v + 1 => mj_F R v (mj_Fi R T v)
def mj_T3 (R : Nat) (T : Nat → Nat → Int) : Prop := ∀ a b, a < R → b < R → 0 ≤ T a b ∧ T a b ≤ 1000 ∧ T a a = 0
theorem mj_F_T3 {R v : Nat} {T : Nat → Nat → Int} (h : mj_T3 R T) (hv : v < R) : mj_T3 R (mj_F R v T) := by
  intro a b ha hb
  have h1 := h a b ha hb
  have h2 := h a v ha hv
  have h3 := h v b hv hb
  have h4 := h v a hv ha
  have ev : ∀ x y, x < R → y < R → mj_F R v T x y = if T x v + T v y < T x y then T x v + T v y else T x y := fun x y hx hy => by
    unfold mj_F; rw [if_pos ⟨hx, hy⟩]
  rw [ev a b ha hb, ev a a ha ha]
  refine ⟨by split <;> omega, by split <;> omega, ?_⟩
  rw [if_neg (by omega)]
  exact h1.2.2
theorem mj_F_le {R v : Nat} {T : Nat → Nat → Int} (a b : Nat) : mj_F R v T a b ≤ T a b := by
  unfold mj_F
  split
  · split <;> omega
  · omega
def mj_tri (R v : Nat) (T : Nat → Nat → Int) : Prop := ∀ u, u < v → ∀ a b, a < R → b < R → T a b ≤ T a u + T u b
theorem mj_F_tri {R v : Nat} {T : Nat → Nat → Int} (h3 : mj_T3 R T) (h : mj_tri R v T) (hv : v < R) : mj_tri R (v + 1) (mj_F R v T) := by
  intro u hu a b ha hb
  have huR : u < R := by omega
  have ev : ∀ x y, x < R → y < R → mj_F R v T x y = if T x v + T v y < T x y then T x v + T v y else T x y := fun x y hx hy => by
    unfold mj_F; rw [if_pos ⟨hx, hy⟩]
  rw [ev a b ha hb, ev a u ha huR, ev u b huR hb]
  have z1 := h3 a v ha hv
  have z2 := h3 v b hv hb
  have z3 := h3 v u hv huR
  have z4 := h3 u v huR hv
  have z5 := h3 a u ha huR
  have z6 := h3 u b huR hb
  by_cases e : u = v
  · subst e
    have q := h3 u u huR huR
    split <;> split <;> split <;> omega
  · have t1 := h u (by omega) a b ha hb
    have t2 := h u (by omega) a v ha hv
    have t3 := h u (by omega) v b hv hb
    split <;> split <;> split <;> omega
def mj_snd (Q : Nat → Nat → Nat → Prop) (R : Nat) (T : Nat → Nat → Int) : Prop := ∀ a b, a < R → b < R → T a b < 1000 → ∃ m : Nat, T a b = m ∧ Q b m a
theorem mj_F_snd {Q : Nat → Nat → Nat → Prop} {R v : Nat} {T : Nat → Nat → Int} (hQ : ∀ v m1 a m2 g, Q v m1 a → Q g m2 v → Q g (m1 + m2) a) (h3 : mj_T3 R T) (h : mj_snd Q R T) (hv : v < R) : mj_snd Q R (mj_F R v T) := by
  intro a b ha hb
  unfold mj_F
  rw [if_pos ⟨ha, hb⟩]
  by_cases c : T a v + T v b < T a b
  · rw [if_pos c]
    intro _
    have z1 := h3 a v ha hv
    have z2 := h3 v b hv hb
    have z3 := h3 a b ha hb
    obtain ⟨m1, e1, q1⟩ := h a v ha hv (by omega)
    obtain ⟨m2, e2, q2⟩ := h v b hv hb (by omega)
    exact ⟨m1 + m2, by rw [e1, e2]; omega, hQ _ _ _ _ _ q1 q2⟩
  · rw [if_neg c]
    exact h a b ha hb
theorem mj_Fi_T3 {R : Nat} {T : Nat → Nat → Int} (h : mj_T3 R T) : ∀ v, v ≤ R → mj_T3 R (mj_Fi R T v)
  | 0, _ => h
  | v + 1, hv => mj_F_T3 (mj_Fi_T3 h v (by omega)) (by omega)
theorem mj_Fi_le {R : Nat} {T : Nat → Nat → Int} (a b : Nat) : ∀ v, mj_Fi R T v a b ≤ T a b
  | 0 => Int.le_refl _
  | v + 1 => Int.le_trans (mj_F_le a b) (mj_Fi_le a b v)
theorem mj_Fi_tri {R : Nat} {T : Nat → Nat → Int} (h : mj_T3 R T) : ∀ v, v ≤ R → mj_tri R v (mj_Fi R T v)
  | 0, _ => fun u hu => by omega
  | v + 1, hv => mj_F_tri (mj_Fi_T3 h v (by omega)) (mj_Fi_tri h v (by omega)) (by omega)
theorem mj_Fi_snd {Q : Nat → Nat → Nat → Prop} {R : Nat} {T : Nat → Nat → Int} (hQ : ∀ v m1 a m2 g, Q v m1 a → Q g m2 v → Q g (m1 + m2) a) (h3 : mj_T3 R T) (h : mj_snd Q R T) : ∀ v, v ≤ R → mj_snd Q R (mj_Fi R T v)
  | 0, _ => h
  | v + 1, hv => mj_F_snd hQ (mj_Fi_T3 h3 v (by omega)) (mj_Fi_snd hQ h3 h v (by omega)) (by omega)
/-- row w of the table holds T, all else is u0's -/
def mj_tb (w : Nat) (u0 u : Nat → Int32) (T : Nat → Nat → Int) : Prop := (∀ a b, a < 10 → b < 10 → (u (w * 100 + a * 10 + b)).toInt = T a b) ∧ ∀ j, (j < w * 100 ∨ w * 100 + 100 ≤ j) → u j = u0 j
def mj_Gm (R v a b : Nat) (T : Nat → Nat → Int) : Nat → Nat → Int := fun x y => if x < a ∨ (x = a ∧ y < b) then mj_F R v T x y else T x y
theorem mj_tb_upd {w : Nat} {u0 u : Nat → Int32} {T T' : Nat → Nat → Int} {a b : Nat} {x : Int32} (h : mj_tb w u0 u T) (ha : a < 10) (hb : b < 10) (hx : x.toInt = T' a b) (ho : ∀ p q, ¬ (p = a ∧ q = b) → T' p q = T p q) : mj_tb w u0 (upd u (w * 100 + a * 10 + b) x) T' := by
  refine ⟨fun p q hp hq => ?_, fun j hj => ?_⟩
  · unfold upd
    by_cases e : p = a ∧ q = b
    · obtain ⟨rfl, rfl⟩ := e
      rw [if_pos rfl, hx]
    · rw [if_neg (by omega), ho p q e]
      exact h.1 p q hp hq
  · unfold upd
    rw [if_neg (by omega)]
    exact h.2 j hj
theorem mj_ix3 {w a b : Nat} (hw : w < 4) (ha : a < 10) (hb : b < 10) : nI (w * 100) + nI a * 10 + nI b = nI (w * 100 + a * 10 + b) ∧ (nI (w * 100) + nI a * 10 + nI b).toNatClampNeg = w * 100 + a * 10 + b ∧ vp_in (nI (w * 100) + nI a * 10 + nI b) 400 := by
  have e : nI (w * 100) + nI a * 10 + nI b = nI (w * 100 + a * 10 + b) := by
    rw [show (10 : Int32) = nI 10 from rfl, pk_mul, nI_add, nI_add]
  refine ⟨e, by rw [e, nI_clamp (by omega)], by rw [e]; exact vp_in_nI (by omega) (by decide)⟩
theorem mj_I1000 : (1000 : Int32).toInt = 1000 := by decide
/-- the inner loop of join -/
theorem mj_join_b {M : mj_M} {K : mj_K} {w R v a : Nat} {u0 v0 : Nat → Int32} {T : Nat → Nat → Int} (hw : w < 4) (hR : R ≤ 10) (hv : v < R) (ha : a < R) (h3 : mj_T3 R T) {x5 : Int32} (h5 : x5.toInt = T a v)
    (h : ∀ (u : Nat → Int32) (x6 : Int32) (o7 o8 : Option Value), mj_tb w u0 u (mj_Gm R v (a + 1) 0 T) → mj_W 0 38 1 10 [some (.ref 35), some (.int (nI (w * 100))), some (.int (nI R)), some (.int (nI v)), some (.int (nI (a + 1))), some (.int x5), some (.int x6), o7, o8] [] (mj_yy M u v0) 0 K) :
    ∀ (r b : Nat) (u : Nat → Int32) (o7 o8 : Option Value), b + r = R → mj_tb w u0 u (mj_Gm R v a b T) → mj_W 0 38 1 35 [some (.ref 35), some (.int (nI (w * 100))), some (.int (nI R)), some (.int (nI v)), some (.int (nI a)), some (.int x5), some (.int (nI b)), o7, o8] [] (mj_yy M u v0) 0 K := by
  have hFF : ∀ x y, x < R → y < R → mj_F R v T x y = if T x v + T v y < T x y then T x v + T v y else T x y := fun x y hx hy => by
    unfold mj_F; rw [if_pos ⟨hx, hy⟩]
  intro r
  induction r with
  | zero =>
    intro b u o7 o8 hb ht
    have hbR : b = R := by omega
    subst hbR
    refine t38_35 ⟨fun _ => ?_, fun c => absurd (nI_le (Nat.le_refl b) (by omega)) c⟩
    rw [nI_1]
    refine h u _ o7 o8 ⟨fun p q hp hq => ?_, ht.2⟩
    rw [ht.1 p q hp hq]
    unfold mj_Gm
    by_cases e : p < a ∨ (p = a ∧ q < b)
    · rw [if_pos e, if_pos (by omega)]
    · rw [if_neg e]
      by_cases e2 : p < a + 1 ∨ (p = a + 1 ∧ q < 0)
      · rw [if_pos e2]
        unfold mj_F
        rw [if_neg (by omega)]
      · rw [if_neg e2]
  | succ r ih =>
    intro b u o7 o8 hb ht
    have hbR : b < R := by omega
    obtain ⟨i1, i2, i3⟩ := mj_ix3 (w := w) (a := v) (b := b) hw (by omega) (by omega)
    obtain ⟨j1, j2, j3⟩ := mj_ix3 (w := w) (a := a) (b := b) hw (by omega) (by omega)
    have r1 : (u (w * 100 + v * 10 + b)).toInt = T v b := by
      rw [ht.1 v b (by omega) (by omega)]
      unfold mj_Gm
      split
      · rw [hFF v b hv hbR]
        have z1 := h3 v v hv hv
        have z2 := h3 v b hv hbR
        rw [if_neg (by omega)]
      · rfl
    have r2 : (u (w * 100 + a * 10 + b)).toInt = T a b := by
      rw [ht.1 a b (by omega) (by omega)]
      unfold mj_Gm
      rw [if_neg (by omega)]
    have z1 := h3 a v ha hv
    have z2 := h3 v b hv hbR
    have z3 := h3 a b ha hbR
    refine t38_35 ⟨fun c => absurd c (nI_ge hbR (by omega)), fun _ => ⟨fun c => ?_, fun c => ⟨i3, j3, ?_⟩⟩⟩
    · -- there is no way to via
      rw [mj_le, mj_I1000, h5] at c
      rw [nI_1]
      refine h u _ o7 o8 ⟨fun p q hp hq => ?_, ht.2⟩
      rw [ht.1 p q hp hq]
      unfold mj_Gm
      by_cases e : p < a ∨ (p = a ∧ q < b)
      · rw [if_pos e, if_pos (by omega)]
      · rw [if_neg e]
        by_cases e2 : p < a + 1 ∨ (p = a + 1 ∧ q < 0)
        · rw [if_pos e2]
          have hpa : p = a := by omega
          subst hpa
          unfold mj_F
          by_cases e3 : p < R ∧ q < R
          · rw [if_pos e3]
            have z4 := h3 v q hv e3.2
            have z5 := h3 p q ha e3.2
            rw [if_neg (by omega)]
          · rw [if_neg e3]
        · rw [if_neg e2]
    · rw [show (mj_yy M u v0) 36 = u from rfl, i2, j2, mj_yy_w36, nI_1]
      have hs : (x5 + u (w * 100 + v * 10 + b)).toInt = T a v + T v b := by
        rw [fb_addI (by rw [h5, r1]; omega) (by rw [h5, r1]; omega), h5, r1]
      refine ih (b + 1) _ _ _ (by omega) (mj_tb_upd ht (by omega) (by omega) ?_ (fun p q e => ?_))
      · have eG : mj_Gm R v a (b + 1) T a b = mj_F R v T a b := by
          unfold mj_Gm
          rw [if_pos (by omega)]
        rw [eG, hFF a b ha hbR]
        by_cases c2 : x5 + u (w * 100 + v * 10 + b) < u (w * 100 + a * 10 + b)
        · rw [if_pos c2, hs]
          rw [mj_lt, hs, r2] at c2
          rw [if_pos c2]
        · rw [if_neg c2, r2]
          rw [mj_lt, hs, r2] at c2
          rw [if_neg c2]
      · unfold mj_Gm
        by_cases e1 : p < a ∨ (p = a ∧ q < b)
        · rw [if_pos e1, if_pos (by omega)]
        · rw [if_neg e1, if_neg (by omega)]
theorem mj_join_a {M : mj_M} {K : mj_K} {w R v : Nat} {u0 v0 : Nat → Int32} {T : Nat → Nat → Int} (hw : w < 4) (hR : R ≤ 10) (hv : v < R) (h3 : mj_T3 R T)
    (h : ∀ (u : Nat → Int32) (o4 o5 o6 o7 o8 : Option Value), mj_tb w u0 u (mj_F R v T) → mj_W 0 38 1 2 [some (.ref 35), some (.int (nI (w * 100))), some (.int (nI R)), some (.int (nI (v + 1))), o4, o5, o6, o7, o8] [] (mj_yy M u v0) 0 K) :
    ∀ (r a : Nat) (u : Nat → Int32) (o5 o6 o7 o8 : Option Value), a + r = R → mj_tb w u0 u (mj_Gm R v a 0 T) → mj_W 0 38 1 10 [some (.ref 35), some (.int (nI (w * 100))), some (.int (nI R)), some (.int (nI v)), some (.int (nI a)), o5, o6, o7, o8] [] (mj_yy M u v0) 0 K := by
  intro r
  induction r with
  | zero =>
    intro a u o5 o6 o7 o8 ha ht
    have haR : a = R := by omega
    subst haR
    refine t38_10 ⟨fun _ => ?_, fun c => absurd (nI_le (Nat.le_refl a) (by omega)) c⟩
    rw [nI_1]
    refine h u _ o5 o6 o7 o8 ⟨fun p q hp hq => ?_, ht.2⟩
    rw [ht.1 p q hp hq]
    unfold mj_Gm
    by_cases e : p < a ∨ (p = a ∧ q < 0)
    · rw [if_pos e]
    · rw [if_neg e]
      unfold mj_F
      rw [if_neg (by omega)]
  | succ r ih =>
    intro a u o5 o6 o7 o8 ha ht
    have haR : a < R := by omega
    obtain ⟨i1, i2, i3⟩ := mj_ix3 (w := w) (a := a) (b := v) hw (by omega) (by omega)
    refine t38_10 ⟨fun c => absurd c (nI_ge haR (by omega)), fun _ => ⟨i3, ?_⟩⟩
    rw [show (mj_yy M u v0) 36 = u from rfl, i2]
    refine mj_join_b hw hR hv haR h3 ?_ (fun u x6 o7 o8 ht => ih (a + 1) u _ _ o7 o8 (by omega) ht) R 0 u o7 o8 (by omega) ht
    rw [ht.1 a v (by omega) (by omega)]
    unfold mj_Gm
    rw [if_neg (by omega)]
theorem mj_Gm_0 {R v : Nat} {T : Nat → Nat → Int} : mj_Gm R v 0 0 T = T := by
  funext p q
  unfold mj_Gm
  rw [if_neg (by omega)]
theorem mj_join_v {M : mj_M} {K : mj_K} {w R : Nat} {u0 v0 : Nat → Int32} {T : Nat → Nat → Int} (hw : w < 4) (hR : R ≤ 10) (h3 : mj_T3 R T) (h : ∀ u, mj_tb w u0 u (mj_Fi R T R) → K 0 0 (mj_yy M u v0)) :
    ∀ (r v : Nat) (u : Nat → Int32) (o4 o5 o6 o7 o8 : Option Value), v + r = R → mj_tb w u0 u (mj_Fi R T v) → mj_W 0 38 1 2 [some (.ref 35), some (.int (nI (w * 100))), some (.int (nI R)), some (.int (nI v)), o4, o5, o6, o7, o8] [] (mj_yy M u v0) 0 K := by
  intro r
  induction r with
  | zero =>
    intro v u o4 o5 o6 o7 o8 hv ht
    have hvR : v = R := by omega
    subst hvR
    exact t38_2 ⟨fun _ => h u ht, fun c => absurd (nI_le (Nat.le_refl v) (by omega)) c⟩
  | succ r ih =>
    intro v u o4 o5 o6 o7 o8 hv ht
    have hvR : v < R := by omega
    refine t38_2 ⟨fun c => absurd c (nI_ge hvR (by omega)), fun _ => ?_⟩
    exact mj_join_a hw hR hvR (mj_Fi_T3 h3 v (by omega)) (fun u o4 o5 o6 o7 o8 ht => ih (v + 1) u o4 o5 o6 o7 o8 (by omega) ht) R 0 u o5 o6 o7 o8 (by omega) (by rw [mj_Gm_0]; exact ht)
/-- join -/
theorem sp38 {M : mj_M} {K : mj_K} {w R : Nat} {u v : Nat → Int32} {T : Nat → Nat → Int} (hw : w < 4) (hR : R ≤ 10) (h3 : mj_T3 R T) (ht : ∀ a b, a < 10 → b < 10 → (u (w * 100 + a * 10 + b)).toInt = T a b) (h : ∀ u', mj_tb w u u' (mj_Fi R T R) → K 0 0 (mj_yy M u' v)) : mj_Cm 38 1 [.ref 35, .int (nI (w * 100)), .int (nI R)] (mj_yy M u v) K :=
  e38 (mj_join_v hw hR h3 h R 0 u _ _ _ _ _ (by omega) ⟨ht, fun _ _ => rfl⟩)
