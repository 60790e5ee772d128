-- lay, choose, reckon; what is asked of the table
theorem mj_wd4 {w : Nat} (hw : w < 4) : mj_bit (nI (w % 2)) ∧ mj_bit (nI (w / 2)) ∧ nI w = nI (w % 2) + 2 * nI (w / 2) := by
  match w, hw with
  | 0, _ => exact ⟨Or.inl rfl, Or.inl rfl, rfl⟩
  | 1, _ => exact ⟨Or.inr rfl, Or.inl rfl, rfl⟩
  | 2, _ => exact ⟨Or.inl rfl, Or.inr rfl, rfl⟩
  | 3, _ => exact ⟨Or.inr rfl, Or.inr rfl, rfl⟩
theorem mj_wd4b {c k : Int32} (hc : mj_bit c) (hk : mj_bit k) : ∃ w, w < 4 ∧ c + 2 * k = nI w ∧ nI (w % 2) = c ∧ nI (w / 2) = k := by
  rcases hc with rfl | rfl <;> rcases hk with rfl | rfl
  · exact ⟨0, by decide, rfl, rfl, rfl⟩
  · exact ⟨2, by decide, rfl, rfl, rfl⟩
  · exact ⟨1, by decide, rfl, rfl, rfl⟩
  · exact ⟨3, by decide, rfl, rfl, rfl⟩
theorem mj_rb_yy (M : mj_M) (u v : Nat → Int32) : mj_rb (mj_yy M u v) = mj_rb M := rfl
theorem mj_nlI {M : mj_M} (h : mj_In M) : M 8 0 = nI (mj_nl M) := mj_toN h.2.1.1
theorem mj_nrI {M : mj_M} (h : mj_In M) : M 1 0 = nI (mj_nr M) := mj_toN h.1.1
theorem mj_p7 {M : mj_M} (h : mj_In M) {l : Nat} (hl : l < mj_nl M) : p7 M (nI l) := by
  have := mj_nlle h
  refine ⟨nI_pos (by omega), ?_⟩
  rw [mj_nlI h]
  exact nI_ge hl (by omega)
theorem mj_f35q {M : mj_M} {w a g : Nat} (hw : w < 4) (ha : a < 10) (hg : g < 10) : f35 M (nI w) (nI a) (nI g) = nI (w * 100 + a * 10 + g) ∧ (f35 M (nI w) (nI a) (nI g)).toNatClampNeg = w * 100 + a * 10 + g ∧ vp_in (f35 M (nI w) (nI a) (nI g)) 400 ∧ ¬ f35 M (nI w) (nI a) (nI g) = -1 := by
  have e : f35 M (nI w) (nI a) (nI g) = nI (w * 100 + a * 10 + g) := by
    rw [mj_f35 hw ha hg, show (w * 10 + a) * 10 + g = w * 100 + a * 10 + g by omega]
  rw [e, nI_clamp (by omega)]
  exact ⟨rfl, rfl, vp_in_nI (by omega) (by decide), mj_nI_m1 (by omega)⟩
theorem mj_f35m {M : mj_M} {w a : Nat} (hw : w < 4) (ha : a < 10) : f35 M (nI w) (nI a) (-1) = -1 := by
  unfold f35
  have n4 : (4 : Int32) = nI 4 := rfl
  have n10 : (10 : Int32) = nI 10 := rfl
  rw [if_neg (nI_pos (by omega)), n4, if_neg (nI_ge hw (by omega)), if_neg (nI_pos (by omega)), n10, if_neg (nI_ge ha (by omega)), if_pos (by decide)]
/-- lay -/
theorem sp37 {M : mj_M} {K : mj_K} {w l a : Nat} {u v : Nat → Int32} (hI : mj_In M) (hw : w < 4) (hl : l < mj_nl M) (ha : a < mj_nr M)
    (h1 : mj_rb M (nI (w % 2)) (nI (w / 2)) l (nI a) = -1 → K 0 0 (mj_yy M u v))
    (h2 : ∀ b, b < mj_nr M → mj_rb M (nI (w % 2)) (nI (w / 2)) l (nI a) = nI b → K 0 0 (mj_yy M (upd u (w * 100 + a * 10 + b) (if M 12 l < u (w * 100 + a * 10 + b) then M 12 l else u (w * 100 + a * 10 + b))) v)) : mj_Cm 37 3 [.ref 35, .int (nI w), .int (nI l), .int (nI a), .ref 8] (mj_yy M u v) K := by
  have hR := mj_nrle hI
  have hL := mj_nlle hI
  obtain ⟨b1, b2, b3⟩ := mj_wd4 hw
  have e1 : f12 (mj_yy M u v) (nI l) (nI a) (nI w) = mj_rb M (nI (w % 2)) (nI (w / 2)) l (nI a) := by
    rw [mj_f12 (M := mj_yy M u v) (show p7 (mj_yy M u v) (nI l) from mj_p7 hI hl) b1 b2 b3, mj_rb_yy, nI_clamp (by omega)]
  refine e37 ⟨hI.2.1.2, ?_⟩
  rw [e1]
  rcases mj_rb_in hI hl (nI a) (c := nI (w % 2)) (k := nI (w / 2)) with q | ⟨q, -⟩
  · rw [q, mj_f35m hw (by omega)]
    exact ⟨fun _ => h1 q, fun z => absurd rfl z⟩
  · obtain ⟨q1, q2⟩ := mj_vin q
    obtain ⟨f1, f2, f3, f4⟩ := mj_f35q (M := mj_yy M u v) hw (show a < 10 by omega) (show (mj_rb M (nI (w % 2)) (nI (w / 2)) l (nI a)).toNatClampNeg < 10 by omega)
    rw [← q1] at f1 f2 f3 f4
    refine ⟨fun z => absurd z f4, fun _ => ⟨f3, vp_in_nI (by omega) (by decide), ?_⟩⟩
    rw [f2, nI_clamp (show l < 2 ^ 31 by omega), mj_yy_w36]
    exact h2 _ q2 q1
/-- what choose writes -/
def mj_cz (M : mj_M) (w l a b i : Nat) (u v : Nat → Int32) : Nat → Int32 := fun j => if w * 100 + a * 10 ≤ j ∧ j < w * 100 + a * 10 + i ∧ v j = -1 ∧ u j < 1000 ∧ u j = M 12 l + u (w * 100 + b * 10 + (j - (w * 100 + a * 10))) then nI l else v j
theorem mj_choose_l {M : mj_M} {K : mj_K} {w l a b : Nat} {u v : Nat → Int32} (hw : w < 4) (hl : l < 14) (ha : a < 10) (hb : b < 10) (h : K 0 0 (mj_yy M u (mj_cz M w l a b 10 u v))) : ∀ (r i : Nat) (o7 o8 : Option Value), i + r = 10 → mj_W 0 39 3 13 [some (.ref 35), some (.int (nI w)), some (.int (nI l)), some (.int (nI a)), some (.ref 8), some (.int (nI b)), some (.int (nI i)), o7, o8] [] (mj_yy M u (mj_cz M w l a b i u v)) 0 K := by
  intro r
  induction r with
  | zero =>
    intro i o7 o8 hi
    have : i = 10 := by omega
    subst this
    exact t39_13 ⟨fun _ => h, fun c => absurd (nI_le (Nat.le_refl 10) (by decide)) c⟩
  | succ r ih =>
    intro i o7 o8 hi
    have hi10 : i < 10 := by omega
    obtain ⟨f1, f2, f3, f4⟩ := mj_f35q (M := mj_yy M u (mj_cz M w l a b i u v)) hw ha hi10
    obtain ⟨g1, g2, g3, g4⟩ := mj_f35q (M := mj_yy M u (mj_cz M w l a b i u v)) hw hb hi10
    have vz : mj_cz M w l a b i u v (w * 100 + a * 10 + i) = v (w * 100 + a * 10 + i) := by
      unfold mj_cz
      rw [if_neg (by omega)]
    have step : ∀ (o7 o8 : Option Value), ¬ (v (w * 100 + a * 10 + i) = -1 ∧ u (w * 100 + a * 10 + i) < 1000 ∧ u (w * 100 + a * 10 + i) = M 12 l + u (w * 100 + b * 10 + i)) → mj_W 0 39 3 13 [some (.ref 35), some (.int (nI w)), some (.int (nI l)), some (.int (nI a)), some (.ref 8), some (.int (nI b)), some (.int (nI i + 1)), o7, o8] [] (mj_yy M u (mj_cz M w l a b i u v)) 0 K := by
      intro o7 o8 hn
      have e : mj_cz M w l a b (i + 1) u v = mj_cz M w l a b i u v := by
        funext j
        unfold mj_cz
        by_cases e : j = w * 100 + a * 10 + i
        · subst e
          rw [show w * 100 + a * 10 + i - (w * 100 + a * 10) = i by omega, if_neg (fun z => hn ⟨z.2.2.1, z.2.2.2.1, z.2.2.2.2⟩), if_neg (by omega)]
        · have : (w * 100 + a * 10 ≤ j ∧ j < w * 100 + a * 10 + (i + 1) ∧ v j = -1 ∧ u j < 1000 ∧ u j = M 12 l + u (w * 100 + b * 10 + (j - (w * 100 + a * 10)))) ↔ (w * 100 + a * 10 ≤ j ∧ j < w * 100 + a * 10 + i ∧ v j = -1 ∧ u j < 1000 ∧ u j = M 12 l + u (w * 100 + b * 10 + (j - (w * 100 + a * 10)))) := by
            constructor
            · rintro ⟨q1, q2, q3⟩; exact ⟨q1, by omega, q3⟩
            · rintro ⟨q1, q2, q3⟩; exact ⟨q1, by omega, q3⟩
          simp only [this]
      rw [nI_1, ← e]
      exact ih (i + 1) o7 o8 (by omega)
    refine t39_13 ⟨fun c => absurd c (nI_ge hi10 (by decide)), fun _ => ⟨fun c => absurd c (mj_nI_m1 (by omega)), fun _ => ⟨fun c => absurd c f4, fun _ => ⟨fun c => absurd c g4, fun _ => ⟨f3, ?_⟩⟩⟩⟩⟩
    rw [f2, g2, show (mj_yy M u (mj_cz M w l a b i u v)) 37 = mj_cz M w l a b i u v from rfl, show (mj_yy M u (mj_cz M w l a b i u v)) 36 = u from rfl, show (mj_yy M u (mj_cz M w l a b i u v)) 12 = M 12 from rfl, vz, nI_clamp (show l < 2 ^ 31 by omega)]
    refine ⟨fun c1 => ⟨fun c2 => step _ _ (fun z => ?_), fun c2 => ⟨vp_in_nI hl (by decide), g3, fun c3 => step _ _ (fun z => c3 z.2.2), fun c3 => ?_⟩⟩, fun c1 => step _ _ (fun z => c1 z.1)⟩
    · have h1 := z.2.1
      rw [mj_le] at c2
      rw [mj_lt] at h1
      omega
    · have c2' : u (w * 100 + a * 10 + i) < 1000 := by
        rw [mj_le] at c2
        rw [mj_lt]
        omega
      have e : upd (mj_cz M w l a b i u v) (w * 100 + a * 10 + i) (nI l) = mj_cz M w l a b (i + 1) u v := by
        funext j
        unfold upd mj_cz
        by_cases e : j = w * 100 + a * 10 + i
        · rw [if_pos e, e, if_pos (show w * 100 + a * 10 ≤ w * 100 + a * 10 + i ∧ w * 100 + a * 10 + i < w * 100 + a * 10 + (i + 1) ∧ v (w * 100 + a * 10 + i) = -1 ∧ u (w * 100 + a * 10 + i) < 1000 ∧ u (w * 100 + a * 10 + i) = M 12 l + u (w * 100 + b * 10 + (w * 100 + a * 10 + i - (w * 100 + a * 10))) from ⟨by omega, by omega, c1, c2', by rw [show w * 100 + a * 10 + i - (w * 100 + a * 10) = i by omega]; exact c3⟩)]
        · rw [if_neg e]
          have : (w * 100 + a * 10 ≤ j ∧ j < w * 100 + a * 10 + (i + 1) ∧ v j = -1 ∧ u j < 1000 ∧ u j = M 12 l + u (w * 100 + b * 10 + (j - (w * 100 + a * 10)))) ↔ (w * 100 + a * 10 ≤ j ∧ j < w * 100 + a * 10 + i ∧ v j = -1 ∧ u j < 1000 ∧ u j = M 12 l + u (w * 100 + b * 10 + (j - (w * 100 + a * 10)))) := by
            constructor
            · rintro ⟨q1, q2, q3⟩; exact ⟨q1, by omega, q3⟩
            · rintro ⟨q1, q2, q3⟩; exact ⟨q1, by omega, q3⟩
          simp only [this]
      rw [mj_yy_w37, e, nI_1]
      exact ih (i + 1) _ _ (by omega)
/-- choose -/
theorem sp39 {M : mj_M} {K : mj_K} {w l a : Nat} {u v : Nat → Int32} (hI : mj_In M) (hw : w < 4) (hl : l < mj_nl M) (ha : a < mj_nr M)
    (h1 : mj_rb M (nI (w % 2)) (nI (w / 2)) l (nI a) = -1 → K 0 0 (mj_yy M u v))
    (h2 : ∀ b, b < mj_nr M → mj_rb M (nI (w % 2)) (nI (w / 2)) l (nI a) = nI b → K 0 0 (mj_yy M u (mj_cz M w l a b 10 u v))) : mj_Cm 39 3 [.ref 35, .int (nI w), .int (nI l), .int (nI a), .ref 8] (mj_yy M u v) K := by
  have hR := mj_nrle hI
  have hL := mj_nlle hI
  obtain ⟨b1, b2, b3⟩ := mj_wd4 hw
  have e1 : f12 (mj_yy M u v) (nI l) (nI a) (nI w) = mj_rb M (nI (w % 2)) (nI (w / 2)) l (nI a) := by
    rw [mj_f12 (M := mj_yy M u v) (show p7 (mj_yy M u v) (nI l) from mj_p7 hI hl) b1 b2 b3, mj_rb_yy, nI_clamp (by omega)]
  refine e39 ⟨hI.2.1.2, ?_⟩
  rw [e1]
  rcases mj_rb_in hI hl (nI a) (c := nI (w % 2)) (k := nI (w / 2)) with q | ⟨q, -⟩
  · rw [q]
    exact t39_13 ⟨fun c => absurd c (by decide), fun _ => ⟨fun _ => h1 q, fun z => absurd rfl z⟩⟩
  · obtain ⟨q1, q2⟩ := mj_vin q
    have h3 := h2 _ q2 q1
    generalize (mj_rb M (nI (w % 2)) (nI (w / 2)) l (nI a)).toNatClampNeg = b at q1 q2 h3
    rw [q1]
    have h0 : mj_cz M w l a b 0 u v = v := by
      funext j
      unfold mj_cz
      rw [if_neg (by omega)]
    have h4 := mj_choose_l (w := w) (l := l) (a := a) (b := b) (u := u) (v := v) hw (by omega) (by omega) (by omega) h3 10 0 none none rfl
    rw [h0] at h4
    exact h4
