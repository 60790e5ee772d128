-- CRUSHLOAD'S METHODS, C: what is foretold
section CLC
variable {Z B M : mj_M} {K : mj_K} {p t l : Nat}
noncomputable def mk_Q (P : Nat → Nat → Prop) (M : mj_M) : mj_M := fun c i => @ite _ (P c i) (Classical.propDecidable _) (M (c - 40) i) (M c i)
theorem mk_Q_p {P : Nat → Nat → Prop} {c i : Nat} (h : P c i) : mk_Q P M c i = M (c - 40) i := @if_pos _ (Classical.propDecidable _) h _ _ _
theorem mk_Q_n {P : Nat → Nat → Prop} {c i : Nat} (h : ¬ P c i) : mk_Q P M c i = M c i := @if_neg _ (Classical.propDecidable _) h _ _ _
theorem mk_Q_c {P P' : Nat → Nat → Prop} (h : ∀ c i, P c i ↔ P' c i) : mk_Q P M = mk_Q P' M := by
  have : P = P' := funext fun c => funext fun i => propext (h c i)
  rw [this]
theorem mk_Q_0 (M : mj_M) : mk_Q (fun _ _ => False) M = M := funext fun c => funext fun i => mk_Q_n id
theorem mk_Q_r {P : Nat → Nat → Prop} (hP : ∀ c i, P c i → 41 ≤ c) {c : Nat} (hc : c ≤ 40) : mk_Q P M c = M c := funext fun i => mk_Q_n (fun z => by have := hP c i z; omega)
theorem mk_Q_u {P : Nat → Nat → Prop} {s c0 i0 : Nat} (h : s + 40 = c0) : mj_u (mk_Q P M) c0 i0 (M s i0) = mk_Q (fun c i => P c i ∨ (c = c0 ∧ i = i0)) M := by
  funext c i
  rw [mj_u_at]
  by_cases e : c = c0 ∧ i = i0
  · rw [if_pos e, mk_Q_p (Or.inr e), e.1, e.2, show c0 - 40 = s by omega]
  · rw [if_neg e]
    by_cases z : P c i
    · rw [mk_Q_p z, mk_Q_p (Or.inl z)]
    · rw [mk_Q_n z, mk_Q_n (fun y => y.elim z e)]
theorem mk_Q_s {P : Nat → Nat → Prop} {lo s d d' k : Nat} (h1 : s + 40 = d) (h2 : d + 1 = d') (h3 : lo ≤ d) : mj_u (mk_Q (fun c i => P c i ∨ (lo ≤ c ∧ c < d ∧ i = k)) M) d k (M s k) = mk_Q (fun c i => P c i ∨ (lo ≤ c ∧ c < d' ∧ i = k)) M := by
  rw [mk_Q_u h1]
  refine mk_Q_c (fun c i => ?_)
  by_cases hp : P c i
  · simp only [hp, true_or]
  · simp only [hp, false_or]
    omega
theorem mk_Q_t {P : Nat → Nat → Prop} {lo k : Nat} : mk_Q P M = mk_Q (fun c i => P c i ∨ (lo ≤ c ∧ c < lo ∧ i = k)) M := by
  refine mk_Q_c (fun c i => ⟨Or.inl, fun z => z.elim id (fun y => ?_)⟩)
  omega
theorem mk_6 {P : Nat → Nat → Prop} (hP : ∀ c i, P c i → 41 ≤ c) (hb8 : ∀ i, i < 10 → mj_bit (M 8 i)) (hK : K 0 0 (mk_Q (fun c i => P c i ∨ (c = 42 ∧ i = 0) ∨ (43 ≤ c ∧ c ≤ 48 ∧ i < 10)) M)) : mj_Cm 6 1 [.ref 42, .ref 2] (mk_Q P M) K := by
  have hP2 : ∀ k c i, (P c i ∨ (c = 42 ∧ i = 0) ∨ (43 ≤ c ∧ c ≤ 48 ∧ i < k)) → 41 ≤ c := by
    intro k c i z
    rcases z with z | z
    · exact hP c i z
    · omega
  have main : mj_W 2 6 1 10 [some (.ref 42), some (.ref 2), some (.int (nI 0))] [] (mk_Q (fun c i => P c i ∨ (c = 42 ∧ i = 0) ∨ (43 ≤ c ∧ c ≤ 48 ∧ i < 0)) M) 0 K := by
    refine mj_down (P := fun k => mj_W 2 6 1 10 [some (.ref 42), some (.ref 2), some (.int (nI k))] [] (mk_Q (fun c i => P c i ∨ (c = 42 ∧ i = 0) ∨ (43 ≤ c ∧ c ≤ 48 ∧ i < k)) M) 0 K) 10 ?_ ?_
    · exact t6_10 ⟨fun _ => hK, fun c => absurd (nI_le (Nat.le_refl 10) (by decide)) c⟩
    · intro k hk ih
      have ck : (nI k).toNatClampNeg = k := nI_clamp (by omega)
      refine t6_10 ⟨fun c => absurd c (nI_ge hk (by decide)), fun _ => ⟨vp_in_nI hk (by decide), ?_⟩⟩
      rw [ck, mk_Q_r (hP2 k) (show 3 ≤ 40 by decide), mk_Q_r (hP2 k) (show 4 ≤ 40 by decide), mk_Q_r (hP2 k) (show 5 ≤ 40 by decide), mk_Q_r (hP2 k) (show 6 ≤ 40 by decide), mk_Q_r (hP2 k) (show 7 ≤ 40 by decide), mk_Q_r (hP2 k) (show 8 ≤ 40 by decide), mk_nb (hb8 k (by omega))]
      rw [mk_Q_t (P := fun c i => P c i ∨ (c = 42 ∧ i = 0) ∨ (43 ≤ c ∧ c ≤ 48 ∧ i < k)) (lo := 43) (k := k), mk_Q_s (show 3 + 40 = 43 from rfl) (show 43 + 1 = 44 from rfl) (by decide), mk_Q_s (show 4 + 40 = 44 from rfl) (show 44 + 1 = 45 from rfl) (by decide), mk_Q_s (show 5 + 40 = 45 from rfl) (show 45 + 1 = 46 from rfl) (by decide), mk_Q_s (show 6 + 40 = 46 from rfl) (show 46 + 1 = 47 from rfl) (by decide), mk_Q_s (show 7 + 40 = 47 from rfl) (show 47 + 1 = 48 from rfl) (by decide), mk_Q_s (show 8 + 40 = 48 from rfl) (show 48 + 1 = 49 from rfl) (by decide), nI_1]
      rw [show mk_Q (fun c i => (P c i ∨ (c = 42 ∧ i = 0) ∨ (43 ≤ c ∧ c ≤ 48 ∧ i < k)) ∨ (43 ≤ c ∧ c < 49 ∧ i = k)) M = mk_Q (fun c i => P c i ∨ (c = 42 ∧ i = 0) ∨ (43 ≤ c ∧ c ≤ 48 ∧ i < k + 1)) M from mk_Q_c (fun c i => by
        by_cases hp : P c i
        · simp only [hp, true_or]
        · simp only [hp, false_or]
          omega)]
      exact ih
  refine e6 ?_
  rw [mk_Q_r hP (show 2 ≤ 40 by decide), mk_Q_u (show 2 + 40 = 42 from rfl)]
  rw [show mk_Q (fun c i => (P c i ∨ (c = 42 ∧ i = 0))) M = mk_Q (fun c i => P c i ∨ (c = 42 ∧ i = 0) ∨ (43 ≤ c ∧ c ≤ 48 ∧ i < 0)) M from mk_Q_c (fun c i => by
    by_cases hp : P c i
    · simp only [hp, true_or]
    · simp only [hp, false_or]
      omega)]
  exact main
theorem mk_17 {P : Nat → Nat → Prop} (hP : ∀ c i, P c i → 41 ≤ c) (hord : M 9 1 = 0 ∨ M 9 1 = 1) (hb17 : ∀ i, i < 14 → mj_bit (M 17 i)) (hb18 : ∀ i, i < 14 → mj_bit (M 18 i)) (hb19 : ∀ i, i < 14 → mj_bit (M 19 i)) (hb20 : ∀ i, i < 14 → mj_bit (M 20 i)) (hK : K 0 0 (mk_Q (fun c i => P c i ∨ (c = 49 ∧ i = 0) ∨ (c = 49 ∧ i = 1) ∨ (50 ≤ c ∧ c ≤ 60 ∧ i < 14)) M)) : mj_Cm 17 1 [.ref 49, .ref 9] (mk_Q P M) K := by
  have hP2 : ∀ k c i, (P c i ∨ (c = 49 ∧ i = 0) ∨ (c = 49 ∧ i = 1) ∨ (50 ≤ c ∧ c ≤ 60 ∧ i < k)) → 41 ≤ c := by
    intro k c i z
    rcases z with z | z
    · exact hP c i z
    · omega
  have main : mj_W 2 17 1 18 [some (.ref 49), some (.ref 9), some (.int (nI 0))] [] (mk_Q (fun c i => P c i ∨ (c = 49 ∧ i = 0) ∨ (c = 49 ∧ i = 1) ∨ (50 ≤ c ∧ c ≤ 60 ∧ i < 0)) M) 0 K := by
    refine mj_down (P := fun k => mj_W 2 17 1 18 [some (.ref 49), some (.ref 9), some (.int (nI k))] [] (mk_Q (fun c i => P c i ∨ (c = 49 ∧ i = 0) ∨ (c = 49 ∧ i = 1) ∨ (50 ≤ c ∧ c ≤ 60 ∧ i < k)) M) 0 K) 14 ?_ ?_
    · exact t17_18 ⟨fun _ => hK, fun c => absurd (nI_le (Nat.le_refl 14) (by decide)) c⟩
    · intro k hk ih
      have ck : (nI k).toNatClampNeg = k := nI_clamp (by omega)
      refine t17_18 ⟨fun c => absurd c (nI_ge hk (by decide)), fun _ => ⟨vp_in_nI hk (by decide), ?_⟩⟩
      rw [ck, mk_Q_r (hP2 k) (show 10 ≤ 40 by decide), mk_Q_r (hP2 k) (show 11 ≤ 40 by decide), mk_Q_r (hP2 k) (show 12 ≤ 40 by decide), mk_Q_r (hP2 k) (show 13 ≤ 40 by decide), mk_Q_r (hP2 k) (show 14 ≤ 40 by decide), mk_Q_r (hP2 k) (show 15 ≤ 40 by decide), mk_Q_r (hP2 k) (show 16 ≤ 40 by decide), mk_Q_r (hP2 k) (show 17 ≤ 40 by decide), mk_Q_r (hP2 k) (show 18 ≤ 40 by decide), mk_Q_r (hP2 k) (show 19 ≤ 40 by decide), mk_Q_r (hP2 k) (show 20 ≤ 40 by decide), mk_nb (hb17 k (by omega)), mk_nb (hb18 k (by omega)), mk_nb (hb19 k (by omega)), mk_nb (hb20 k (by omega))]
      rw [mk_Q_t (P := fun c i => P c i ∨ (c = 49 ∧ i = 0) ∨ (c = 49 ∧ i = 1) ∨ (50 ≤ c ∧ c ≤ 60 ∧ i < k)) (lo := 50) (k := k), mk_Q_s (show 10 + 40 = 50 from rfl) (show 50 + 1 = 51 from rfl) (by decide), mk_Q_s (show 11 + 40 = 51 from rfl) (show 51 + 1 = 52 from rfl) (by decide), mk_Q_s (show 12 + 40 = 52 from rfl) (show 52 + 1 = 53 from rfl) (by decide), mk_Q_s (show 13 + 40 = 53 from rfl) (show 53 + 1 = 54 from rfl) (by decide), mk_Q_s (show 14 + 40 = 54 from rfl) (show 54 + 1 = 55 from rfl) (by decide), mk_Q_s (show 15 + 40 = 55 from rfl) (show 55 + 1 = 56 from rfl) (by decide), mk_Q_s (show 16 + 40 = 56 from rfl) (show 56 + 1 = 57 from rfl) (by decide), mk_Q_s (show 17 + 40 = 57 from rfl) (show 57 + 1 = 58 from rfl) (by decide), mk_Q_s (show 18 + 40 = 58 from rfl) (show 58 + 1 = 59 from rfl) (by decide), mk_Q_s (show 19 + 40 = 59 from rfl) (show 59 + 1 = 60 from rfl) (by decide), mk_Q_s (show 20 + 40 = 60 from rfl) (show 60 + 1 = 61 from rfl) (by decide), nI_1]
      rw [show mk_Q (fun c i => (P c i ∨ (c = 49 ∧ i = 0) ∨ (c = 49 ∧ i = 1) ∨ (50 ≤ c ∧ c ≤ 60 ∧ i < k)) ∨ (50 ≤ c ∧ c < 61 ∧ i = k)) M = mk_Q (fun c i => P c i ∨ (c = 49 ∧ i = 0) ∨ (c = 49 ∧ i = 1) ∨ (50 ≤ c ∧ c ≤ 60 ∧ i < k + 1)) M from mk_Q_c (fun c i => by
        by_cases hp : P c i
        · simp only [hp, true_or]
        · simp only [hp, false_or]
          omega)]
      exact ih
  refine e17 ?_
  rw [mk_Q_r hP (show 9 ≤ 40 by decide)]
  refine ⟨hord, ?_⟩
  rw [mk_Q_u (show 9 + 40 = 49 from rfl), mk_Q_u (show 9 + 40 = 49 from rfl)]
  rw [show mk_Q (fun c i => ((P c i ∨ (c = 49 ∧ i = 0)) ∨ (c = 49 ∧ i = 1))) M = mk_Q (fun c i => P c i ∨ (c = 49 ∧ i = 0) ∨ (c = 49 ∧ i = 1) ∨ (50 ≤ c ∧ c ≤ 60 ∧ i < 0)) M from mk_Q_c (fun c i => by
    by_cases hp : P c i
    · simp only [hp, true_or]
    · simp only [hp, false_or]
      omega)]
  exact main
theorem mk_26 {P : Nat → Nat → Prop} (hP : ∀ c i, P c i → 41 ≤ c) {m : Nat} (hm : m ≤ 120) (h21 : M 21 0 = nI m) (hb28 : ∀ i, i < m → mj_bit (M 28 i)) (hK : K 0 0 (mk_Q (fun c i => P c i ∨ (c = 61 ∧ i = 0) ∨ (62 ≤ c ∧ c ≤ 68 ∧ i < m)) M)) : mj_Cm 26 1 [.ref 61, .ref 21] (mk_Q P M) K := by
  have hP2 : ∀ k c i, (P c i ∨ (c = 61 ∧ i = 0) ∨ (62 ≤ c ∧ c ≤ 68 ∧ i < k)) → 41 ≤ c := by
    intro k c i z
    rcases z with z | z
    · exact hP c i z
    · omega
  have main : mj_W 2 26 1 10 [some (.ref 61), some (.ref 21), some (.int (nI 0))] [] (mk_Q (fun c i => P c i ∨ (c = 61 ∧ i = 0) ∨ (62 ≤ c ∧ c ≤ 68 ∧ i < 0)) M) 0 K := by
    refine mj_down (P := fun k => mj_W 2 26 1 10 [some (.ref 61), some (.ref 21), some (.int (nI k))] [] (mk_Q (fun c i => P c i ∨ (c = 61 ∧ i = 0) ∨ (62 ≤ c ∧ c ≤ 68 ∧ i < k)) M) 0 K) m ?_ ?_
    · refine t26_10 ⟨fun _ => hK, fun c => absurd ?_ c⟩
      rw [mk_Q_p (Or.inr (Or.inl ⟨rfl, rfl⟩))]
      show M 21 0 ≤ nI m
      rw [h21]
      exact nI_le (Nat.le_refl _) (by omega)
    · intro k hk ih
      have ck : (nI k).toNatClampNeg = k := nI_clamp (by omega)
      refine t26_10 ⟨fun c => absurd c ?_, fun _ => ⟨fun c => absurd c (nI_ge (show k < 120 by omega) (by decide)), fun _ => ⟨vp_in_nI (by omega) (by decide), ?_⟩⟩⟩
      · rw [mk_Q_p (Or.inr (Or.inl ⟨rfl, rfl⟩))]
        show ¬ M 21 0 ≤ nI k
        rw [h21]
        exact nI_ge hk (by omega)
      · rw [ck, mk_Q_r (hP2 k) (show 22 ≤ 40 by decide), mk_Q_r (hP2 k) (show 23 ≤ 40 by decide), mk_Q_r (hP2 k) (show 24 ≤ 40 by decide), mk_Q_r (hP2 k) (show 25 ≤ 40 by decide), mk_Q_r (hP2 k) (show 26 ≤ 40 by decide), mk_Q_r (hP2 k) (show 27 ≤ 40 by decide), mk_Q_r (hP2 k) (show 28 ≤ 40 by decide), mk_nb (hb28 k (by omega))]
        rw [mk_Q_t (P := fun c i => P c i ∨ (c = 61 ∧ i = 0) ∨ (62 ≤ c ∧ c ≤ 68 ∧ i < k)) (lo := 62) (k := k), mk_Q_s (show 22 + 40 = 62 from rfl) (show 62 + 1 = 63 from rfl) (by decide), mk_Q_s (show 23 + 40 = 63 from rfl) (show 63 + 1 = 64 from rfl) (by decide), mk_Q_s (show 24 + 40 = 64 from rfl) (show 64 + 1 = 65 from rfl) (by decide), mk_Q_s (show 25 + 40 = 65 from rfl) (show 65 + 1 = 66 from rfl) (by decide), mk_Q_s (show 26 + 40 = 66 from rfl) (show 66 + 1 = 67 from rfl) (by decide), mk_Q_s (show 27 + 40 = 67 from rfl) (show 67 + 1 = 68 from rfl) (by decide), mk_Q_s (show 28 + 40 = 68 from rfl) (show 68 + 1 = 69 from rfl) (by decide), nI_1]
        rw [show mk_Q (fun c i => (P c i ∨ (c = 61 ∧ i = 0) ∨ (62 ≤ c ∧ c ≤ 68 ∧ i < k)) ∨ (62 ≤ c ∧ c < 69 ∧ i = k)) M = mk_Q (fun c i => P c i ∨ (c = 61 ∧ i = 0) ∨ (62 ≤ c ∧ c ≤ 68 ∧ i < k + 1)) M from mk_Q_c (fun c i => by
          by_cases hp : P c i
          · simp only [hp, true_or]
          · simp only [hp, false_or]
            omega)]
        exact ih
  refine e26 ?_
  rw [mk_Q_r hP (show 21 ≤ 40 by decide), mk_Q_u (show 21 + 40 = 61 from rfl)]
  rw [show mk_Q (fun c i => (P c i ∨ (c = 61 ∧ i = 0))) M = mk_Q (fun c i => P c i ∨ (c = 61 ∧ i = 0) ∨ (62 ≤ c ∧ c ≤ 68 ∧ i < 0)) M from mk_Q_c (fun c i => by
    by_cases hp : P c i
    · simp only [hp, true_or]
    · simp only [hp, false_or]
      omega)]
  exact main
theorem mk_31 {P : Nat → Nat → Prop} (hP : ∀ c i, P c i → 41 ≤ c) (hK : K 0 0 (mk_Q (fun c i => P c i ∨ (c = 69 ∧ i = 0) ∨ (70 ≤ c ∧ c ≤ 75 ∧ i < 12)) M)) : mj_Cm 31 1 [.ref 69, .ref 29] (mk_Q P M) K := by
  have hP2 : ∀ k c i, (P c i ∨ (c = 69 ∧ i = 0) ∨ (70 ≤ c ∧ c ≤ 75 ∧ i < k)) → 41 ≤ c := by
    intro k c i z
    rcases z with z | z
    · exact hP c i z
    · omega
  have main : mj_W 2 31 1 10 [some (.ref 69), some (.ref 29), some (.int (nI 0))] [] (mk_Q (fun c i => P c i ∨ (c = 69 ∧ i = 0) ∨ (70 ≤ c ∧ c ≤ 75 ∧ i < 0)) M) 0 K := by
    refine mj_down (P := fun k => mj_W 2 31 1 10 [some (.ref 69), some (.ref 29), some (.int (nI k))] [] (mk_Q (fun c i => P c i ∨ (c = 69 ∧ i = 0) ∨ (70 ≤ c ∧ c ≤ 75 ∧ i < k)) M) 0 K) 12 ?_ ?_
    · exact t31_10 ⟨fun _ => hK, fun c => absurd (nI_le (Nat.le_refl 12) (by decide)) c⟩
    · intro k hk ih
      have ck : (nI k).toNatClampNeg = k := nI_clamp (by omega)
      refine t31_10 ⟨fun c => absurd c (nI_ge hk (by decide)), fun _ => ⟨vp_in_nI hk (by decide), ?_⟩⟩
      rw [ck, mk_Q_r (hP2 k) (show 30 ≤ 40 by decide), mk_Q_r (hP2 k) (show 31 ≤ 40 by decide), mk_Q_r (hP2 k) (show 32 ≤ 40 by decide), mk_Q_r (hP2 k) (show 33 ≤ 40 by decide), mk_Q_r (hP2 k) (show 34 ≤ 40 by decide), mk_Q_r (hP2 k) (show 35 ≤ 40 by decide)]
      rw [mk_Q_t (P := fun c i => P c i ∨ (c = 69 ∧ i = 0) ∨ (70 ≤ c ∧ c ≤ 75 ∧ i < k)) (lo := 70) (k := k), mk_Q_s (show 30 + 40 = 70 from rfl) (show 70 + 1 = 71 from rfl) (by decide), mk_Q_s (show 31 + 40 = 71 from rfl) (show 71 + 1 = 72 from rfl) (by decide), mk_Q_s (show 32 + 40 = 72 from rfl) (show 72 + 1 = 73 from rfl) (by decide), mk_Q_s (show 33 + 40 = 73 from rfl) (show 73 + 1 = 74 from rfl) (by decide), mk_Q_s (show 34 + 40 = 74 from rfl) (show 74 + 1 = 75 from rfl) (by decide), mk_Q_s (show 35 + 40 = 75 from rfl) (show 75 + 1 = 76 from rfl) (by decide), nI_1]
      rw [show mk_Q (fun c i => (P c i ∨ (c = 69 ∧ i = 0) ∨ (70 ≤ c ∧ c ≤ 75 ∧ i < k)) ∨ (70 ≤ c ∧ c < 76 ∧ i = k)) M = mk_Q (fun c i => P c i ∨ (c = 69 ∧ i = 0) ∨ (70 ≤ c ∧ c ≤ 75 ∧ i < k + 1)) M from mk_Q_c (fun c i => by
        by_cases hp : P c i
        · simp only [hp, true_or]
        · simp only [hp, false_or]
          omega)]
      exact ih
  refine e31 ?_
  rw [mk_Q_r hP (show 29 ≤ 40 by decide), mk_Q_u (show 29 + 40 = 69 from rfl)]
  rw [show mk_Q (fun c i => (P c i ∨ (c = 69 ∧ i = 0))) M = mk_Q (fun c i => P c i ∨ (c = 69 ∧ i = 0) ∨ (70 ≤ c ∧ c ≤ 75 ∧ i < 0)) M from mk_Q_c (fun c i => by
    by_cases hp : P c i
    · simp only [hp, true_or]
    · simp only [hp, false_or]
      omega)]
  exact main
theorem mk_40 {P : Nat → Nat → Prop} (hP : ∀ c i, P c i → 41 ≤ c) (hK : K 0 0 (mk_Q (fun c i => P c i ∨ (77 ≤ c ∧ c ≤ 78 ∧ i < 400)) M)) : mj_Cm 40 1 [.ref 76, .ref 36] (mk_Q P M) K := by
  have hP2 : ∀ k c i, (P c i ∨ (77 ≤ c ∧ c ≤ 78 ∧ i < k)) → 41 ≤ c := by
    intro k c i z
    rcases z with z | z
    · exact hP c i z
    · omega
  have main : mj_W 2 40 1 2 [some (.ref 76), some (.ref 36), some (.int (nI 0))] [] (mk_Q (fun c i => P c i ∨ (77 ≤ c ∧ c ≤ 78 ∧ i < 0)) M) 0 K := by
    refine mj_down (P := fun k => mj_W 2 40 1 2 [some (.ref 76), some (.ref 36), some (.int (nI k))] [] (mk_Q (fun c i => P c i ∨ (77 ≤ c ∧ c ≤ 78 ∧ i < k)) M) 0 K) 400 ?_ ?_
    · exact t40_2 ⟨fun _ => hK, fun c => absurd (nI_le (Nat.le_refl 400) (by decide)) c⟩
    · intro k hk ih
      have ck : (nI k).toNatClampNeg = k := nI_clamp (by omega)
      refine t40_2 ⟨fun c => absurd c (nI_ge hk (by decide)), fun _ => ⟨vp_in_nI hk (by decide), ?_⟩⟩
      rw [ck, mk_Q_r (hP2 k) (show 37 ≤ 40 by decide), mk_Q_r (hP2 k) (show 38 ≤ 40 by decide)]
      rw [mk_Q_t (P := fun c i => P c i ∨ (77 ≤ c ∧ c ≤ 78 ∧ i < k)) (lo := 77) (k := k), mk_Q_s (show 37 + 40 = 77 from rfl) (show 77 + 1 = 78 from rfl) (by decide), mk_Q_s (show 38 + 40 = 78 from rfl) (show 78 + 1 = 79 from rfl) (by decide), nI_1]
      rw [show mk_Q (fun c i => (P c i ∨ (77 ≤ c ∧ c ≤ 78 ∧ i < k)) ∨ (77 ≤ c ∧ c < 79 ∧ i = k)) M = mk_Q (fun c i => P c i ∨ (77 ≤ c ∧ c ≤ 78 ∧ i < k + 1)) M from mk_Q_c (fun c i => by
        by_cases hp : P c i
        · simp only [hp, true_or]
        · simp only [hp, false_or]
          omega)]
      exact ih
  refine e40 ?_
  rw [show mk_Q P M = mk_Q (fun c i => P c i ∨ (77 ≤ c ∧ c ≤ 78 ∧ i < 0)) M from mk_Q_c (fun c i => ⟨Or.inl, fun z => z.elim id (fun y => absurd y.2.2 (Nat.not_lt_zero _))⟩)]
  exact main
end CLC
