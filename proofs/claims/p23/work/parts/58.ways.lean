-- ALL WAYS TRIED: the least sum over ways that enter no room twice is the distance
section AWY
def mw_s (n : Nat) (A : Nat → Nat → Nat → Prop) (st : Nat → Nat) (g : Nat) : Nat → (Nat → Prop) → Nat → Nat → Prop
  | 0, _, m, a => a = g ∧ m = 0
  | e + 1, E, m, a => ∃ l b m', l < n ∧ A l a b ∧ ¬ E b ∧ mw_s n A st g e (fun x => E x ∨ x = b) m' b ∧ m = m' + st l
theorem mw_re {n : Nat} {A : Nat → Nat → Nat → Prop} {st : Nat → Nat} {g : Nat} : ∀ (e : Nat) (E : Nat → Prop) (m a : Nat), mw_s n A st g e E m a → mj_re n A st g m a
  | 0, E, m, a, h => by
    obtain ⟨rfl, rfl⟩ := h
    exact mj_re_0
  | e + 1, E, m, a, h => by
    obtain ⟨l, b, m', hl, hA, -, hw, rfl⟩ := h
    exact mj_re_s hl hA (mw_re e _ m' b hw)
theorem mw_short {n R : Nat} {A : Nat → Nat → Nat → Prop} {st : Nat → Nat} {g : Nat} (hR : ∀ l a b, l < n → A l a b → b < R) (hst : ∀ l, l < n → 1 ≤ st l ∧ st l ≤ 5) : ∀ (d a : Nat) (E : Nat → Prop), mj_ds n A st a g ≤ d → (∃ m, mj_re n A st g m a) → (∀ e, E e → mj_ds n A st a g ≤ mj_ds n A st e g) → ∃ k, k ≤ mj_nearer n A st g R a ∧ mw_s n A st g k E (mj_ds n A st a g) a
  | d, a, E, hd, h, hE => by
    by_cases e : a = g
    · subst e
      exact ⟨0, Nat.zero_le _, rfl, mj_ds_0⟩
    · obtain ⟨l, b, hl, hA, hb, eq⟩ := mj_ds_step h e
      have h1 := (hst l hl).1
      have hlt : mj_ds n A st b g < mj_ds n A st a g := by omega
      cases d with
      | zero => omega
      | succ d =>
        obtain ⟨k, hk, hw⟩ := mw_short hR hst d b (fun x => E x ∨ x = b) (by omega) hb (fun x hx => hx.elim (fun y => by have := hE x y; omega) (fun y => by rw [y]; exact Nat.le_refl _))
        have hn := mj_nearer_lt (n := n) (A := A) (st := st) (g := g) (R := R) (hR l a b hl hA) hlt
        refine ⟨k + 1, by omega, l, b, mj_ds n A st b g, hl, hA, fun y => ?_, hw, eq⟩
        have := hE b y
        omega
-- marks of rooms
theorem mw_sh : ∀ l, l < 32 → ((1 : Int32) <<< (nI l &&& 31)).toBitVec = BitVec.twoPow 32 l := by decide +kernel
theorem mw_tp : ∀ l, l < 32 → BitVec.twoPow 32 l ≠ 0#32 := by decide +kernel
theorem mw_and (x : Int32) {b : Nat} (hb : b < 32) : (x &&& ((1 : Int32) <<< (nI b &&& 31))) = 0 ↔ x.toBitVec.getLsbD b = false := by
  rw [← Int32.toBitVec_inj, Int32.toBitVec_and, mw_sh b hb, BitVec.and_twoPow]
  cases hc : x.toBitVec.getLsbD b
  · exact ⟨fun _ => rfl, fun _ => rfl⟩
  · exact ⟨fun z => absurd ((if_pos rfl).symm.trans z) (mw_tp b hb), fun z => absurd z (by decide)⟩
theorem mw_or (x : Int32) {b : Nat} (hb : b < 32) (j : Nat) : (x ||| ((1 : Int32) <<< (nI b &&& 31))).toBitVec.getLsbD j = (x.toBitVec.getLsbD j || decide (b = j)) := by
  rw [Int32.toBitVec_or, mw_sh b hb, BitVec.getLsbD_or, BitVec.getLsbD_twoPow, decide_eq_true hb, Bool.true_and]
variable {Z M : mj_M} {K : mj_K} {c k : Int32} {g : Nat}
/-- what the search answers: the least sum over ways of at most r links that enter no room of E -/
def mw_v (Z : mj_M) (c k : Int32) (g r : Nat) (E : Nat → Prop) (a : Nat) (v : Int32) : Prop := (v = -1 ∧ ∀ e m, e ≤ r → ¬ mw_s (mj_nl Z) (mj_arc Z c k) (mj_sp Z) g e E m a) ∨ (∃ m e, m ≤ 5 * r ∧ v = nI m ∧ mw_s (mj_nl Z) (mj_arc Z c k) (mj_sp Z) g e E m a ∧ ∀ e' m', e' ≤ r → mw_s (mj_nl Z) (mj_arc Z c k) (mj_sp Z) g e' E m' a → m ≤ m')
/-- ways whose first link is below j -/
def mw_q (Z : mj_M) (c k : Int32) (g : Nat) (E : Nat → Prop) (a j e m : Nat) : Prop := ∃ l b m', l < j ∧ mj_arc Z c k l a b ∧ ¬ E b ∧ mw_s (mj_nl Z) (mj_arc Z c k) (mj_sp Z) g e (fun x => E x ∨ x = b) m' b ∧ m = m' + mj_sp Z l
def mw_i (Z : mj_M) (c k : Int32) (g r : Nat) (E : Nat → Prop) (a j : Nat) (v : Int32) : Prop := (v = -1 ∧ ∀ e m, e ≤ r → ¬ mw_q Z c k g E a j e m) ∨ (∃ m e, m ≤ 5 * r + 5 ∧ v = nI m ∧ mw_q Z c k g E a j e m ∧ ∀ e' m', e' ≤ r → mw_q Z c k g E a j e' m' → m ≤ m')
/-- a link that leads nowhere new changes nothing -/
theorem mw_skip {r a j : Nat} {E : Nat → Prop} {v : Int32} (h : mw_i Z c k g r E a j v) (hn : ∀ b e m, e ≤ r → mj_arc Z c k j a b → ¬ E b → ¬ mw_s (mj_nl Z) (mj_arc Z c k) (mj_sp Z) g e (fun x => E x ∨ x = b) m b) : mw_i Z c k g r E a (j + 1) v := by
  have low : ∀ e m, e ≤ r → mw_q Z c k g E a (j + 1) e m → mw_q Z c k g E a j e m := by
    intro e m he ⟨l, b, m', hl, hA, hE, hw, em⟩
    by_cases q : l = j
    · subst q
      exact absurd hw (hn b e m' he hA hE)
    · exact ⟨l, b, m', by omega, hA, hE, hw, em⟩
  rcases h with ⟨h1, h2⟩ | ⟨m, e, h1, h2, ⟨l, b, m', hl, hr⟩, h4⟩
  · exact Or.inl ⟨h1, fun e m he z => h2 e m he (low e m he z)⟩
  · exact Or.inr ⟨m, e, h1, h2, ⟨l, b, m', by omega, hr⟩, fun e' m' he z => h4 e' m' he (low e' m' he z)⟩
theorem mk_90 (h : mj_Ia Z) {Y : mj_M} (hv : mj_v M 1 = mj_cc Z Y) (hc : mj_bit c) (hk : mj_bit k) {w : Int32} (hw : w = c + 2 * k) (hg : g < mj_nr Z) : ∀ (r e d : Nat) (E : Nat → Prop) (a : Nat) (x4 : Int32) (K : mj_K), e + r = 10 → r + 3 ≤ d → a < mj_nr Z → (∀ j, j < 10 → (x4.toBitVec.getLsbD j = true ↔ E j)) → (∀ v, mw_v Z c k g r E a v → K 0 v M) → mj_Cm 90 d [.ref 9, .int w, .int (nI a), .int (nI g), .int x4, .int (nI e)] M K
  | r, e, d, E, a, x4, K, her, hd, ha, hE, hK => by
    have ht : mj_ht 90 = 3 := rfl
    have hR := mj_S_R h.1.1.s
    have hL := mj_S_L h.1.1.s
    have hd3 : mj_ht 90 ≤ d := by rw [ht]; omega
    refine e90 hd3 ⟨fun hne => ?_, fun heq => hK 0 (Or.inr ⟨0, 0, Nat.zero_le _, rfl, ⟨(nI_eq (by omega) (by omega)).mp heq, rfl⟩, fun _ _ _ _ => Nat.zero_le _⟩)⟩
    have hag : ¬ a = g := fun z => hne (by rw [z])
    cases r with
    | zero =>
      refine ⟨fun c2 => absurd c2 (nI_nlt (a := e) (b := 10) (by omega) (by omega)), fun _ => hK _ (Or.inl ⟨rfl, fun e' m he' z => ?_⟩)⟩
      obtain rfl : e' = 0 := by omega
      exact hag z.1
    | succ r =>
      refine ⟨fun _ => ?_, fun c2 => absurd (nI_lt (b := 10) (by omega) (by decide)) c2⟩
      have r90 : M 9 0 = Z 8 0 := mk_at hv 8 0
      refine mj_down (P := fun j => ∀ v : Int32, mw_i Z c k g r E a j v → ∀ o8 o9, mj_W 2 90 d 22 [some (.ref 9), some (.int w), some (.int (nI a)), some (.int (nI g)), some (.int x4), some (.int (nI e)), some (.int v), some (.int (nI j)), o8, o9] [] M 0 K) (mj_nl Z) ?_ ?_ (-1) (Or.inl ⟨rfl, fun _ _ _ z => by obtain ⟨l, b, m', hl, -⟩ := z; exact absurd hl (Nat.not_lt_zero l)⟩) none none
      · intro v hi o8 o9
        refine t90_22 hd3 ⟨fun _ => hK v ?_, fun c2 => absurd (by rw [r90]; exact mj_lle h.1.1.s rfl) c2⟩
        rcases hi with ⟨h1, h2⟩ | ⟨m, e', h1, h2, h3, h4⟩
        · refine Or.inl ⟨h1, fun e' m he' z => ?_⟩
          cases e' with
          | zero => exact hag z.1
          | succ e' => exact h2 e' m (by omega) z
        · refine Or.inr ⟨m, e' + 1, by omega, h2, h3, fun e2 m2 he2 z => ?_⟩
          cases e2 with
          | zero => exact absurd z.1 hag
          | succ e2 => exact h4 e2 m2 (by omega) z
      · intro j hj ih v hi o8 o9
        have cj : (nI j).toNatClampNeg = j := nI_clamp (by omega)
        have f : f12 (mj_v M 1) (nI j) (nI a) w = mj_rb Z c k j (nI a) := by
          rw [hv, mj_f12 (mj_q7 h.1.1.s hj) hc hk hw, cj]
          rfl
        have s1 := mj_sp12 h.1.1.s.1 hj
        have s2 := mj_sp15 h.1.1.s.1 j hj
        have r13 : M 13 j = Z 12 j := mk_at hv 12 j
        have eS : Z 12 j = nI (mj_sp Z j) := by
          rw [mj_eq, s1, nI_toInt (by omega)]
        have next : ∀ v : Int32, mw_i Z c k g r E a (j + 1) v → ∀ o8 o9, mj_W 2 90 d 22 [some (.ref 9), some (.int w), some (.int (nI a)), some (.int (nI g)), some (.int x4), some (.int (nI e)), some (.int v), some (.int (nI j + 1)), o8, o9] [] M 0 K := by
          intro v hi
          rw [nI_1]
          exact ih v hi
        refine t90_22 hd3 ⟨fun c2 => absurd c2 (by rw [r90]; exact mj_lls h.1.1.s hj), fun _ => ⟨by rw [hv]; exact mj_b80 h.1.1.s, ?_⟩⟩
        rw [f]
        refine ⟨fun c2 => next v (mw_skip hi (fun b e' m _ hA _ => absurd c2 (mj_arc_b hR hA).1)) _ _, fun c2 => ?_⟩
        obtain ⟨b, b1, b2, -, -, -, -⟩ := mj_beh_ok h.1.1.s.1 hj c2
        have uniq : ∀ b', mj_arc Z c k j a b' → b' = b := by
          intro b' hA
          have := hA.1
          rw [b2] at this
          exact ((nI_eq (by omega) (by have := hA.2.2; omega)).mp this).symm
        have hAb : mj_arc Z c k j a b := ⟨b2, ha, b1⟩
        rw [b2]
        refine ⟨fun c3 => ?_, fun c3 => ?_⟩
        · have nE : ¬ E b := by
            intro z
            rw [mw_and x4 (by omega)] at c3
            rw [(hE b (by omega)).mpr z] at c3
            exact absurd c3 (by decide)
          rw [nI_1]
          refine mk_90 h hv hc hk hw hg r (e + 1) (d - 1) (fun x => E x ∨ x = b) b _ _ (by omega) (by omega) b1 (fun i hi2 => ?_) (fun u hu => ?_)
          · rw [mw_or x4 (by omega)]
            rw [Bool.or_eq_true, hE i hi2, decide_eq_true_eq]
            exact ⟨fun z => z.elim Or.inl (fun y => Or.inr y.symm), fun z => z.elim Or.inl (fun y => Or.inr y.symm)⟩
          · -- what came back
            refine t90_79 hd3 ⟨fun u1 => ?_, fun u1 => ?_⟩
            · rcases hu with ⟨-, hu⟩ | ⟨m, e', m1, m2, -⟩
              · exact next v (mw_skip hi (fun b' e' m he' hA hE' z => by rw [uniq b' hA] at z; exact hu e' m he' z)) _ _
              · rw [m2] at u1
                exact absurd u1 (mj_nI_m1 (by omega))
            · rcases hu with ⟨hu, -⟩ | ⟨m, e', m1, m2, m3, m4⟩
              · exact absurd hu u1
              · rw [cj, r13, eS, m2, nI_add, Nat.add_comm (mj_sp Z j) m]
                have mine : mw_q Z c k g E a (j + 1) e' (m + mj_sp Z j) := ⟨j, b, m, by omega, hAb, nE, m3, rfl⟩
                have hiQ : ∀ e2 m2', e2 ≤ r → mw_q Z c k g E a (j + 1) e2 m2' → mw_q Z c k g E a j e2 m2' ∨ m + mj_sp Z j ≤ m2' := by
                  intro e2 m2' he2 ⟨l, b', m', hl, hA, hE', hw', em⟩
                  by_cases q : l = j
                  · subst q
                    rw [uniq b' hA] at hw'
                    have := m4 e2 m' he2 hw'
                    exact Or.inr (by omega)
                  · exact Or.inl ⟨l, b', m', by omega, hA, hE', hw', em⟩
                refine ⟨fun v1 => ⟨mj_ql h.1.1.s hj, ?_⟩, fun v1 => ⟨mj_ql h.1.1.s hj, fun v2 => ?_, fun v2 => ?_⟩⟩
                · rcases hi with ⟨h1, h2⟩ | ⟨m0, e0, h1, h2, h3, h4⟩
                  · refine next _ (Or.inr ⟨_, e', by omega, rfl, mine, fun e2 m2' he2 z => (hiQ e2 m2' he2 z).elim (fun y => absurd y (h2 e2 m2' he2)) id⟩) _ _
                  · rw [h2] at v1
                    exact absurd v1 (mj_nI_m1 (by omega))
                · rcases hi with ⟨h1, h2⟩ | ⟨m0, e0, h1, h2, h3, h4⟩
                  · exact absurd h1 v1
                  · rw [h2] at v2
                    have hle := (nI_leI (by omega) (by omega)).mp v2
                    obtain ⟨l, b', m', hl, hr⟩ := h3
                    refine next v (Or.inr ⟨m0, e0, h1, h2, ⟨l, b', m', by omega, hr⟩, fun e2 m2' he2 z => (hiQ e2 m2' he2 z).elim (h4 e2 m2' he2) (fun y => by omega)⟩) _ _
                · rcases hi with ⟨h1, h2⟩ | ⟨m0, e0, h1, h2, h3, h4⟩
                  · exact absurd h1 v1
                  · rw [h2] at v2
                    have hlt : m + mj_sp Z j < m0 := by
                      rcases Nat.lt_or_ge (m + mj_sp Z j) m0 with q | q
                      · exact q
                      · exact absurd (nI_le q (by omega)) v2
                    refine next _ (Or.inr ⟨_, e', by omega, rfl, mine, fun e2 m2' he2 z => (hiQ e2 m2' he2 z).elim (fun y => by have := h4 e2 m2' he2 y; omega) id⟩) _ _
        · refine next v (mw_skip hi (fun b' e' m _ hA hE' => absurd ?_ c3)) _ _
          rw [uniq b' hA] at hE'
          rw [mw_and x4 (by omega)]
          cases q : x4.toBitVec.getLsbD b with
          | false => rfl
          | true => exact absurd ((hE b (by omega)).mp q) hE'
theorem mw_dv (h : mj_In Z) {a : Nat} (ha : a < mj_nr Z) {v : Int32} (hv : mw_v Z c k g 10 (fun x => x = a) a v) : v = mj_dv Z c k a g := by
  have hR := mj_nrle h
  unfold mj_dv
  by_cases z : mj_di Z c k a g < 1000
  · rw [if_pos z]
    have hre := (mj_D_iff h).mpr z
    obtain ⟨e, he, hw⟩ := mw_short (A := mj_arc Z c k) (R := mj_nr Z) (fun l a b hl hA => (mj_arc_R l a b hl hA).2) (mj_sp15 h) _ a (fun x => x = a) (Nat.le_refl _) hre (fun x hx => by rw [hx]; exact Nat.le_refl _)
    have hn : mj_nearer (mj_nl Z) (mj_arc Z c k) (mj_sp Z) g (mj_nr Z) a ≤ mj_nr Z := mj_cb_le _ _
    rcases hv with ⟨h1, h2⟩ | ⟨m, e', h1, h2, h3, h4⟩
    · exact absurd hw (h2 e _ (by omega))
    · have l1 := h4 e _ (by omega) hw
      have l2 : mj_di Z c k a g ≤ m := mj_ds_le (mw_re e' _ m a h3)
      have l3 : m ≤ mj_di Z c k a g := l1
      rw [h2, show m = mj_di Z c k a g by omega]
  · rw [if_neg z]
    rcases hv with ⟨h1, h2⟩ | ⟨m, e', h1, h2, h3, h4⟩
    · exact h1
    · exact absurd ((mj_D_iff h).mp ⟨m, mw_re e' _ m a h3⟩) z
theorem mk_aloneA (h : mj_Ia Z) (hc : mk_CL Z M) {x : Int32} (k1 : ¬ vp_in x (mj_np Z) → K 1 0 M) (k0 : ∀ p, p < mj_np Z → x = nI p → K 0 (mj_dv Z (Z 24 p) (Z 40 p) (Z 22 p).toNatClampNeg (Z 23 p).toNatClampNeg) M) : mj_Cm 82 16 [.ref 0, .int x] M K := by
  refine e82 (mk_88 h hc (fun c => t82_5 ⟨mj_vmono c (mj_S_P h.1.1.s).1, ?_⟩) k1)
  obtain ⟨⟨Y, hv, hw⟩, hf⟩ := hc
  obtain ⟨e, hp⟩ := mj_vin c
  have k := k0 _ hp e
  have hR := mj_S_R h.1.1.s
  generalize x.toNatClampNeg = p at e hp k ⊢
  obtain ⟨a1, a2⟩ := mj_vin (h.1.1.a p hp).2.1
  obtain ⟨g1, g2⟩ := mj_vin (h.1.1.s.2.2.2.1 p hp).1
  have r25 : M 25 p = Z 24 p + 2 * Z 40 p := mk_at hv 24 p
  have r23 : M 23 p = Z 22 p := mk_at hv 22 p
  have r24 : M 24 p = Z 23 p := mk_at hv 23 p
  rw [r25, r23, r24, a1, g1]
  refine mk_90 h hv (h.1.1.s.2.2.2.1 p hp).2.1 (h.1.1.a p hp).2.2.1 rfl g2 10 0 15 (fun y => y = (Z 22 p).toNatClampNeg) (Z 22 p).toNatClampNeg _ _ rfl (by decide) a2 (fun j hj => ?_) (fun v hv2 => t82_59 ?_)
  · rw [mw_sh _ (by omega), BitVec.getLsbD_twoPow, decide_eq_true (show (Z 22 p).toNatClampNeg < 32 by omega), Bool.true_and, decide_eq_true_eq]
    exact ⟨fun z => z.symm, fun z => z.symm⟩
  · rw [mw_dv h.1.1.s.1 a2 hv2]
    exact k
end AWY
