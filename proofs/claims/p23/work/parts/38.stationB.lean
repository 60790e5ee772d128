-- THE STATION'S METHODS, B: trains
section STB
variable {Z Y : mj_M} {K : mj_K} {p t : Nat}
theorem mj_fi_in (h : mj_S Z) {r : Int32} {k : Nat} (hk : k ≤ mj_np Z) (hne : ¬ mj_fi Z r k = -1) : vp_in (mj_fi Z r k) 120 := by
  have := mj_S_P h
  rcases mj_fi_ok (Z := Z) (r := r) k (by omega) with e | ⟨p, hp, e, -⟩
  · exact absurd e hne
  · rw [e]
    exact vp_in_nI (by omega) (by decide)
theorem sp24 (h : mj_Iv Z) {r : Int32} (hK : K 0 (mj_fi Z r (mj_np Z)) (mj_cc Z Y)) : mj_Cm 24 3 [.ref 20, .int r] (mj_cc Z Y) K := by
  refine e24 ?_
  refine mj_down (P := fun k => ∀ o4, mj_W 0 24 3 4 [some (.ref 20), some (.int r), some (.int (mj_fi Z r k)), some (.int (nI k)), o4] [] (mj_cc Z Y) 0 K) (mj_np Z) ?_ ?_ none
  · intro o4
    exact t24_4 ⟨fun _ => hK, fun c => absurd (mj_pe h.s rfl) c⟩
  · intro k hk ih o4
    have hc := mj_qc h.s hk
    have hf : mj_fi Z r (k + 1) = if mj_wn Z r k ∧ (mj_fi Z r k = -1 ∨ Z 26 k < Z 26 (mj_fi Z r k).toNatClampNeg) then nI k else mj_fi Z r k := rfl
    rw [← nI_1] at ih
    have no : ¬ (mj_wn Z r k ∧ (mj_fi Z r k = -1 ∨ Z 26 k < Z 26 (mj_fi Z r k).toNatClampNeg)) → ∀ o4, mj_W 0 24 3 4 [some (.ref 20), some (.int r), some (.int (mj_fi Z r k)), some (.int (nI k + 1)), o4] [] (mj_cc Z Y) 0 K := by
      intro c o4
      rw [hf, if_neg c] at ih
      exact ih o4
    have yes : (mj_wn Z r k ∧ (mj_fi Z r k = -1 ∨ Z 26 k < Z 26 (mj_fi Z r k).toNatClampNeg)) → ∀ o4, mj_W 0 24 3 4 [some (.ref 20), some (.int r), some (.int (nI k)), some (.int (nI k + 1)), o4] [] (mj_cc Z Y) 0 K := by
      intro c o4
      rw [hf, if_pos c] at ih
      exact ih o4
    refine t24_4 ⟨fun c => (mj_ps h.s hk c).elim, fun _ => ⟨mj_b20 h.s, fun c => ?_, fun c => ⟨mj_qv h.s hk, ?_⟩⟩⟩
    · rw [mj_q20 h.s hk] at c
      exact no (fun z => c z.1.1) _
    · rw [mj_q20 h.s hk] at c
      rw [hc]
      refine ⟨fun c2 => no (fun z => z.1.2.2.2 c2) _, fun c2 => ⟨fun c3 => no (fun z => c3 z.1.2.1) _, fun c3 => ⟨fun c4 => no (fun z => c4 z.1.2.2.1) _, fun c4 => ⟨fun c5 => yes ⟨⟨c, c3, c4, c2⟩, Or.inl c5⟩ _, fun c5 => ⟨mj_fi_in h.s (by omega) c5, fun c6 => no (fun z => ?_) _, fun c6 => yes ⟨⟨c, c3, c4, c2⟩, Or.inr ?_⟩ _⟩⟩⟩⟩⟩
      · have c6' : Z 26 (mj_fi Z r k).toNatClampNeg ≤ Z 26 k := c6
        rw [mj_le] at c6'
        rcases z.2 with z | z
        · exact c5 z
        · rw [mj_lt] at z; omega
      · have c6' : ¬ Z 26 (mj_fi Z r k).toNatClampNeg ≤ Z 26 k := c6
        rw [mj_le] at c6'
        rw [mj_lt]; omega
theorem sp54n {M : mj_M} {x : Int32} (hK : K 0 0 M) : mj_Cm 54 2 [.ref 0, .int (-1), .int x] M K := e54 ⟨fun _ => hK, fun c => absurd (show (-1 : Int32) < 0 by decide) c.1⟩
theorem sp54 (h : mj_Iv Z) (hp : p < mj_np Z) (ht : t < mj_nt Z) (hr : Z 22 p = Z 29 t) (hK : K 0 0 (mj_cc (mj_b0 t p Z) Y)) : mj_Cm 54 2 [.ref 0, .int (nI p), .int (nI t)] (mj_cc Z Y) K := by
  have hc := mj_qc h.s hp
  have hT := mj_S_T h.s
  have ct : (nI t).toNatClampNeg = t := nI_clamp (by omega)
  refine e54 ⟨fun c => absurd (mj_q18 h.s hp) c, fun _ => ⟨mj_qv h.s hp, ?_⟩⟩
  rw [hc, ct]
  refine ⟨fun c => absurd (mj_q0 h.s (h.a p hp).2.1) c, fun _ => ⟨fun c => absurd (mj_q27 h.s ht) c, fun _ => ⟨mj_r10 h.s (h.a p hp).2.1, vp_in_nI (by omega) (by decide), ?_⟩⟩⟩
  rw [mj_cc_w rfl, mj_cc_w rfl, mj_cc_w rfl]
  have e : mj_cc Z Y 22 p = Z 29 t := hr
  rw [e]
  exact hK
theorem mj_b1_t (Z : mj_M) (t : Nat) : (¬ mj_first Z t = -1 → Z 33 t < Z 30 t → mj_b1 t Z 33 t = Z 33 t + 1) ∧ (mj_first Z t = -1 → mj_b1 t Z = Z) ∧ (¬ Z 33 t < Z 30 t → mj_b1 t Z = Z) := by
  unfold mj_b1
  refine ⟨fun c1 c2 => ?_, fun c => if_neg (fun z => z.2 c), fun c => if_neg (fun z => c z.1)⟩
  rw [if_pos ⟨c2, c1⟩]
  unfold mj_b0
  rw [mj_u_at, if_pos ⟨rfl, rfl⟩]
theorem mj_bs_k (h : mj_J Z) (ht : t < mj_nt Z) (n : Nat) : mj_J (mj_lo (fun _ => mj_b1 t) n Z) ∧ mj_pr mj_s1 (mj_lo (fun _ => mj_b1 t) n Z) = mj_pr mj_s1 Z :=
  ⟨mj_lo_Iv (fun _ => mj_b1_pr t) (P := fun _ Y => mj_J Y) h n (fun k hk Y hY hP => mj_b1_J hP (by rw [(mj_n_pr hY).2.2.2]; exact ht)), mj_lo_pr (fun _ => mj_b1_pr t) n Z⟩
theorem mj_1I : (1 : Int32).toInt = 1 := by decide
/-- while there are places: one more aboard each time, or nobody is left -/
theorem mj_bs_m (h : mj_J Z) (ht : t < mj_nt Z) {m : Nat} (hm : (Z 33 t).toInt + m ≤ (Z 30 t).toInt) : ∀ i, i ≤ m → (mj_lo (fun _ => mj_b1 t) i Z 33 t).toInt = (Z 33 t).toInt + i ∨ mj_first (mj_lo (fun _ => mj_b1 t) i Z) t = -1
  | 0, _ => Or.inl (by show (Z 33 t).toInt = _; omega)
  | i + 1, hi => by
    have ih := mj_bs_m h ht hm i (by omega)
    obtain ⟨h1, h2⟩ := mj_bs_k h ht i
    have e30 := mj_pr_at h2 (show mj_s1 30 = true from rfl)
    have b30 := (h.1.s.2.2.2.2.2.2.1 t ht).2
    have b33 := h.1.d t ht
    show (mj_b1 t (mj_lo (fun _ => mj_b1 t) i Z) 33 t).toInt = _ ∨ mj_first (mj_b1 t (mj_lo (fun _ => mj_b1 t) i Z)) t = -1
    generalize mj_lo (fun _ => mj_b1 t) i Z = X at ih h1 h2 e30 ⊢
    obtain ⟨t1, t2, t3⟩ := mj_b1_t X t
    by_cases c : mj_first X t = -1
    · rw [t2 c]
      exact Or.inr c
    · rcases ih with ih | ih
      · rw [t1 c (by rw [mj_lt, e30]; omega), fb_addI (by rw [mj_1I]; omega) (by rw [mj_1I]; omega), mj_1I]
        exact Or.inl (by omega)
      · exact absurd ih c
theorem mj_bs_4 (h : mj_J Z) (ht : t < mj_nt Z) {m : Nat} (hm : (Z 33 t).toInt + m ≤ (Z 30 t).toInt) (h4 : m = 4 ∨ (m < 4 ∧ (Z 33 t).toInt + m = (Z 30 t).toInt)) : mj_lo (fun _ => mj_b1 t) 4 Z = mj_lo (fun _ => mj_b1 t) m Z := by
  rcases h4 with rfl | ⟨h4, h5⟩
  · rfl
  · have key : ∀ j, mj_lo (fun _ => mj_b1 t) (m + j) Z = mj_lo (fun _ => mj_b1 t) m Z := by
      intro j
      induction j with
      | zero => rfl
      | succ j ih =>
        show mj_b1 t (mj_lo (fun _ => mj_b1 t) (m + j) Z) = _
        rw [ih]
        obtain ⟨t1, t2, t3⟩ := mj_b1_t (mj_lo (fun _ => mj_b1 t) m Z) t
        obtain ⟨k1, k2⟩ := mj_bs_k h ht m
        rcases mj_bs_m h ht hm m (Nat.le_refl _) with e | e
        · refine t3 ?_
          rw [mj_lt, e, mj_pr_at k2 (show mj_s1 30 = true from rfl)]
          omega
        · exact t2 e
    have := key (4 - m)
    rw [show m + (4 - m) = 4 by omega] at this
    exact this
theorem sp53 (h : mj_J Z) (ht : t < mj_nt Z) (hK : K 0 0 (mj_cc (mj_sv t Z) Y)) : mj_Cm 53 4 [.ref 0, .int (nI t)] (mj_cc Z Y) K := by
  have hT := mj_S_T h.1.s
  have ct : (nI t).toNatClampNeg = t := nI_clamp (by omega)
  have vt : vp_in (nI t) 12 := vp_in_nI (by omega) (by decide)
  obtain ⟨b29, b30, b30'⟩ := h.1.s.2.2.2.2.2.2.1 t ht
  have b33 := h.1.d t ht
  unfold mj_sv at hK
  refine e53 ⟨mj_b28 h.1.s, fun c => ⟨vt, ?_⟩, fun c => ?_⟩
  · have c1 : 0 < Z 31 t := by
      have := c.2
      rw [ct] at this
      have this' : ¬ Z 31 t ≤ 0 := this
      rw [mj_le] at this'
      rw [mj_lt]; omega
    rw [if_pos c1] at hK
    rw [ct]
    show mj_W 0 53 4 49 [some (.ref 0), some (.int (nI t)), some (.int (Z 29 t)), some (.int (if Z 30 t - Z 33 t < 4 then Z 30 t - Z 33 t else 4)), some (.int 0)] [] (mj_cc Z Y) 0 K
    have hsub : (Z 30 t - Z 33 t).toInt = (Z 30 t).toInt - (Z 33 t).toInt := fb_subI (by omega) (by omega)
    have i4 : (4 : Int32).toInt = 4 := by decide
    obtain ⟨m, hm, hm4, hmI⟩ : ∃ m : Nat, (Z 33 t).toInt + m ≤ (Z 30 t).toInt ∧ (m = 4 ∨ (m < 4 ∧ (Z 33 t).toInt + m = (Z 30 t).toInt)) ∧ (if Z 30 t - Z 33 t < 4 then Z 30 t - Z 33 t else 4) = nI m := by
      by_cases z : Z 30 t - Z 33 t < 4
      · rw [if_pos z]
        rw [mj_lt, hsub, i4] at z
        refine ⟨((Z 30 t).toInt - (Z 33 t).toInt).toNat, by omega, Or.inr (by omega), ?_⟩
        rw [mj_eq, hsub, nI_toInt (by omega)]
        omega
      · rw [if_neg z]
        rw [mj_lt, hsub, i4] at z
        exact ⟨4, by omega, Or.inl rfl, rfl⟩
    rw [hmI]
    rw [mj_bs_4 h ht hm hm4] at hK
    refine mj_down (P := fun k => mj_W 0 53 4 49 [some (.ref 0), some (.int (nI t)), some (.int (Z 29 t)), some (.int (nI m)), some (.int (nI k))] [] (mj_cc (mj_lo (fun _ => mj_b1 t) k Z) Y) 0 K) m ?_ ?_
    · obtain ⟨k1, k2⟩ := mj_bs_k h ht m
      have e29 := mj_pr_at k2 (show mj_s1 29 = true from rfl)
      generalize mj_lo (fun _ => mj_b1 t) m Z = X at k1 k2 hK e29 ⊢
      have tX : t < mj_nt X := by rw [(mj_n_pr k2).2.2.2]; exact ht
      refine t53_49 ⟨fun _ => ⟨vt, ?_⟩, fun c => absurd (nI_le (Nat.le_refl m) (by omega)) c⟩
      rw [ct, mj_cc_w rfl]
      refine ⟨fun c2 => ?_, fun c2 => ?_⟩
      · have e : mj_b2 t (mj_b3 t X) = mj_b3 t X := by
          have c2' : X 30 t ≤ X 33 t := c2
          unfold mj_b2
          refine if_neg (fun z => ?_)
          have : X 33 t < X 30 t := z.2.1
          rw [mj_lt] at this
          rw [mj_le] at c2'
          omega
        rw [e] at hK
        exact ⟨fun _ => hK, fun _ => hK⟩
      · have c2' : ¬ X 30 t ≤ X 33 t := c2
        rw [mj_le] at c2'
        show mj_Cm 24 3 [.ref 20, .int (Z 29 t)] (mj_cc (mj_b3 t X) Y) _
        have i3 := (mj_b3_J k1 tX).1
        refine sp24 i3 ?_
        have hfi : mj_fi (mj_b3 t X) (Z 29 t) (mj_np (mj_b3 t X)) = mj_first (mj_b3 t X) t := by
          rw [← e29]; rfl
        rw [hfi]
        refine t53_116 ⟨fun c3 => ⟨vt, ?_⟩, fun c3 => ⟨vt, ?_⟩⟩
        · have e : mj_b2 t (mj_b3 t X) = mj_b3 t X := by
            unfold mj_b2
            exact if_neg (fun z => z.2.2.1 c3)
          rw [e] at hK
          exact ⟨fun _ => hK, fun _ => hK⟩
        · rw [ct]
          unfold mj_b2 at hK
          refine ⟨fun c4 => ?_, fun c4 => ⟨fun c5 => ?_, fun c5 => ?_⟩⟩
          · rw [if_neg (fun z => c4 z.1)] at hK
            exact hK
          · have c5' : 3 ≤ mj_b3 t X 32 t := c5
            rw [mj_le] at c5'
            rw [if_neg (fun z => by have := z.2.2.2; rw [mj_lt] at this; omega)] at hK
            exact hK
          · have c5' : ¬ 3 ≤ mj_b3 t X 32 t := c5
            rw [mj_le] at c5'
            rw [if_pos ⟨c4, by rw [mj_lt]; show (X 33 t).toInt < (X 30 t).toInt; omega, c3, by rw [mj_lt]; omega⟩] at hK
            rw [mj_cc_w rfl, mj_cc_w rfl]
            exact hK
    · intro k hk ih
      obtain ⟨k1, k2⟩ := mj_bs_k h ht k
      have e29 := mj_pr_at k2 (show mj_s1 29 = true from rfl)
      have e30 := mj_pr_at k2 (show mj_s1 30 = true from rfl)
      have bm := mj_bs_m h ht hm k (by omega)
      have ih' : mj_W 0 53 4 49 [some (.ref 0), some (.int (nI t)), some (.int (Z 29 t)), some (.int (nI m)), some (.int (nI (k + 1)))] [] (mj_cc (mj_b1 t (mj_lo (fun _ => mj_b1 t) k Z)) Y) 0 K := ih
      generalize mj_lo (fun _ => mj_b1 t) k Z = X at k1 k2 e29 e30 bm ih' ⊢
      have tX : t < mj_nt X := by rw [(mj_n_pr k2).2.2.2]; exact ht
      rw [← nI_1] at ih'
      refine t53_49 ⟨fun c => absurd c (nI_ge hk (by omega)), fun _ => ?_⟩
      refine sp24 k1.1 ?_
      have hfi : mj_fi X (Z 29 t) (mj_np X) = mj_first X t := by
        rw [← e29]
      rw [hfi]
      refine t53_64 ?_
      obtain ⟨t1, t2, t3⟩ := mj_b1_t X t
      by_cases c : mj_first X t = -1
      · rw [t2 c] at ih'
        rw [c]
        exact sp54n (t53_68 ih')
      · have c33 : X 33 t < X 30 t := by
          rw [mj_lt, e30]
          rcases bm with bm | bm
          · omega
          · exact absurd bm c
        obtain ⟨p, hp, q1, q2, w1, w2, -⟩ := mj_first_ok k1.1.s t c
        rw [q1]
        refine sp54 k1.1 hp tX w2 ?_
        refine t53_68 ?_
        have e : mj_b1 t X = mj_b0 t p X := by
          unfold mj_b1
          rw [if_pos ⟨c33, c⟩, q2]
        rw [e] at ih'
        exact ih'
  · have c1 : ¬ 0 < Z 31 t := by
      intro z
      refine c ⟨mj_q27 h.1.s ht, ?_⟩
      rw [ct]
      show ¬ Z 31 t ≤ 0
      rw [mj_lt] at z
      rw [mj_le]; omega
    rw [if_neg c1] at hK
    exact hK
end STB
