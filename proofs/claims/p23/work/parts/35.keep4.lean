-- a second keeps what holds
section KEEP4
variable {Z Z3 : mj_M} {l p : Nat}
theorem mj_kn_l (Z : mj_M) : ∀ k, (∀ c, c ≠ 40 → mj_lo mj_kn k Z c = Z c) ∧ ∀ p, mj_lo mj_kn k Z 40 p = if p < k ∧ mj_cld Z (mj_nl1 Z p) then 1 else Z 40 p
  | 0 => ⟨fun _ _ => rfl, fun p => by rw [if_neg (by omega)]; rfl⟩
  | k + 1 => by
    obtain ⟨h1, h2⟩ := mj_kn_l Z k
    have hpr : mj_pr mj_s1 (mj_lo mj_kn k Z) = mj_pr mj_s1 Z := mj_lo_pr mj_kn_pr k Z
    show (∀ c, c ≠ 40 → mj_kn k (mj_lo mj_kn k Z) c = Z c) ∧ ∀ p, mj_kn k (mj_lo mj_kn k Z) 40 p = _
    generalize mj_lo mj_kn k Z = Y at h1 h2 hpr ⊢
    have e1 : mj_nl1 Y k = mj_nl1 Z k := by
      unfold mj_nl1
      rw [h1 21 (by decide), h1 22 (by decide), h1 23 (by decide), h1 24 (by decide), h2 k, if_neg (show ¬ (k < k ∧ _) from fun z => absurd z.1 (Nat.lt_irrefl _)), mj_nx_pr (mj_s12 hpr)]
    have e2 : mj_cld Y (mj_nl1 Y k) ↔ mj_cld Z (mj_nl1 Z k) := by
      rw [e1]
      unfold mj_cld
      rw [h1 16 (by decide)]
    unfold mj_kn
    by_cases c : mj_cld Z (mj_nl1 Z k)
    · rw [if_pos (e2.mpr c)]
      refine ⟨fun c' hc => by rw [mj_u_ne _ _ _ hc]; exact h1 c' hc, fun p => ?_⟩
      rw [mj_u_at]
      by_cases e : p = k
      · subst e
        rw [if_pos ⟨rfl, rfl⟩, if_pos ⟨by omega, c⟩]
      · rw [if_neg (fun z => e z.2), h2]
        by_cases f : p < k ∧ mj_cld Z (mj_nl1 Z p)
        · rw [if_pos f, if_pos ⟨by omega, f.2⟩]
        · rw [if_neg f, if_neg (fun z => f ⟨by omega, z.2⟩)]
    · rw [if_neg (fun z => c (e2.mp z))]
      refine ⟨h1, fun p => ?_⟩
      rw [h2]
      by_cases f : p < k ∧ mj_cld Z (mj_nl1 Z p)
      · rw [if_pos f, if_pos ⟨by omega, f.2⟩]
      · rw [if_neg f, if_neg (fun z => f ⟨by
          by_cases e : p = k
          · subst e; exact absurd z.2 c
          · omega, z.2⟩)]
theorem mj_kno_at (Z : mj_M) : (∀ c, c ≠ 40 → mj_kno Z c = Z c) ∧ ∀ p, mj_kno Z 40 p = if p < mj_np Z ∧ mj_cld Z (mj_nl1 Z p) then 1 else Z 40 p := mj_kn_l Z (mj_np Z)
/-- a link that leads on leads to another room -/
theorem mj_beh_ok (h : mj_In Z) (hl : l < mj_nl Z) {a : Int32} {c k : Int32} (hne : ¬ mj_rb Z c k l a = -1) : ∃ b, b < mj_nr Z ∧ mj_rb Z c k l a = nI b ∧ mj_beh Z l a = nI b ∧ ¬ nI b = a ∧ mj_opn Z k l ∧ vp_in a (mj_nr Z) := by
  rcases mj_rb_in h hl a (c := c) (k := k) with q | ⟨q1, q2⟩
  · exact absurd q hne
  · obtain ⟨e1, e2⟩ := mj_vin q1
    have hx : mj_rb Z c k l a = mj_beh Z l a ∧ mj_opn Z k l := by
      by_cases z : mj_opn Z k l ∧ mj_car Z c l
      · exact ⟨by unfold mj_rb; rw [if_pos z], z.1⟩
      · exact absurd (by unfold mj_rb; rw [if_neg z]) hne
    obtain ⟨hx, ho⟩ := hx
    refine ⟨_, e2, e1, by rw [← hx]; exact e1, fun z => ?_, ho, q2⟩
    obtain ⟨-, -, n1, -⟩ := h.2.2 l hl
    rw [← e1, hx] at z
    rw [hx] at hne
    unfold mj_beh at z hne
    by_cases c1 : a = Z 10 l ∧ mj_fwd Z l
    · rw [if_pos c1] at z
      exact n1 (by rw [z, c1.1])
    · rw [if_neg c1] at z hne
      by_cases c2 : a = Z 11 l ∧ mj_bwd Z l
      · rw [if_pos c2] at z
        exact n1 (by rw [z, c2.1])
      · rw [if_neg c2] at hne
        exact hne rfl
theorem mj_nv_ok (h : mj_Iv Z) (hp : p < mj_np Z) (hl : l < mj_nl Z) (e : mj_nv Z p = nI l) : Z 21 p = 0 ∧ Z 16 l = 0 ∧ mj_kno Z 40 p = Z 40 p ∧ ∃ b, b < mj_nr Z ∧ mj_rb Z (Z 24 p) (Z 40 p) l (Z 22 p) = nI b ∧ mj_beh Z l (Z 22 p) = nI b ∧ ¬ nI b = Z 22 p := by
  have hL := mj_S_L h.s
  have hm : ¬ nI l = -1 := mj_nI_m1 (by omega)
  unfold mj_nv at e
  by_cases c : mj_cld Z (mj_nl1 Z p)
  · rw [if_pos c] at e
    exact absurd e.symm hm
  · rw [if_neg c] at e
    have hc : Z 16 l = 0 := by
      by_cases z : Z 16 l = 0
      · exact z
      · refine absurd ⟨by rw [e]; exact hm, ?_⟩ c
        rw [e, nI_clamp (by omega)]
        exact z
    have hs : Z 21 p = 0 := by
      by_cases z : Z 21 p = 0
      · exact z
      · unfold mj_nl1 at e
        rw [if_neg z] at e
        exact absurd e.symm hm
    refine ⟨hs, hc, ?_, ?_⟩
    · rw [(mj_kno_at Z).2, if_neg (fun z => c z.2)]
    · unfold mj_nl1 at e
      rw [if_pos hs] at e
      obtain ⟨l', e1, e2, e3, -⟩ := mj_nx_some h.s.1 (show ¬ _ = -1 from by rw [e]; exact hm)
      rw [e] at e2
      have : l = l' := (nI_eq (by omega) (by omega)).mp e2
      subst this
      have e4 := e3.1
      rw [← (mj_vin (h.a p hp).2.1).1] at e4
      obtain ⟨b, b1, b2, b3, b4, -⟩ := mj_beh_ok h.s.1 hl e4
      exact ⟨b, b1, b2, b3, b4⟩
theorem mj_beh_pr {Z' : mj_M} (h : mj_pr mj_s1 Z' = mj_pr mj_s1 Z) (l : Nat) (a : Int32) : mj_beh Z' l a = mj_beh Z l a := by
  have h1 : mj_beh (mj_pr mj_s1 Z') l a = mj_beh Z l a := by rw [h]; rfl
  exact h1
/-- who still waits has not moved since Z3 -/
def mj_Vw (Z3 Z : mj_M) : Prop := mj_pr mj_s1 Z = mj_pr mj_s1 Z3 ∧ Z 40 = mj_kno Z3 40 ∧ ∀ p, p < mj_np Z3 → Z 21 p = 0 → Z3 21 p = 0 ∧ Z 22 p = Z3 22 p
/-- how many begin together -/
theorem mj_sz_ms {v : Nat → Int32} (hw : Z 21 p = 0) (hp : p < mj_np Z) (h0 : ¬ mj_sz Z v l p = 0) : mj_cb (fun q => decide (mj_ms Z p q)) (mj_np Z) = mj_sz Z v l p ∧ ∀ q, q < mj_np Z → mj_ms Z p q → Z 21 q = 0 ∧ Z 22 q = Z 22 p := by
  unfold mj_sz at h0 ⊢
  by_cases g : Z 25 p = -1
  · rw [if_pos g]
    refine ⟨?_, fun q hq hm => ?_⟩
    · rw [← mj_cb_1 (mj_np Z) hp]
      refine mj_cb_c _ (fun j hj => ?_)
      congr 1
      exact propext ⟨fun z => z.elim (fun y => y.2) (fun y => absurd g y.1), fun z => Or.inl ⟨g, z⟩⟩
    · rcases hm with hm | hm
      · obtain ⟨-, rfl⟩ := hm
        exact ⟨hw, rfl⟩
      · exact absurd g hm.1
  · rw [if_neg g] at h0 ⊢
    by_cases c : mj_cb (fun q => decide (mj_mb Z p q ∧ ¬ mj_rd Z v l p q)) (mj_np Z) = 0
    · rw [if_pos c] at h0 ⊢
      have hr : ∀ q, q < mj_np Z → mj_mb Z p q → mj_rd Z v l p q := by
        intro q hq hm
        have := of_decide_eq_false (mj_cb_pos _ c q hq)
        by_cases z : mj_rd Z v l p q
        · exact z
        · exact absurd ⟨hm, z⟩ this
      refine ⟨mj_cb_c _ (fun q hq => ?_), fun q hq hm => ?_⟩
      · congr 1
        refine propext ⟨fun z => ?_, fun z => ?_⟩
        · rcases z with z | z
          · exact absurd z.1 g
          · exact ⟨z.2.1, Or.inl z.2.2⟩
        · exact Or.inr ⟨g, z.1, (hr q hq z).1⟩
      · rcases hm with hm | hm
        · exact absurd hm.1 g
        · have := hr q hq ⟨hm.2.1, Or.inl hm.2.2⟩
          exact ⟨hm.2.2, this.2.2⟩
    · rw [if_neg c] at h0
      exact absurd rfl h0
theorem mj_Vw_beh (h3 : mj_Iv Z3) (h : mj_Iv Z) (hV : mj_Vw Z3 Z) (hl : l < mj_nl Z) (hp : p < mj_np Z) (hv : mj_nv Z3 p = nI l) (hw : Z 21 p = 0) : ∃ a b, a < mj_nr Z ∧ b < mj_nr Z ∧ a ≠ b ∧ Z 22 p = nI a ∧ mj_beh Z l (Z 22 p) = nI b ∧ mj_rb Z (Z 24 p) (Z 40 p) l (Z 22 p) = nI b := by
  obtain ⟨hpr, h40, hV⟩ := hV
  obtain ⟨e1, e2, e3, e4⟩ := mj_n_pr hpr
  rw [e1] at hp
  rw [e3] at hl
  obtain ⟨w1, w2⟩ := hV p hp hw
  obtain ⟨n1, n2, n3, b, b1, b2, b3, b4⟩ := mj_nv_ok h3 hp hl hv
  obtain ⟨a1, a2⟩ := mj_vin (h3.a p hp).2.1
  have hR := mj_S_R h3.s
  refine ⟨(Z3 22 p).toNatClampNeg, b, by omega, by omega, fun z => b4 (by rw [← z, ← a1]), by rw [w2]; exact a1, by rw [mj_beh_pr hpr, w2, b3], ?_⟩
  have h5 : mj_rb (mj_pr mj_s1 Z) (Z 24 p) (Z 40 p) l (Z 22 p) = nI b := by
    rw [hpr, w2, h40, n3, mj_pr_at hpr (show mj_s1 24 = true from rfl)]
    exact b2
  exact h5
theorem mj_be1_ok {d : Nat} (h3 : mj_Iv Z3) (h : mj_J Z) (hV : mj_Vw Z3 Z) (hl : l < mj_nl Z) (hp : p < mj_np Z) (hv : mj_nv Z3 p = nI l) : mj_J (mj_be1 (mj_nv Z3) l p (Z, d)).1 ∧ mj_Vw Z3 (mj_be1 (mj_nv Z3) l p (Z, d)).1 := by
  unfold mj_be1
  by_cases c : Z 21 p = 0 ∧ ¬ mj_sz Z (mj_nv Z3) l p = 0 ∧ mj_hp Z l (mj_sz Z (mj_nv Z3) l p) d p
  · rw [if_pos c]
    obtain ⟨c1, c2, c3⟩ := c
    obtain ⟨a, b, ha, hb, hab, e1, e2, e3⟩ := mj_Vw_beh h3 h.1 hV hl hp hv c1
    have hR := mj_S_R h.1.s
    obtain ⟨m1, m2⟩ := mj_sz_ms c1 hp c2
    have hpr := mj_bk_pr l (Z 22 p) (mj_beh Z l (Z 22 p)) (fun q => decide (mj_ms Z p q)) Z
    refine ⟨?_, ⟨hpr.trans hV.1, ?_, fun q hq hs => ?_⟩⟩
    · dsimp only
      rw [e2, e1]
      refine mj_bk_J h hl ha hb hab (fun q hq hs => ?_) ?_
      · obtain ⟨x1, x2⟩ := m2 q hq (of_decide_eq_true hs)
        exact ⟨by rw [x2, e1], x1⟩
      · rw [m1]
        have := c3.2
        rw [e2, nI_clamp (by omega)] at this
        exact this
    · show mj_bk l (Z 22 p) (mj_beh Z l (Z 22 p)) (fun q => decide (mj_ms Z p q)) Z 40 = _
      rw [mj_bk_o (by decide)]
      exact hV.2.1
    · dsimp only at hs ⊢
      rw [mj_bk_21] at hs
      rw [mj_bk_22]
      by_cases z : q < mj_np Z ∧ decide (mj_ms Z p q) = true
      · rw [if_pos z] at hs
        exact absurd hs (by decide)
      · rw [if_neg z] at hs ⊢
        exact hV.2.2 q hq hs
  · rw [if_neg c]
    exact ⟨h, hV⟩
theorem mj_be_ok (h3 : mj_Iv Z3) (hl : l < mj_nl Z3) {q : Nat → Int32} : ∀ (n : Nat) (Z : mj_M), (∀ i, i < n → ∃ p, p < mj_np Z3 ∧ q i = nI p ∧ mj_nv Z3 p = nI l) → mj_J Z → mj_Vw Z3 Z → mj_J (mj_be (mj_nv Z3) l q n Z).1 ∧ mj_Vw Z3 (mj_be (mj_nv Z3) l q n Z).1
  | 0, Z, _, h, hV => ⟨h, hV⟩
  | n + 1, Z, hq, h, hV => by
    obtain ⟨i1, i2⟩ := mj_be_ok h3 hl n Z (fun i hi => hq i (by omega)) h hV
    obtain ⟨p, hp, e, hv⟩ := hq n (by omega)
    have hP := mj_S_P h3.s
    show mj_J (mj_be1 (mj_nv Z3) l (q n).toNatClampNeg (mj_be (mj_nv Z3) l q n Z)).1 ∧ mj_Vw Z3 (mj_be1 (mj_nv Z3) l (q n).toNatClampNeg (mj_be (mj_nv Z3) l q n Z)).1
    rw [e, nI_clamp (by omega)]
    obtain ⟨e1, -, e3, -⟩ := mj_n_pr i2.1
    exact mj_be1_ok (d := (mj_be (mj_nv Z3) l q n Z).2) h3 i1 i2 (by omega) (by omega) hv
theorem mj_lk_ok (h3 : mj_Iv Z3) (hl : l < mj_nl Z3) (h : mj_J Z) (hV : mj_Vw Z3 Z) : mj_J (mj_lk (mj_nv Z3) l Z) ∧ mj_Vw Z3 (mj_lk (mj_nv Z3) l Z) := by
  unfold mj_lk
  by_cases c : Z 16 l = 0
  · rw [if_pos c]
    refine mj_be_ok h3 hl _ _ (fun i hi => ?_) h hV
    obtain ⟨-, h2⟩ := mj_ln_ok (Z := Z) (v := mj_nv Z3) (l := l) (q := fun _ => 0) (mj_np Z)
    obtain ⟨p, hp, e1, e2⟩ := h2 i hi
    rw [(mj_n_pr hV.1).1] at hp
    exact ⟨p, hp, e1, e2⟩
  · rw [if_neg c]
    exact ⟨h, hV⟩
theorem mj_Vw_0 (Z3 : mj_M) : mj_Vw Z3 (mj_kno Z3) := by
  refine ⟨mj_lo_pr mj_kn_pr _ _, rfl, fun p _ hs => ?_⟩
  rw [(mj_kno_at Z3).1 21 (by decide)] at hs
  exact ⟨hs, by rw [(mj_kno_at Z3).1 22 (by decide)]⟩
theorem mj_lks_ok (h : mj_J Z3) : ∀ n, n ≤ mj_nl Z3 → mj_J (mj_lo (mj_lk (mj_nv Z3)) n (mj_kno Z3)) ∧ mj_Vw Z3 (mj_lo (mj_lk (mj_nv Z3)) n (mj_kno Z3))
  | 0, _ => ⟨(mj_kno_J h).1, mj_Vw_0 Z3⟩
  | n + 1, hn => by
    obtain ⟨i1, i2⟩ := mj_lks_ok h n (by omega)
    exact mj_lk_ok h.1 (by omega) i1 i2
/-- what stands before the links of a second -/
def mj_sec3 (Z : mj_M) : mj_M := mj_srv (mj_arr (mj_tick Z))
theorem mj_tick_ok (h : mj_J Z) (hb : (Z 0 5).toInt < 1000000) : mj_Iv (mj_tick Z) ∧ mj_Zb (mj_tick Z) ∧ mj_Oa 0 (mj_tick Z) ∧ mj_pr mj_s1 (mj_tick Z) = mj_pr mj_s1 Z ∧ (mj_tick Z 0 5).toInt = (Z 0 5).toInt + 1 := by
  obtain ⟨h, hz, ho⟩ := h
  have he := h.e
  unfold mj_De at he
  have hpr : mj_pr mj_s1 (mj_tick Z) = mj_pr mj_s1 Z := mj_pr_u rfl
  have e : (mj_tick Z 0 5).toInt = (Z 0 5).toInt + 1 := by
    unfold mj_tick
    rw [mj_u_at, if_pos ⟨rfl, rfl⟩, fb_addI (by rw [show (1 : Int32).toInt = 1 from rfl]; omega) (by rw [show (1 : Int32).toInt = 1 from rfl]; omega), show (1 : Int32).toInt = 1 from rfl]
  refine ⟨⟨mj_S_pr hpr h.s, fun p hp => ?_, h.b, h.c, h.d, ?_⟩, mj_Zb_u hz (by decide) (fun z => absurd z (by decide)), fun p hp hs => ?_, hpr, e⟩
  · have := h.a p hp
    refine ⟨this.1, this.2.1, this.2.2.1, this.2.2.2.1, ?_⟩
    rw [e]
    show (Z 26 p).toInt ≤ _
    omega
  · unfold mj_De
    rw [e]
    omega
  · have := ho p hp hs
    rw [e]
    show (Z 0 5).toInt + 1 ≤ (Z 26 p).toInt ∧ _
    exact ⟨by omega, fun z => by omega⟩
theorem mj_sec3_ok (h : mj_J Z) (hb : (Z 0 5).toInt < 1000000) : mj_J (mj_sec3 Z) ∧ mj_pr mj_s1 (mj_sec3 Z) = mj_pr mj_s1 Z := by
  obtain ⟨t1, t2, t3, t4, t5⟩ := mj_tick_ok h hb
  obtain ⟨a1, a2, a3, a4, a5⟩ := mj_arr_ok t1 t2 t3
  obtain ⟨s1, s2⟩ := mj_srv_J (Z := mj_arr (mj_tick Z)) ⟨a1, a2, a3⟩
  exact ⟨s1, s2.trans (a4.trans t4)⟩
end KEEP4
