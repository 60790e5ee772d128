-- THE LAW'S METHODS, I: a second
section LWI
variable {Z Z' X : mj_M} {K : mj_K} {p l r t a b i : Nat}
theorem mz_oA4 (h : ∀ c, c ≠ 4 → Z' c = Z c) : ∀ c, c ≠ 4 → mj_oA p Z' c = mj_oA p Z c := by
  intro c hc
  unfold mj_oA
  rw [h 21 (by decide), h 22 (by decide), h 23 (by decide), h 2 (by decide), h 6 (by decide)]
  split
  · funext q
    rw [mj_u_at, mj_u_at, mj_u_at, mj_u_at, h c hc]
  · exact h c hc
/-- one arrives -/
theorem mz_arr1 (c2 : Z 26 p = Z 0 5) : mz (mj_oA p (mz_cm p Z)) X = mz (mj_oA p (mj_a0 p Z)) X := by
  refine mz_eq4 (mz_oA4 (fun c hc => ?_))
  unfold mz_cm mj_a0
  have e : mj_u (mj_u Z 21 p 0) 26 p (Z 0 5) = mj_u Z 21 p 0 := by
    rw [← c2]
    exact mz_uid (Z := mj_u Z 21 p 0)
  rw [e]
  funext q
  by_cases q5 : c = 5 ∧ q = (Z 22 p).toNatClampNeg
  · rw [mj_u_at, if_pos q5, mj_u_at, if_pos q5]
  · rw [mj_u_at, if_neg q5]
    symm
    rw [mj_u_at, if_neg q5, mj_u_ne _ _ _ hc]
theorem mz_psA (h : mj_Iv Z) (hz : mj_Zb Z) (ho : mj_Oa 0 Z) (hB : mz_B Z) {o6 o7 o8 : Option Value} (hK : mj_W 1 102 4 68 [some (.ref 0), some (.ref 1), some (.ref 2), some (.ref 3), some (.ref 4), some (.int (nI 0)), o6, o7, o8] [] (mz (mj_arr Z) X) 0 K) : mj_W 1 102 4 11 [some (.ref 0), some (.ref 1), some (.ref 2), some (.ref 3), some (.ref 4), some (.int (nI 0)), o6, o7, o8] [] (mz Z X) 0 K := by
  refine mj_down (P := fun k => mj_W 1 102 4 11 [some (.ref 0), some (.ref 1), some (.ref 2), some (.ref 3), some (.ref 4), some (.int (nI k)), o6, o7, o8] [] (mz (mj_lo mj_a1 k Z) X) 0 K) (mj_np Z) ?_ ?_
  · obtain ⟨⟨k1, -, -, -⟩, k5⟩ := mj_arr_k h hz ho (mj_np Z) (Nat.le_refl _)
    exact t102_11 ⟨fun _ => hK, fun c => absurd (mj_pe k1.s (mj_n_pr k5).1.symm) c⟩
  · intro k hk ih
    obtain ⟨⟨k1, k2, k3, k4⟩, k5⟩ := mj_arr_k h hz ho k (by omega)
    have hB' := mz_B_pr k5 hB
    have ih' : mj_W 1 102 4 11 [some (.ref 0), some (.ref 1), some (.ref 2), some (.ref 3), some (.ref 4), some (.int (nI (k + 1))), o6, o7, o8] [] (mz (mj_a1 k (mj_lo mj_a1 k Z)) X) 0 K := ih
    generalize mj_lo mj_a1 k Z = A at k1 k2 k3 k4 k5 hB' ih' ⊢
    have hp : k < mj_np A := by rw [(mj_n_pr k5).1]; exact hk
    have hp8 := mz_p8 hB' hp
    rw [← nI_1] at ih'
    unfold mj_a1 at ih'
    refine t102_11 ⟨fun c => (mj_ps k1.s hp c).elim, fun _ => ?_⟩
    simp only [mz_rP0 hp8, mz_wP0 hp8, eq_true (mz_vP0 hp8), mz_rP1 hp8, mz_wP1 hp8, eq_true (mz_vP1 hp8), mz_rP2 hp8, mz_wP2 hp8, eq_true (mz_vP2 hp8), mz_rP3 hp8, mz_wP3 hp8, eq_true (mz_vP3 hp8), mz_rP4 hp8, mz_wP4 hp8, eq_true (mz_vP4 hp8), mz_rP5 hp8, mz_wP5 hp8, eq_true (mz_vP5 hp8), mz_rP6 hp8, mz_wP6 hp8, eq_true (mz_vP6 hp8), mz_rP7 hp8, mz_wP7 hp8, eq_true (mz_vP7 hp8), mz_rS0, mz_wS0, mz_rS1, mz_wS1, mz_rS2, mz_wS2, mz_rS3, mz_wS3, mz_rS4, mz_wS4, mz_rS5, mz_wS5, true_and]
    refine ⟨fun c => ?_, fun c => ⟨fun c2 => ?_, fun c2 => ?_⟩⟩
    · rw [if_neg (fun z => c z.1)] at ih'
      exact ih'
    · rw [if_neg (fun z => c2 z.2)] at ih'
      exact ih'
    · rw [if_pos ⟨c, c2⟩, ← mz_arr1 c2] at ih'
      exact sp98 k1.s hB' hp (k1.a k hp).2.1 (t102_59 ih')
theorem mz_z0 {q : Nat} (hq : 5 ≤ q) : mj_z0 (mz Z X) q = mz Z (mj_z0 X q) := by
  refine mz_ext (fun i => ?_) (fun i => ?_) (fun i => ?_) (fun i => ?_) (fun i => ?_) (fun c i => ?_)
  · unfold mj_z0; rw [if_neg (by omega)]; rfl
  · unfold mj_z0; rw [if_neg (by omega)]; rfl
  · unfold mj_z0; rw [if_neg (by omega)]; rfl
  · unfold mj_z0; rw [if_neg (by omega)]; rfl
  · unfold mj_z0
    rw [if_neg (by omega)]
    show mz_m Z X i = mz_m Z (mj_z0 X q) i
    unfold mz_m mj_z0
    rw [if_neg (show ¬ 4 = q by omega)]
  · unfold mj_z0
    by_cases e : c + 5 = q
    · rw [if_pos e, if_pos e]
    · rw [if_neg e, if_neg e]; rfl
theorem mz_psT (h : mj_J Z) (hB : mz_B Z) {o6 o7 o8 : Option Value} (hK : mj_W 3 102 4 114 [some (.ref 0), some (.ref 1), some (.ref 2), some (.ref 3), some (.ref 4), some (.ref 5), some (.int 0), mj_fo 5 o7, mj_fo 5 o8] [] (mz (mj_srv Z) (mj_z0 X 5)) 1 K) : mj_W 1 102 4 68 [some (.ref 0), some (.ref 1), some (.ref 2), some (.ref 3), some (.ref 4), some (.int (nI 0)), o6, o7, o8] [] (mz Z X) 0 K := by
  have i0 : (0 : Int32).toInt = 0 := by decide
  refine mj_down (P := fun k => mj_W 1 102 4 68 [some (.ref 0), some (.ref 1), some (.ref 2), some (.ref 3), some (.ref 4), some (.int (nI k)), o6, o7, o8] [] (mz (mj_lo mj_sv k Z) X) 0 K) (mj_nt Z) ?_ ?_
  · obtain ⟨k1, k5⟩ := mj_srv_k h (mj_nt Z) (Nat.le_refl _)
    refine t102_68 ⟨fun _ => ?_, fun c => absurd (mj_te k1.1.s (mj_n_pr k5).2.2.2.symm) c⟩
    rw [mz_z0 (Nat.le_refl 5)]
    exact hK
  · intro k hk ih
    obtain ⟨k1, k5⟩ := mj_srv_k h k (by omega)
    have hB' := mz_B_pr k5 hB
    have ih' : mj_W 1 102 4 68 [some (.ref 0), some (.ref 1), some (.ref 2), some (.ref 3), some (.ref 4), some (.int (nI (k + 1))), o6, o7, o8] [] (mz (mj_sv k (mj_lo mj_sv k Z)) X) 0 K := ih
    generalize mj_lo mj_sv k Z = A at k1 k5 hB' ih' ⊢
    have ht : k < mj_nt A := by rw [(mj_n_pr k5).2.2.2]; exact hk
    have ht3 := mz_t3 hB' ht
    rw [← nI_1] at ih'
    refine t102_68 ⟨fun c => (mj_ts k1.1.s ht c).elim, fun _ => ?_⟩
    simp only [mz_rT0 ht3, mz_wT0 ht3, eq_true (mz_vT0 ht3), mz_rT1 ht3, mz_wT1 ht3, eq_true (mz_vT1 ht3), mz_rT2 ht3, mz_wT2 ht3, eq_true (mz_vT2 ht3), mz_rT3 ht3, mz_wT3 ht3, eq_true (mz_vT3 ht3), mz_rT4 ht3, mz_wT4 ht3, eq_true (mz_vT4 ht3), mz_rT5 ht3, mz_wT5 ht3, eq_true (mz_vT5 ht3), true_and]
    refine ⟨fun c => ?_, fun c => ?_⟩
    · unfold mj_sv at ih'
      rw [if_neg (fun z => by rw [mj_lt] at z; rw [mj_le] at c; omega)] at ih'
      exact ih'
    · exact sp99 k1 hB' ht (by rw [mj_le] at c; rw [mj_lt]; omega) (t102_99 ih')
theorem mz_mgX {X' : mj_M} (h : mz_X4 X X') : mj_mg (mz Z X) 0 5 (mz Z X') = mz Z X' := by
  funext q
  unfold mj_mg
  by_cases e : 0 ≤ q ∧ q < 0 + 5
  · rw [if_pos e, Nat.sub_zero]
  · rw [if_neg e, mz_o (by omega), mz_o (by omega), h q (by omega)]
/-- what the rows may be beside the state -/
def mz_X45 (X X' : mj_M) : Prop := ∀ c, c ≠ 4 → c ≠ 5 → X' c = X c
theorem mz_psN (h : mj_J Z) (hB : mz_B Z) {o7 o8 : Option Value} (hK : ∀ X', mz_X45 X X' → (∀ i, i < mj_np Z → X' 5 i = mj_nl1 Z i) → mj_W 3 102 4 146 [some (.ref 0), some (.ref 1), some (.ref 2), some (.ref 3), some (.ref 4), some (.ref 5), some (.int (nI 0)), o7, o8] [] (mz Z X') 1 K) : mj_W 3 102 4 114 [some (.ref 0), some (.ref 1), some (.ref 2), some (.ref 3), some (.ref 4), some (.ref 5), some (.int (nI 0)), o7, o8] [] (mz Z X) 1 K := by
  refine mj_down (P := fun k => ∀ X', mz_X45 X X' → (∀ i, i < k → X' 5 i = mj_nl1 Z i) → mj_W 3 102 4 114 [some (.ref 0), some (.ref 1), some (.ref 2), some (.ref 3), some (.ref 4), some (.ref 5), some (.int (nI k)), o7, o8] [] (mz Z X') 1 K) (mj_np Z) ?_ ?_ X (fun _ _ _ => rfl) (fun i hi => absurd hi (Nat.not_lt_zero i))
  · intro X' x1 x2
    exact t102_114 ⟨fun _ => hK X' x1 x2, fun c => absurd (mj_pe h.1.s rfl) c⟩
  · intro k hk ih X' x1 x2
    have hk8 := mz_p8 hB hk
    have ck : (nI k).toNatClampNeg = k := nI_clamp (by omega)
    refine t102_114 ⟨fun c => (mj_ps h.1.s hk c).elim, fun _ => ?_⟩
    rw [mz_v0]
    refine sp94 h.1.s hB h.1.a hk (fun X2 y1 => ?_)
    show mj_W 3 102 4 136 _ _ (mj_mg (mz Z X') 0 5 (mz Z X2)) 1 K
    rw [mz_mgX y1]
    refine t102_136 ⟨vp_in_nI (by omega) (by decide), ?_⟩
    rw [ck, mz_u5 (Nat.le_refl 5), nI_1]
    refine ih _ (fun c h4 h5 => by rw [mj_u_ne _ _ _ h5, y1 c h4, x1 c h4 h5]) (fun i hi => ?_)
    rw [mj_u_at]
    by_cases e : i = k
    · rw [if_pos ⟨rfl, e⟩, e]
    · rw [if_neg (fun z => e z.2), y1 5 (by decide)]
      exact x2 i (by omega)
theorem mz_psK (h : mj_J Z) (hB : mz_B Z) {o7 o8 : Option Value} (hX : ∀ i, i < mj_np Z → X 5 i = mj_nl1 Z i) (hK : ∀ X', mz_X45 X X' → (∀ i, i < mj_np Z → X' 5 i = mj_nv Z i) → mj_W 3 102 4 204 [some (.ref 0), some (.ref 1), some (.ref 2), some (.ref 3), some (.ref 4), some (.ref 5), some (.int (nI 0)), o7, o8] [] (mz (mj_kno Z) X') 1 K) : mj_W 3 102 4 146 [some (.ref 0), some (.ref 1), some (.ref 2), some (.ref 3), some (.ref 4), some (.ref 5), some (.int (nI 0)), o7, o8] [] (mz Z X) 1 K := by
  refine mj_down (P := fun k => ∀ X', mz_X45 X X' → (∀ i, i < mj_np Z → X' 5 i = if i < k then mj_nv Z i else mj_nl1 Z i) → mj_W 3 102 4 146 [some (.ref 0), some (.ref 1), some (.ref 2), some (.ref 3), some (.ref 4), some (.ref 5), some (.int (nI k)), o7, o8] [] (mz (mj_lo mj_kn k Z) X') 1 K) (mj_np Z) ?_ ?_ X (fun _ _ _ => rfl) (fun i hi => by rw [if_neg (Nat.not_lt_zero i)]; exact hX i hi)
  · intro X' x1 x2
    obtain ⟨k1, k2⟩ := mj_kno_k h (mj_np Z) (Nat.le_refl _)
    exact t102_146 ⟨fun _ => hK X' x1 (fun i hi => by rw [x2 i hi, if_pos hi]), fun c => absurd (mj_pe k1.1.s (mj_n_pr k2).1.symm) c⟩
  · intro k hk ih X' x1 x2
    obtain ⟨k1, k2⟩ := mj_kno_k h k (by omega)
    obtain ⟨m1, m2⟩ := mj_kn_l Z k
    have hB' := mz_B_pr k2 hB
    have ih' : ∀ X', mz_X45 X X' → (∀ i, i < mj_np Z → X' 5 i = if i < k + 1 then mj_nv Z i else mj_nl1 Z i) → mj_W 3 102 4 146 [some (.ref 0), some (.ref 1), some (.ref 2), some (.ref 3), some (.ref 4), some (.ref 5), some (.int (nI (k + 1))), o7, o8] [] (mz (mj_kn k (mj_lo mj_kn k Z)) X') 1 K := ih
    generalize mj_lo mj_kn k Z = A at k1 k2 m1 m2 hB' ih' ⊢
    have hpA : k < mj_np A := by rw [(mj_n_pr k2).1]; exact hk
    have hk8 := mz_p8 hB hk
    have ck : (nI k).toNatClampNeg = k := nI_clamp (by omega)
    have hL := mj_S_L k1.1.s
    have e1 : mj_nl1 A k = mj_nl1 Z k := by
      unfold mj_nl1
      rw [m1 21 (by decide), m1 22 (by decide), m1 23 (by decide), m1 24 (by decide), m2 k, if_neg (show ¬ (k < k ∧ _) from fun z => absurd z.1 (Nat.lt_irrefl _)), mj_nx_pr (mj_s12 k2)]
    have e2 : mj_cld A (mj_nl1 A k) ↔ mj_cld Z (mj_nl1 Z k) := by
      rw [e1]
      unfold mj_cld
      rw [m1 16 (by decide)]
    have e5 : X' 5 k = mj_nl1 A k := by
      rw [x2 k hk, if_neg (Nat.lt_irrefl k), e1]
    rw [← nI_1] at ih'
    have no : ¬ mj_cld A (mj_nl1 A k) → mj_W 3 102 4 146 [some (.ref 0), some (.ref 1), some (.ref 2), some (.ref 3), some (.ref 4), some (.ref 5), some (.int (nI k + 1)), o7, o8] [] (mz A X') 1 K := by
      intro c
      have := ih' X' x1 (fun i hi => by
        rw [x2 i hi]
        by_cases e : i = k
        · subst e
          rw [if_neg (Nat.lt_irrefl i), if_pos (Nat.lt_succ_self i)]
          unfold mj_nv
          rw [if_neg (fun z => c (e2.mpr z))]
        · by_cases f : i < k
          · rw [if_pos f, if_pos (by omega)]
          · rw [if_neg f, if_neg (by omega)])
      unfold mj_kn at this
      rw [if_neg c] at this
      exact this
    refine t102_146 ⟨fun c => (mj_ps k1.1.s hpA c).elim, fun _ => ⟨vp_in_nI (by omega) (by decide), ?_⟩⟩
    rw [ck, mz_5, e5]
    rcases mj_nl1_c k1.1 hpA with w | ⟨l, w1, w2, -⟩
    · refine ⟨fun _ => no (fun z => z.1 w), fun c => absurd ?_ c⟩
      rw [w]; decide
    · have hl5 := mz_l5 hB' w1
      have b16 := (k1.1.s.2.2.2.2.2.1 l w1).1
      have hc : (nI l).toNatClampNeg = l := nI_clamp (by omega)
      have ecl : mj_cld A (mj_nl1 A k) ↔ ¬ A 16 l = 0 := by
        rw [w2]
        exact ⟨fun z => by have := z.2; rw [hc] at this; exact this, fun z => ⟨mj_nI_m1 (by omega), by rw [hc]; exact z⟩⟩
      have no' := no
      have ecl' := ecl
      rw [w2] at no ecl ⊢
      simp only [mz_rL0 hl5, mz_wL0 hl5, eq_true (mz_vL0 hl5), mz_rL1 hl5, mz_wL1 hl5, eq_true (mz_vL1 hl5), mz_rL2 hl5, mz_wL2 hl5, eq_true (mz_vL2 hl5), mz_rL3 hl5, mz_wL3 hl5, eq_true (mz_vL3 hl5), mz_rL4 hl5, mz_wL4 hl5, eq_true (mz_vL4 hl5), mz_rL5 hl5, mz_wL5 hl5, eq_true (mz_vL5 hl5), mz_rL6 hl5, mz_wL6 hl5, eq_true (mz_vL6 hl5), mz_rL7 hl5, mz_wL7 hl5, eq_true (mz_vL7 hl5), mz_rL8 hl5, mz_wL8 hl5, eq_true (mz_vL8 hl5), mz_rL9 hl5, mz_wL9 hl5, eq_true (mz_vL9 hl5), mz_rL10 hl5, mz_wL10 hl5, eq_true (mz_vL10 hl5), mz_rP0 hk8, mz_wP0 hk8, eq_true (mz_vP0 hk8), mz_rP1 hk8, mz_wP1 hk8, eq_true (mz_vP1 hk8), mz_rP2 hk8, mz_wP2 hk8, eq_true (mz_vP2 hk8), mz_rP3 hk8, mz_wP3 hk8, eq_true (mz_vP3 hk8), mz_rP4 hk8, mz_wP4 hk8, eq_true (mz_vP4 hk8), mz_rP5 hk8, mz_wP5 hk8, eq_true (mz_vP5 hk8), mz_rP6 hk8, mz_wP6 hk8, eq_true (mz_vP6 hk8), mz_rP7 hk8, mz_wP7 hk8, eq_true (mz_vP7 hk8), true_and]
      refine ⟨fun c => absurd c (nI_pos (by omega)), fun _ => ⟨fun c2 => no (fun z => c2 ?_), fun c2 => ?_⟩⟩
      · rw [mj_bit1 b16]
        exact ecl.mp z
      · rw [mj_bit1 b16] at c2
        have z := ecl'.mpr c2
        rw [mz_u5 (Nat.le_refl 5)]
        have := ih' (mj_u X' 5 k (-1)) (fun c h4 h5 => by rw [mj_u_ne _ _ _ h5]; exact x1 c h4 h5) (fun i hi => by
          rw [mj_u_at]
          by_cases e : i = k
          · subst e
            rw [if_pos ⟨rfl, rfl⟩, if_pos (Nat.lt_succ_self i)]
            unfold mj_nv
            rw [if_pos (e2.mp z)]
          · rw [if_neg (fun z => e z.2), x2 i hi]
            by_cases f : i < k
            · rw [if_pos f, if_pos (by omega)]
            · rw [if_neg f, if_neg (by omega)])
        unfold mj_kn at this
        rw [if_pos z] at this
        exact this
theorem mz_psL (h : mj_J Z) (hB : mz_B Z) {o7 o8 : Option Value} (hX : ∀ i, i < mj_np Z → X 5 i = mj_nv Z i) (hK : mj_W 3 102 4 246 [some (.ref 0), some (.ref 1), some (.ref 2), some (.ref 3), some (.ref 4), some (.ref 5), some (.int (nI 0)), o7, o8] [] (mz (mj_lo (mj_lk (mj_nv Z)) (mj_nl Z) (mj_kno Z)) X) 1 K) : mj_W 3 102 4 204 [some (.ref 0), some (.ref 1), some (.ref 2), some (.ref 3), some (.ref 4), some (.ref 5), some (.int (nI 0)), o7, o8] [] (mz (mj_kno Z) X) 1 K := by
  refine mj_down (P := fun k => mj_W 3 102 4 204 [some (.ref 0), some (.ref 1), some (.ref 2), some (.ref 3), some (.ref 4), some (.ref 5), some (.int (nI k)), o7, o8] [] (mz (mj_lo (mj_lk (mj_nv Z)) k (mj_kno Z)) X) 1 K) (mj_nl Z) ?_ ?_
  · obtain ⟨k1, k2⟩ := mj_lks_ok h (mj_nl Z) (by omega)
    exact t102_204 ⟨fun _ => hK, fun c => absurd (mj_lle k1.1.s (mj_n_pr k2.1).2.2.1.symm) c⟩
  · intro k hk ih
    obtain ⟨k1, k2⟩ := mj_lks_ok h k (by omega)
    have hB' := mz_B_pr k2.1 hB
    have ih' : mj_W 3 102 4 204 [some (.ref 0), some (.ref 1), some (.ref 2), some (.ref 3), some (.ref 4), some (.ref 5), some (.int (nI (k + 1))), o7, o8] [] (mz (mj_lk (mj_nv Z) k (mj_lo (mj_lk (mj_nv Z)) k (mj_kno Z))) X) 1 K := ih
    generalize mj_lo (mj_lk (mj_nv Z)) k (mj_kno Z) = A at k1 k2 hB' ih' ⊢
    have kL := (mj_n_pr k2.1).2.2.1
    have kP := (mj_n_pr k2.1).1
    have hkA : k < mj_nl A := by omega
    have hl5 := mz_l5 hB' hkA
    rw [← nI_1] at ih'
    refine t102_204 ⟨fun c => (mj_lls k1.1.s hkA c).elim, fun _ => ?_⟩
    simp only [mz_rL0 hl5, mz_wL0 hl5, eq_true (mz_vL0 hl5), mz_rL1 hl5, mz_wL1 hl5, eq_true (mz_vL1 hl5), mz_rL2 hl5, mz_wL2 hl5, eq_true (mz_vL2 hl5), mz_rL3 hl5, mz_wL3 hl5, eq_true (mz_vL3 hl5), mz_rL4 hl5, mz_wL4 hl5, eq_true (mz_vL4 hl5), mz_rL5 hl5, mz_wL5 hl5, eq_true (mz_vL5 hl5), mz_rL6 hl5, mz_wL6 hl5, eq_true (mz_vL6 hl5), mz_rL7 hl5, mz_wL7 hl5, eq_true (mz_vL7 hl5), mz_rL8 hl5, mz_wL8 hl5, eq_true (mz_vL8 hl5), mz_rL9 hl5, mz_wL9 hl5, eq_true (mz_vL9 hl5), mz_rL10 hl5, mz_wL10 hl5, eq_true (mz_vL10 hl5), true_and]
    refine ⟨fun c => ?_, fun c => ?_⟩
    · have e : mj_lk (mj_nv Z) k A = A := by
        unfold mj_lk
        exact if_neg c
      rw [e] at ih'
      exact ih'
    · exact sp101 h.1 k1 k2 hB' hkA (fun i hi => hX i (by omega)) c (t102_237 ih')
theorem mz_psR (h : mj_J Z) (hB : mz_B Z) (hK : K 0 0 (mz (mj_lo mj_alr (mj_nr Z) Z) X)) : ∀ o7 o8, mj_W 3 102 4 246 [some (.ref 0), some (.ref 1), some (.ref 2), some (.ref 3), some (.ref 4), some (.ref 5), some (.int (nI 0)), o7, o8] [] (mz Z X) 1 K := by
  refine mj_down (P := fun k => ∀ o7 o8, mj_W 3 102 4 246 [some (.ref 0), some (.ref 1), some (.ref 2), some (.ref 3), some (.ref 4), some (.ref 5), some (.int (nI k)), o7, o8] [] (mz (mj_lo mj_alr k Z) X) 1 K) (mj_nr Z) ?_ ?_
  · intro o7 o8
    obtain ⟨k1, k2⟩ := mj_alr_k h (mj_nr Z) (Nat.le_refl _)
    exact t102_246 ⟨fun _ => hK, fun c => absurd (mj_rre k1.1.s (mj_n_pr k2).2.1.symm) c⟩
  · intro k hk ih o7 o8
    obtain ⟨k1, k2⟩ := mj_alr_k h k (by omega)
    have hB' := mz_B_pr k2 hB
    have ih' : ∀ o7 o8, mj_W 3 102 4 246 [some (.ref 0), some (.ref 1), some (.ref 2), some (.ref 3), some (.ref 4), some (.ref 5), some (.int (nI (k + 1))), o7, o8] [] (mz (mj_alr k (mj_lo mj_alr k Z)) X) 1 K := ih
    generalize mj_lo mj_alr k Z = A at k1 k2 hB' ih' ⊢
    have hkA : k < mj_nr A := by rw [(mj_n_pr k2).2.1]; exact hk
    have hr6 := mz_r6 hB' hkA
    obtain ⟨l1, l2⟩ := k1.1.s.2.2.2.2.1 k hkA
    have ca := k1.1.c k hkA
    have cle : mj_ct A k 0 ≤ 120 := Nat.le_trans (mj_cb_le _ _) (mj_S_P k1.1.s).1
    have n0 := nI_toInt (show mj_ct A k 0 < 2 ^ 31 by omega)
    have i10 : (10 : Int32).toInt = 10 := by decide
    have i9 : (9 : Int32).toInt = 9 := by decide
    have i7 : (7 : Int32).toInt = 7 := by decide
    have t10 : (10 * nI (mj_ct A k 0) : Int32).toInt = 10 * (mj_ct A k 0 : Int) := by rw [fb_mulI (by rw [i10]; omega) (by rw [i10]; omega), i10, n0]
    have t9 : (9 * A 3 k : Int32).toInt = 9 * (A 3 k).toInt := by rw [fb_mulI (by rw [i9]; omega) (by rw [i9]; omega), i9]
    have t7 : (7 * A 3 k : Int32).toInt = 7 * (A 3 k).toInt := by rw [fb_mulI (by rw [i7]; omega) (by rw [i7]; omega), i7]
    unfold mj_alr at ih'
    rw [← nI_1] at ih'
    have f0 : A 2 k = 0 → ∀ o7 o8, mj_W 3 102 4 246 [some (.ref 0), some (.ref 1), some (.ref 2), some (.ref 3), some (.ref 4), some (.ref 5), some (.int (nI k + 1)), o7, o8] [] (mz (mj_u A 7 k 0) X) 1 K := by
      intro c
      rw [if_pos c] at ih'
      have e : mj_u A 7 k 0 = A := by
        have := ca.2 c
        rw [← this]; exact mz_uid
      rw [e]
      exact ih'
    have f1 : ¬ A 2 k = 0 → (9 * (A 3 k).toInt ≤ 10 * (mj_ct A k 0 : Int) ∨ (A 7 k = 1 ∧ 7 * (A 3 k).toInt < 10 * (mj_ct A k 0 : Int))) → ∀ o7 o8, mj_W 3 102 4 246 [some (.ref 0), some (.ref 1), some (.ref 2), some (.ref 3), some (.ref 4), some (.ref 5), some (.int (nI k + 1)), o7, o8] [] (mz (mj_u A 7 k 1) X) 1 K := by
      intro c c2
      rw [if_neg c, if_pos c2] at ih'
      exact ih'
    have f2 : ¬ A 2 k = 0 → ¬ (9 * (A 3 k).toInt ≤ 10 * (mj_ct A k 0 : Int) ∨ (A 7 k = 1 ∧ 7 * (A 3 k).toInt < 10 * (mj_ct A k 0 : Int))) → ∀ o7 o8, mj_W 3 102 4 246 [some (.ref 0), some (.ref 1), some (.ref 2), some (.ref 3), some (.ref 4), some (.ref 5), some (.int (nI k + 1)), o7, o8] [] (mz (mj_u A 7 k 0) X) 1 K := by
      intro c c2
      rw [if_neg c, if_neg c2] at ih'
      exact ih'
    refine t102_246 ⟨fun c => (mj_rrs k1.1.s hkA c).elim, fun _ => ?_⟩
    rw [mz_v0]
    refine sp95 k1.1.s hB' hkA (mz_k20 (t102_266 ?_))
    simp only [mz_rR0 hr6, mz_wR0 hr6, eq_true (mz_vR0 hr6), mz_rR1 hr6, mz_wR1 hr6, eq_true (mz_vR1 hr6), mz_rR2 hr6, mz_wR2 hr6, eq_true (mz_vR2 hr6), mz_rR3 hr6, mz_wR3 hr6, eq_true (mz_vR3 hr6), mz_rR4 hr6, mz_wR4 hr6, eq_true (mz_vR4 hr6), true_and]
    have w331 : ∀ (y : Int32) (x7 x8 : Int32), (∀ o7 o8, mj_W 3 102 4 246 [some (.ref 0), some (.ref 1), some (.ref 2), some (.ref 3), some (.ref 4), some (.ref 5), some (.int (nI k + 1)), o7, o8] [] (mz (mj_u A 7 k y) X) 1 K) → mj_W 3 102 4 331 [some (.ref 0), some (.ref 1), some (.ref 2), some (.ref 3), some (.ref 4), some (.ref 5), some (.int (nI k)), some (.int x7), some (.int x8)] [.int y, .int (5 * nI k + 2), .ref 2] (mz A X) 1 K := by
      intro y x7 x8 hy
      refine t102_331 ?_
      simp only [mz_rR0 hr6, mz_wR0 hr6, eq_true (mz_vR0 hr6), mz_rR1 hr6, mz_wR1 hr6, eq_true (mz_vR1 hr6), mz_rR2 hr6, mz_wR2 hr6, eq_true (mz_vR2 hr6), mz_rR3 hr6, mz_wR3 hr6, eq_true (mz_vR3 hr6), mz_rR4 hr6, mz_wR4 hr6, eq_true (mz_vR4 hr6), true_and]
      exact hy _ _
    refine ⟨fun c => t102_305 (w331 0 _ _ (f0 c)), fun c => ⟨fun c2 => ⟨fun c3 => ?_, fun c3 => w331 1 _ _ (f1 c (Or.inl ?_))⟩, fun c2 => t102_305 (w331 0 _ _ (f2 c (fun z => ?_)))⟩⟩
    · rw [mj_lt, t7, t10] at c2
      rw [mj_lt, t10, t9] at c3
      refine w331 (A 7 k) _ _ ?_
      rcases ca.1 with z | z
      · rw [z]
        exact f2 c (fun w => by
          rcases w with w | w
          · omega
          · rw [z] at w; exact absurd w.1 (by decide))
      · rw [z]
        exact f1 c (Or.inr ⟨z, c2⟩)
    · rw [mj_lt, t10, t9] at c3
      omega
    · rw [mj_lt, t7, t10] at c2
      rcases z with z | z
      · omega
      · exact c2 z.2
/-- a second passes -/
theorem sp102 (h : mj_J Z) (hB : mz_B Z) (hb : (Z 0 5).toInt < 1000000) (hK : ∀ X', mz_X45 X X' → K 0 0 (mz (mj_sec Z) X')) : mj_Cm 102 4 [.ref 0, .ref 1, .ref 2, .ref 3, .ref 4] (mz Z X) K := by
  obtain ⟨t1, t2, t3, t4, t5⟩ := mj_tick_ok h hb
  obtain ⟨a1, a2, a3, a4, a5⟩ := mj_arr_ok t1 t2 t3
  obtain ⟨s1, s2⟩ := mj_sec3_ok h hb
  have hnl : mj_nl (mj_sec3 Z) = mj_nl Z := (mj_n_pr s2).2.2.1
  obtain ⟨k1, k2⟩ := mj_lks_ok s1 (mj_nl (mj_sec3 Z)) (Nat.le_refl _)
  have b1 := mz_B_pr t4 hB
  have b2 := mz_B_pr a4 b1
  have b3 := mz_B_pr s2 hB
  have b4 := mz_B_pr k2.1 b3
  refine e102 ?_
  simp only [mz_rS0, mz_wS0, mz_rS1, mz_wS1, mz_rS2, mz_wS2, mz_rS3, mz_wS3, mz_rS4, mz_wS4, mz_rS5, mz_wS5]
  show mj_W 1 102 4 11 [some (.ref 0), some (.ref 1), some (.ref 2), some (.ref 3), some (.ref 4), some (.int (nI 0)), none, none, none] [] (mz (mj_tick Z) X) 0 K
  refine mz_psA t1 t2 t3 b1 (mz_psT ⟨a1, a2, a3⟩ b2 ?_)
  show mj_W 3 102 4 114 [some (.ref 0), some (.ref 1), some (.ref 2), some (.ref 3), some (.ref 4), some (.ref 5), some (.int (nI 0)), none, none] [] (mz (mj_sec3 Z) (mj_z0 X 5)) 1 K
  refine mz_psN s1 b3 (fun X1 x1 x2 => mz_psK s1 b3 x2 (fun X2 y1 y2 => mz_psL s1 b3 y2 (mz_psR k1 b4 ?_ _ _)))
  have er : mj_nr (mj_lo (mj_lk (mj_nv (mj_sec3 Z))) (mj_nl (mj_sec3 Z)) (mj_kno (mj_sec3 Z))) = mj_nr Z := by rw [(mj_n_pr k2.1).2.1, (mj_n_pr s2).2.1]
  have := hK X2 (fun c h4 h5 => by
    rw [y1 c h4 h5, x1 c h4 h5]
    unfold mj_z0
    rw [if_neg h5])
  rw [er, hnl]
  rw [mj_sec_def] at this
  exact this
end LWI
