-- rooms, links, trains that are not there yet: their cells are 0, and a second keeps that
section BEY
variable {Z Z' Y Z3 : mj_M} {l p t : Nat}
def mj_ob (Z : mj_M) (c i : Nat) : Prop := (4 ≤ c ∧ c ≤ 7 ∧ mj_nr Z ≤ i) ∨ (c = 33 ∧ mj_nt Z ≤ i)
def mj_kp (Z Z' : mj_M) : Prop := ∀ c i, mj_ob Z c i → Z' c i = Z c i
theorem mj_kp_rf : mj_kp Z Z := fun _ _ _ => rfl
theorem mj_kp_us {c i : Nat} {v : Int32} (h : mj_kp Z Y) (h1 : 4 ≤ c → c ≤ 7 → i < mj_nr Z) (h2 : c = 33 → i < mj_nt Z) : mj_kp Z (mj_u Y c i v) := by
  intro c' i' ho
  rw [mj_u_at, if_neg]
  · exact h c' i' ho
  · rintro ⟨rfl, rfl⟩
    rcases ho with ⟨a, b, d⟩ | ⟨a, d⟩
    · have := h1 a b; omega
    · have := h2 a; omega
theorem mj_kp_tr (hp : mj_pr mj_s1 Y = mj_pr mj_s1 Z) (h : mj_kp Z Y) (h' : mj_kp Y Z') : mj_kp Z Z' := by
  obtain ⟨-, e2, -, e4⟩ := mj_n_pr hp
  intro c i ho
  have ho' : mj_ob Y c i := by
    unfold mj_ob
    rw [e2, e4]
    exact ho
  rw [h' c i ho', h c i ho]
theorem mj_kp_lo {f : Nat → mj_M → mj_M} (hf : ∀ k Z, mj_pr mj_s1 (f k Z) = mj_pr mj_s1 Z) : ∀ (n : Nat), (∀ k, k < n → mj_kp (mj_lo f k Z) (f k (mj_lo f k Z))) → mj_kp Z (mj_lo f n Z)
  | 0, _ => mj_kp_rf
  | n + 1, h => mj_kp_tr (mj_lo_pr hf n Z) (mj_kp_lo hf n (fun k hk => h k (by omega))) (h n (by omega))
theorem mj_kp_oA (h : mj_kp Z Y) (hr : (Y 22 p).toNatClampNeg < mj_nr Z) : mj_kp Z (mj_oA p Y) := by
  unfold mj_oA
  split
  · exact mj_kp_us (mj_kp_us h (by omega) (by omega)) (fun _ _ => hr) (by omega)
  · exact h
theorem mj_kp_a1 (h : mj_Iv Z) (hp : p < mj_np Z) : mj_kp Z (mj_a1 p Z) := by
  obtain ⟨r1, r2⟩ := mj_st_ok h.s hp h.a
  unfold mj_a1
  split
  · exact mj_kp_oA (mj_kp_us (mj_kp_us (mj_kp_us mj_kp_rf (by omega) (by omega)) (fun _ _ => r2) (by omega)) (fun _ _ => r2) (by omega)) r2
  · exact mj_kp_rf
theorem mj_kp_b1 (h : mj_J Z) (ht : t < mj_nt Z) : mj_kp Z (mj_b1 t Z) := by
  have r := mj_vin (h.1.s.2.2.2.2.2.2.1 t ht).1
  unfold mj_b1
  split
  · exact mj_kp_us (mj_kp_us (mj_kp_us mj_kp_rf (by omega) (by omega)) (fun _ _ => r.2) (by omega)) (by omega) (fun _ => ht)
  · exact mj_kp_rf
theorem mj_kp_sv (h : mj_J Z) (ht : t < mj_nt Z) : mj_kp Z (mj_sv t Z) := by
  have e : mj_kp Z (mj_lo (fun _ => mj_b1 t) 4 Z) := mj_kp_lo (fun _ => mj_b1_pr t) 4 (fun k _ => by
    obtain ⟨k1, k2⟩ := mj_bs_k h ht k
    exact mj_kp_b1 k1 (by rw [(mj_n_pr k2).2.2.2]; exact ht))
  unfold mj_sv
  split
  · have e3 : mj_kp Z (mj_b3 t (mj_lo (fun _ => mj_b1 t) 4 Z)) := mj_kp_us e (by omega) (by omega)
    generalize mj_b3 t (mj_lo (fun _ => mj_b1 t) 4 Z) = A at e3 ⊢
    unfold mj_b2
    split
    · exact mj_kp_us (mj_kp_us e3 (by omega) (by omega)) (by omega) (by omega)
    · exact e3
  · exact mj_kp_rf
theorem mj_kp_be1 {d : Nat} (h3 : mj_Iv Z3) (h : mj_J Z) (hV : mj_Vw Z3 Z) (hl : l < mj_nl Z) (hp : p < mj_np Z) (hv : mj_nv Z3 p = nI l) : mj_kp Z (mj_be1 (mj_nv Z3) l p (Z, d)).1 := by
  unfold mj_be1
  by_cases c : Z 21 p = 0 ∧ ¬ mj_sz Z (mj_nv Z3) l p = 0 ∧ mj_hp Z l (mj_sz Z (mj_nv Z3) l p) d p
  · rw [if_pos c]
    obtain ⟨a, b, ha, hb, hab, e1, e2, e3⟩ := mj_Vw_beh h3 h.1 hV hl hp hv c.1
    have hR := mj_S_R h.1.s
    dsimp only
    intro c' i ho
    rw [e2, e1]
    by_cases c4 : c' = 4
    · subst c4
      rw [mj_bk_4, if_neg]
      rw [nI_clamp (by omega)]
      rintro rfl
      rcases ho with ⟨-, -, z⟩ | ⟨z, -⟩ <;> omega
    · by_cases c6 : c' = 6
      · subst c6
        rw [mj_bk_6, if_neg]
        rw [nI_clamp (by omega)]
        rintro rfl
        rcases ho with ⟨-, -, z⟩ | ⟨z, -⟩ <;> omega
      · rw [mj_bk_o]
        rcases ho with ⟨z1, z2, -⟩ | ⟨z, -⟩ <;> omega
  · rw [if_neg c]
    exact mj_kp_rf
theorem mj_kp_be (h3 : mj_Iv Z3) (hl : l < mj_nl Z3) {q : Nat → Int32} : ∀ (n : Nat) (Z : mj_M), (∀ i, i < n → ∃ p, p < mj_np Z3 ∧ q i = nI p ∧ mj_nv Z3 p = nI l) → mj_J Z → mj_Vw Z3 Z → mj_kp Z (mj_be (mj_nv Z3) l q n Z).1
  | 0, Z, _, h, hV => mj_kp_rf
  | n + 1, Z, hq, h, hV => by
    have ih := mj_kp_be h3 hl n Z (fun i hi => hq i (by omega)) h hV
    obtain ⟨i1, i2⟩ := mj_be_ok h3 hl n Z (fun i hi => hq i (by omega)) h hV
    obtain ⟨p, hp, e, hv⟩ := hq n (by omega)
    have hP := mj_S_P h3.s
    show mj_kp Z (mj_be1 (mj_nv Z3) l (q n).toNatClampNeg (mj_be (mj_nv Z3) l q n Z)).1
    rw [e, nI_clamp (by omega)]
    obtain ⟨e1, -, e3, -⟩ := mj_n_pr i2.1
    exact mj_kp_tr (i2.1.trans hV.1.symm) ih (mj_kp_be1 (d := (mj_be (mj_nv Z3) l q n Z).2) h3 i1 i2 (by omega) (by omega) hv)
theorem mj_kp_lk (h3 : mj_Iv Z3) (hl : l < mj_nl Z3) (h : mj_J Z) (hV : mj_Vw Z3 Z) : mj_kp Z (mj_lk (mj_nv Z3) l Z) := by
  unfold mj_lk
  by_cases c : Z 16 l = 0
  · rw [if_pos c]
    refine mj_kp_be h3 hl _ _ (fun i hi => ?_) h hV
    obtain ⟨-, h2⟩ := mj_ln_ok (Z := Z) (v := mj_nv Z3) (l := l) (q := fun _ => 0) (mj_np Z)
    obtain ⟨p, hp, e1, e2⟩ := h2 i hi
    rw [(mj_n_pr hV.1).1] at hp
    exact ⟨p, hp, e1, e2⟩
  · rw [if_neg c]
    exact mj_kp_rf
theorem mj_kp_lks (h : mj_J Z3) : ∀ n, n ≤ mj_nl Z3 → mj_kp Z3 (mj_lo (mj_lk (mj_nv Z3)) n (mj_kno Z3))
  | 0, _ => fun c i ho => (by
    show mj_kno Z3 c i = Z3 c i
    rw [(mj_kno_at Z3).1 c (by rcases ho with ⟨a, b, -⟩ | ⟨a, -⟩ <;> omega)])
  | n + 1, hn => by
    obtain ⟨i1, i2⟩ := mj_lks_ok h n (by omega)
    exact mj_kp_tr i2.1 (mj_kp_lks h n (by omega)) (mj_kp_lk h.1 (by omega) i1 i2)
theorem mj_kp_alr {r : Nat} (hr : r < mj_nr Z) : mj_kp Z (mj_alr r Z) := by
  unfold mj_alr
  split
  · exact mj_kp_rf
  · exact mj_kp_us mj_kp_rf (fun _ _ => hr) (by omega)
theorem mj_kp_sec (h : mj_J Z) (hb : (Z 0 5).toInt < 1000000) : mj_kp Z (mj_sec Z) := by
  obtain ⟨t1, t2, t3, t4, t5⟩ := mj_tick_ok h hb
  obtain ⟨a1, a2, a3, a4, a5⟩ := mj_arr_ok t1 t2 t3
  obtain ⟨s1, s2⟩ := mj_sec3_ok h hb
  have q1 : mj_kp Z (mj_tick Z) := mj_kp_us mj_kp_rf (by omega) (by omega)
  have q2 : mj_kp (mj_tick Z) (mj_arr (mj_tick Z)) := mj_kp_lo mj_a1_pr _ (fun k hk => by
    obtain ⟨⟨k1, -, -, -⟩, k5⟩ := mj_arr_k t1 t2 t3 k (by omega)
    exact mj_kp_a1 k1 (by rw [(mj_n_pr k5).1]; exact hk))
  have q3 : mj_kp (mj_arr (mj_tick Z)) (mj_sec3 Z) := mj_kp_lo mj_sv_pr _ (fun k hk => by
    obtain ⟨k1, k5⟩ := mj_srv_k (Z := mj_arr (mj_tick Z)) ⟨a1, a2, a3⟩ k (by omega)
    exact mj_kp_sv k1 (by rw [(mj_n_pr k5).2.2.2]; exact hk))
  have q4 := mj_kp_tr t4 q1 (mj_kp_tr a4 q2 q3)
  have q5 := mj_kp_lks s1 (mj_nl (mj_sec3 Z)) (Nat.le_refl _)
  obtain ⟨k1, k2⟩ := mj_lks_ok s1 (mj_nl (mj_sec3 Z)) (Nat.le_refl _)
  have hnl : mj_nl (mj_sec3 Z) = mj_nl Z := (mj_n_pr s2).2.2.1
  have er : mj_nr (mj_lo (mj_lk (mj_nv (mj_sec3 Z))) (mj_nl (mj_sec3 Z)) (mj_kno (mj_sec3 Z))) = mj_nr Z := by rw [(mj_n_pr k2.1).2.1, (mj_n_pr s2).2.1]
  rw [mj_sec_def, ← hnl]
  refine mj_kp_tr (k2.1.trans s2) (mj_kp_tr s2 q4 q5) (mj_kp_lo mj_alr_pr _ (fun k hk => ?_))
  obtain ⟨j1, j2⟩ := mj_alr_k k1 k (by omega)
  exact mj_kp_alr (by rw [(mj_n_pr j2).2.1, er]; exact hk)
/-- what is not there yet -/
def mj_Zf (Z : mj_M) : Prop := (∀ r, mj_nr Z ≤ r → Z 4 r = 0 ∧ Z 5 r = 0 ∧ Z 6 r = 0 ∧ Z 7 r = 0) ∧ (∀ l, mj_nl Z ≤ l → Z 16 l = 0 ∧ Z 17 l = 0 ∧ Z 18 l = 0 ∧ Z 19 l = 0) ∧ ∀ t, mj_nt Z ≤ t → Z 33 t = 0
def mj_Ia (Z : mj_M) : Prop := mj_J Z ∧ mj_Zf Z
theorem mj_Zf_kp (hp : mj_pr mj_s1 Y = mj_pr mj_s1 Z) (hk : mj_kp Z Y) (h : mj_Zf Z) : mj_Zf Y := by
  obtain ⟨-, e2, e3, e4⟩ := mj_n_pr hp
  obtain ⟨h1, h2, h3⟩ := h
  refine ⟨fun r hr => ?_, fun l hl => ?_, fun t ht => ?_⟩
  · rw [e2] at hr
    obtain ⟨a, b, c, d⟩ := h1 r hr
    exact ⟨by rw [hk 4 r (Or.inl ⟨by omega, by omega, hr⟩), a], by rw [hk 5 r (Or.inl ⟨by omega, by omega, hr⟩), b], by rw [hk 6 r (Or.inl ⟨by omega, by omega, hr⟩), c], by rw [hk 7 r (Or.inl ⟨by omega, by omega, hr⟩), d]⟩
  · rw [e3] at hl
    rw [mj_pr_at hp (show mj_s1 16 = true from rfl), mj_pr_at hp (show mj_s1 17 = true from rfl), mj_pr_at hp (show mj_s1 18 = true from rfl), mj_pr_at hp (show mj_s1 19 = true from rfl)]
    exact h2 l hl
  · rw [e4] at ht
    rw [hk 33 t (Or.inr ⟨rfl, ht⟩)]
    exact h3 t ht
theorem mj_sec_I (h : mj_Ia Z) (hb : (Z 0 5).toInt < 1000000) : mj_Ia (mj_sec Z) ∧ (mj_sec Z 0 5).toInt = (Z 0 5).toInt + 1 ∧ mj_pr mj_s1 (mj_sec Z) = mj_pr mj_s1 Z := by
  obtain ⟨h1, h2, h3⟩ := mj_sec_ok h.1 hb
  exact ⟨⟨h1, mj_Zf_kp h2 (mj_kp_sec h.1 hb) h.2⟩, h3, h2⟩
theorem mj_secs_I (h : mj_Ia Z) {n : Nat} (hb : (Z 0 5).toInt + n ≤ 1000000) : ∀ k, k ≤ n → mj_Ia (mj_lo (fun _ => mj_sec) k Z) ∧ (mj_lo (fun _ => mj_sec) k Z 0 5).toInt = (Z 0 5).toInt + k ∧ mj_pr mj_s1 (mj_lo (fun _ => mj_sec) k Z) = mj_pr mj_s1 Z
  | 0, _ => ⟨h, by show (Z 0 5).toInt = _; omega, rfl⟩
  | k + 1, hk => by
    obtain ⟨i1, i2, i3⟩ := mj_secs_I h hb k (by omega)
    obtain ⟨j1, j2, j3⟩ := mj_sec_I i1 (by omega)
    exact ⟨j1, by show (mj_sec (mj_lo (fun _ => mj_sec) k Z) 0 5).toInt = _; omega, j3.trans i3⟩
end BEY
