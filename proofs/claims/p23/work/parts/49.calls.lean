-- WHAT THE CALLS MAKE OF THE STATE
section CAL
variable {Z Y : mj_M} {l p t : Nat}
theorem md_1I : (1 : Int32).toInt = 1 := by decide
theorem md_0I : (0 : Int32).toInt = 0 := by decide
/-- all cells but those of the links' marks and rates -/
def md_sf (c : Nat) : Bool := !(c == 13 || (16 ≤ c && c ≤ 19))
theorem md_flag (h : mj_Ia Z) {c : Nat} {v : Int32} (hc : (16 ≤ c ∧ c ≤ 19 ∧ mj_bit v) ∨ (c = 13 ∧ 0 ≤ v.toInt ∧ v.toInt ≤ 9)) (hl : l < mj_nl Z) : mj_Ia (mj_u Z c l v) := by
  have hs : md_sf c = false := by
    unfold md_sf
    simp only [Bool.not_eq_false', Bool.or_eq_true, Bool.and_eq_true, beq_iff_eq, decide_eq_true_eq]
    omega
  have hp : mj_pr md_sf (mj_u Z c l v) = mj_pr md_sf Z := mj_pr_u hs
  obtain ⟨⟨⟨⟨S1, S2, S3, S4, S5, S6, S7, S8⟩, hA, hB, hC, hD, hE⟩, hz, ho⟩, z1, z2, z3⟩ := h
  have hL : mj_nl (mj_u Z c l v) = mj_nl Z := by
    have : mj_nl (mj_pr md_sf (mj_u Z c l v)) = mj_nl Z := by rw [hp]; rfl
    exact this
  have hR : mj_nr (mj_u Z c l v) = mj_nr Z := by
    have : mj_nr (mj_pr md_sf (mj_u Z c l v)) = mj_nr Z := by rw [hp]; rfl
    exact this
  have hT : mj_nt (mj_u Z c l v) = mj_nt Z := by
    have : mj_nt (mj_pr md_sf (mj_u Z c l v)) = mj_nt Z := by rw [hp]; rfl
    exact this
  have hL14 := mj_nlle S1
  have T1 : mj_In (mj_pr md_sf (mj_u Z c l v)) := by rw [hp]; exact S1
  have T2 : 0 ≤ (mj_pr md_sf (mj_u Z c l v) 20 0).toInt ∧ (mj_pr md_sf (mj_u Z c l v) 20 0).toInt ≤ 120 := by rw [hp]; exact S2
  have T3 : 0 ≤ (mj_pr md_sf (mj_u Z c l v) 28 0).toInt ∧ (mj_pr md_sf (mj_u Z c l v) 28 0).toInt ≤ 12 := by rw [hp]; exact S3
  have T4 : ∀ p, p < mj_np (mj_pr md_sf (mj_u Z c l v)) → vp_in (mj_pr md_sf (mj_u Z c l v) 23 p) (mj_nr (mj_pr md_sf (mj_u Z c l v))) ∧ mj_bit (mj_pr md_sf (mj_u Z c l v) 24 p) ∧ mj_bit (mj_pr md_sf (mj_u Z c l v) 27 p) := by rw [hp]; exact S4
  have T5 : ∀ r, r < mj_nr (mj_pr md_sf (mj_u Z c l v)) → 1 ≤ (mj_pr md_sf (mj_u Z c l v) 3 r).toInt ∧ (mj_pr md_sf (mj_u Z c l v) 3 r).toInt ≤ 60 := by rw [hp]; exact S5
  have T7 : ∀ t, t < mj_nt (mj_pr md_sf (mj_u Z c l v)) → vp_in (mj_pr md_sf (mj_u Z c l v) 29 t) (mj_nr (mj_pr md_sf (mj_u Z c l v))) ∧ 0 ≤ (mj_pr md_sf (mj_u Z c l v) 30 t).toInt ∧ (mj_pr md_sf (mj_u Z c l v) 30 t).toInt ≤ 99 := by rw [hp]; exact S7
  have T8 : mj_bit (mj_pr md_sf (mj_u Z c l v) 8 1) := by rw [hp]; exact S8
  have TA : mj_Da (mj_pr md_sf (mj_u Z c l v)) := by rw [hp]; exact hA
  have TB : mj_Db (mj_pr md_sf (mj_u Z c l v)) := by rw [hp]; exact hB
  have TC : mj_Dc (mj_pr md_sf (mj_u Z c l v)) := by rw [hp]; exact hC
  have TD : mj_Dd (mj_pr md_sf (mj_u Z c l v)) := by rw [hp]; exact hD
  have TE : mj_De (mj_pr md_sf (mj_u Z c l v)) := by rw [hp]; exact hE
  have TO : mj_On (mj_pr md_sf (mj_u Z c l v)) := by rw [hp]; exact ho
  refine ⟨⟨⟨⟨T1, T2, T3, T4, T5, fun k hk => ?_, T7, T8⟩, TA, TB, TC, TD, TE⟩, mj_Zb_u hz (by omega) (fun _ => ?_), TO⟩, fun r hr => ?_, fun k hk => ?_, fun k hk => ?_⟩
  · rw [hL] at hk
    obtain ⟨b1, b2, b3, b4, b5, b6⟩ := S6 k hk
    have two : ∀ c' : Nat, (mj_u Z c l v c' k = Z c' k) ∨ (c' = c ∧ mj_u Z c l v c' k = v) := by
      intro c'
      rw [mj_u_at]
      by_cases e : c' = c ∧ k = l
      · rw [if_pos e]; exact Or.inr ⟨e.1, rfl⟩
      · rw [if_neg e]; exact Or.inl rfl
    have bit : ∀ c' : Nat, 16 ≤ c' → mj_bit (Z c' k) → mj_bit (mj_u Z c l v c' k) := by
      intro c' g b
      rcases two c' with e | ⟨e1, e2⟩
      · rw [e]; exact b
      · rw [e2]
        rcases hc with z | z
        · exact z.2.2
        · omega
    refine ⟨bit 16 (by omega) b1, bit 17 (by omega) b2, bit 18 (by omega) b3, bit 19 (by omega) b4, ?_⟩
    rcases two 13 with e | ⟨e1, e2⟩
    · rw [e]; exact ⟨b5, b6⟩
    · rw [e2]
      rcases hc with z | z
      · omega
      · exact z.2
  · unfold mj_lim
    rw [if_neg (by omega), if_pos (by omega)]
    omega
  · rw [hR] at hr
    rw [mj_u_ne _ _ _ (show 4 ≠ c by omega), mj_u_ne _ _ _ (show 5 ≠ c by omega), mj_u_ne _ _ _ (show 6 ≠ c by omega), mj_u_ne _ _ _ (show 7 ≠ c by omega)]
    exact z1 r hr
  · rw [hL] at hk
    rw [mj_u_at, mj_u_at, mj_u_at, mj_u_at, if_neg (by omega), if_neg (by omega), if_neg (by omega), if_neg (by omega)]
    exact z2 k hk
  · rw [hT] at hk
    rw [mj_u_ne _ _ _ (show 33 ≠ c by omega)]
    exact z3 k hk
def md_an1 (l : Nat) (Z : mj_M) : mj_M := mj_u Z 17 l (Z 16 l)
def md_ann (Z : mj_M) : mj_M := mj_lo md_an1 (mj_nl Z) Z
theorem md_ann_k (h : mj_Ia Z) : ∀ n, n ≤ mj_nl Z → mj_Ia (mj_lo md_an1 n Z) ∧ mj_nl (mj_lo md_an1 n Z) = mj_nl Z ∧ mj_lo md_an1 n Z 16 = Z 16
  | 0, _ => ⟨h, rfl, rfl⟩
  | n + 1, hn => by
    obtain ⟨i1, i2, i3⟩ := md_ann_k h n (by omega)
    show mj_Ia (md_an1 n (mj_lo md_an1 n Z)) ∧ mj_nl (md_an1 n (mj_lo md_an1 n Z)) = mj_nl Z ∧ md_an1 n (mj_lo md_an1 n Z) 16 = Z 16
    refine ⟨md_flag i1 (Or.inl ⟨by omega, by omega, ?_⟩) (by omega), i2, i3⟩
    exact (i1.1.1.s.2.2.2.2.2.1 n (by omega)).1
-- a room
def md_room (k lim : Int32) (Z : mj_M) : mj_M := mj_u (mj_u (mj_u Z 2 (mj_nr Z) k) 3 (mj_nr Z) lim) 1 0 (Z 1 0 + 1)
theorem md_cnt {x : Int32} {m : Nat} (h : 0 ≤ x.toInt) (hm : x.toInt < m) (hM : m < 1000) : (x + 1).toInt = x.toInt + 1 ∧ (x + 1).toNatClampNeg = x.toNatClampNeg + 1 := by
  have e : (x + 1).toInt = x.toInt + 1 := by rw [fb_addI (by rw [md_1I]; omega) (by rw [md_1I]; omega), md_1I]
  refine ⟨e, ?_⟩
  rw [mj_clN, mj_clN, e]
  omega
theorem md_room_I (h : mj_Ia Z) {k lim : Int32} (hn : mj_nr Z < 10) (h1 : 1 ≤ lim.toInt) (h2 : lim.toInt ≤ 60) : mj_Ia (md_room k lim Z) := by
  obtain ⟨⟨⟨⟨S1, S2, S3, S4, S5, S6, S7, S8⟩, hA, hB, hC, hD, hE⟩, hz, ho⟩, z1, z2, z3⟩ := h
  have hx : (Z 1 0).toInt < (10 : Nat) := by
    have h0 := S1.1
    unfold mj_nr at hn
    rw [mj_clN] at hn
    omega
  obtain ⟨e1, e2⟩ := md_cnt S1.1.1 hx (by decide)
  have hR : mj_nr (md_room k lim Z) = mj_nr Z + 1 := e2
  have mono : ∀ {x : Int32}, vp_in x (mj_nr Z) → vp_in x (mj_nr Z + 1) := fun g => mj_vmono g (by omega)
  have zr := z1 (mj_nr Z) (Nat.le_refl _)
  refine ⟨⟨⟨⟨⟨⟨?_, ?_⟩, S1.2.1, fun l hl => ?_⟩, S2, S3, fun p hp => ?_, fun r hr => ?_, S6, fun t ht => ?_, S8⟩, fun p hp => ?_, fun r hr => ?_, fun r hr => ?_, hD, hE⟩, fun c i hc hi => ?_, ho⟩, fun r hr => ?_, z2, z3⟩
  · show 0 ≤ (Z 1 0 + 1).toInt
    have := S1.1; omega
  · show (Z 1 0 + 1).toInt ≤ 10
    omega
  · rw [hR]
    obtain ⟨a, b, c⟩ := S1.2.2 l hl
    exact ⟨mono a, mono b, c⟩
  · rw [hR]
    obtain ⟨a, b⟩ := S4 p hp
    exact ⟨mono a, b⟩
  · rw [hR] at hr
    show 1 ≤ (mj_u Z 3 (mj_nr Z) lim 3 r).toInt ∧ (mj_u Z 3 (mj_nr Z) lim 3 r).toInt ≤ 60
    rw [mj_u_at]
    by_cases e : r = mj_nr Z
    · rw [if_pos ⟨rfl, e⟩]; exact ⟨h1, h2⟩
    · rw [if_neg (fun z => e z.2)]; exact S5 r (by omega)
  · rw [hR]
    obtain ⟨a, b⟩ := S7 t ht
    exact ⟨mono a, b⟩
  · rw [hR]
    obtain ⟨a, b, c⟩ := hA p hp
    exact ⟨a, mono b, c⟩
  · rw [hR] at hr
    by_cases e : r = mj_nr Z
    · have c0 : ∀ s, mj_ct Z r s = 0 := fun s => mj_cb_0 _ (fun p hp => decide_eq_false (fun z => by
        obtain ⟨a1, a2⟩ := mj_vin (hA p hp).2.1
        have := z.1
        rw [a1] at this
        have := (nI_eq (by omega) (by omega)).mp this
        omega))
      refine ⟨?_, ?_, fun _ => ?_⟩
      · show Z 5 r - Z 6 r = nI (mj_ct Z r 0)
        rw [c0, e, zr.2.1, zr.2.2.1]; decide
      · show Z 4 r = nI (mj_ct Z r 1)
        rw [c0, e, zr.1]; rfl
      · show ((mj_ct Z r 0 + mj_ct Z r 1 : Nat) : Int) ≤ (mj_u Z 3 (mj_nr Z) lim 3 r).toInt
        rw [c0, c0, mj_u_at, if_pos ⟨rfl, e⟩]
        omega
    · obtain ⟨a, b, c⟩ := hB r (by omega)
      refine ⟨a, b, fun g => ?_⟩
      have g' : ¬ mj_u Z 2 (mj_nr Z) k 2 r = 0 := g
      rw [mj_u_at, if_neg (fun z => e z.2)] at g'
      show ((mj_ct Z r 0 + mj_ct Z r 1 : Nat) : Int) ≤ (mj_u Z 3 (mj_nr Z) lim 3 r).toInt
      rw [mj_u_at, if_neg (fun z => e z.2)]
      exact c g'
  · rw [hR] at hr
    by_cases e : r = mj_nr Z
    · have e7 : Z 7 r = 0 := by rw [e]; exact zr.2.2.2
      exact ⟨Or.inl e7, fun _ => e7⟩
    · obtain ⟨a, b⟩ := hC r (by omega)
      refine ⟨a, fun g => b ?_⟩
      have g' : mj_u Z 2 (mj_nr Z) k 2 r = 0 := g
      rw [mj_u_at, if_neg (fun z => e z.2)] at g'
      exact g'
  · have hz' : Z c i = 0 := hz c i hc hi
    have b : c = 2 ∨ c = 3 → i ≠ mj_nr Z := by
      rintro (rfl | rfl)
      · have hi' : 10 ≤ i := hi
        omega
      · have hi' : 10 ≤ i := hi
        omega
    unfold md_room
    rw [mj_u_at, if_neg (fun z => by rw [z.1] at hc; exact absurd hc (by decide)), mj_u_at, if_neg (fun z => b (Or.inr z.1) z.2), mj_u_at, if_neg (fun z => b (Or.inl z.1) z.2)]
    exact hz'
  · rw [hR] at hr
    exact z1 r (by omega)
-- a link
def md_link (k f t s r : Int32) (Z : mj_M) : mj_M := mj_u (mj_u (mj_u (mj_u (mj_u (mj_u Z 9 (mj_nl Z) k) 10 (mj_nl Z) f) 11 (mj_nl Z) t) 12 (mj_nl Z) s) 13 (mj_nl Z) r) 8 0 (Z 8 0 + 1)
theorem md_link_I (h : mj_Ia Z) {k f t s r : Int32} (hn : mj_nl Z < 14) (hf : vp_in f (mj_nr Z)) (ht : vp_in t (mj_nr Z)) (hft : ¬ f = t) (hs1 : 1 ≤ s.toInt) (hs2 : s.toInt ≤ 5) (hr1 : 0 ≤ r.toInt) (hr2 : r.toInt ≤ 9) : mj_Ia (md_link k f t s r Z) := by
  obtain ⟨⟨⟨⟨S1, S2, S3, S4, S5, S6, S7, S8⟩, hA, hB, hC, hD, hE⟩, hz, ho⟩, z1, z2, z3⟩ := h
  have hx : (Z 8 0).toInt < (14 : Nat) := by
    have h0 := S1.2.1
    unfold mj_nl at hn
    rw [mj_clN] at hn
    omega
  obtain ⟨e1, e2⟩ := md_cnt S1.2.1.1 hx (by decide)
  have hL : mj_nl (md_link k f t s r Z) = mj_nl Z + 1 := e2
  have zl := z2 (mj_nl Z) (Nat.le_refl _)
  refine ⟨⟨⟨⟨⟨S1.1, ⟨?_, ?_⟩, fun l hl => ?_⟩, S2, S3, S4, S5, fun l hl => ?_, S7, S8⟩, hA, hB, hC, hD, hE⟩, fun c i hc hi => ?_, ho⟩, z1, fun l hl => ?_, z3⟩
  · show 0 ≤ (Z 8 0 + 1).toInt
    have := S1.2.1; omega
  · show (Z 8 0 + 1).toInt ≤ 14
    omega
  · rw [hL] at hl
    show vp_in (mj_u Z 10 (mj_nl Z) f 10 l) (mj_nr Z) ∧ vp_in (mj_u Z 11 (mj_nl Z) t 11 l) (mj_nr Z) ∧ ¬ mj_u Z 10 (mj_nl Z) f 10 l = mj_u Z 11 (mj_nl Z) t 11 l ∧ 1 ≤ (mj_u Z 12 (mj_nl Z) s 12 l).toInt ∧ (mj_u Z 12 (mj_nl Z) s 12 l).toInt ≤ 5
    rw [mj_u_at, mj_u_at, mj_u_at]
    by_cases e : l = mj_nl Z
    · rw [if_pos ⟨rfl, e⟩, if_pos ⟨rfl, e⟩, if_pos ⟨rfl, e⟩]
      exact ⟨hf, ht, hft, hs1, hs2⟩
    · rw [if_neg (fun z => e z.2), if_neg (fun z => e z.2), if_neg (fun z => e z.2)]
      exact S1.2.2 l (by omega)
  · rw [hL] at hl
    show mj_bit (Z 16 l) ∧ mj_bit (Z 17 l) ∧ mj_bit (Z 18 l) ∧ mj_bit (Z 19 l) ∧ 0 ≤ (mj_u Z 13 (mj_nl Z) r 13 l).toInt ∧ (mj_u Z 13 (mj_nl Z) r 13 l).toInt ≤ 9
    rw [mj_u_at]
    by_cases e : l = mj_nl Z
    · rw [if_pos ⟨rfl, e⟩, e]
      exact ⟨Or.inl zl.1, Or.inl zl.2.1, Or.inl zl.2.2.1, Or.inl zl.2.2.2, hr1, hr2⟩
    · rw [if_neg (fun z => e z.2)]
      exact S6 l (by omega)
  · have hz' : Z c i = 0 := hz c i hc hi
    have b : 9 ≤ c → c ≤ 13 → i ≠ mj_nl Z := by
      intro g1 g2
      have hi' : mj_lim (mj_np Z) c ≤ i := hi
      unfold mj_lim at hi'
      rw [if_neg (by omega), if_pos (by omega)] at hi'
      omega
    unfold md_link
    rw [mj_u_at, if_neg (fun z => by rw [z.1] at hc; exact absurd hc (by decide)), mj_u_at, if_neg (fun z => b (by omega) (by omega) z.2), mj_u_at, if_neg (fun z => b (by omega) (by omega) z.2), mj_u_at, if_neg (fun z => b (by omega) (by omega) z.2), mj_u_at, if_neg (fun z => b (by omega) (by omega) z.2), mj_u_at, if_neg (fun z => b (by omega) (by omega) z.2)]
    exact hz'
  · rw [hL] at hl
    exact z2 l (by omega)
-- a train
def md_train (r al sp st : Int32) (Z : mj_M) : mj_M := mj_u (mj_u (mj_u (mj_u (mj_u Z 29 (mj_nt Z) r) 34 (mj_nt Z) al) 30 (mj_nt Z) sp) 31 (mj_nt Z) st) 28 0 (Z 28 0 + 1)
theorem md_train_I (h : mj_Ia Z) {r al sp st : Int32} (hn : mj_nt Z < 12) (hr : vp_in r (mj_nr Z)) (h1 : 0 ≤ sp.toInt) (h2 : sp.toInt ≤ 99) : mj_Ia (md_train r al sp st Z) := by
  obtain ⟨⟨⟨⟨S1, S2, S3, S4, S5, S6, S7, S8⟩, hA, hB, hC, hD, hE⟩, hz, ho⟩, z1, z2, z3⟩ := h
  have hx : (Z 28 0).toInt < (12 : Nat) := by
    have h0 := S3
    unfold mj_nt at hn
    rw [mj_clN] at hn
    omega
  obtain ⟨e1, e2⟩ := md_cnt S3.1 hx (by decide)
  have hT : mj_nt (md_train r al sp st Z) = mj_nt Z + 1 := e2
  have zt := z3 (mj_nt Z) (Nat.le_refl _)
  refine ⟨⟨⟨⟨S1, S2, ⟨?_, ?_⟩, S4, S5, S6, fun t ht => ?_, S8⟩, hA, hB, hC, fun t ht => ?_, hE⟩, fun c i hc hi => ?_, ho⟩, z1, z2, fun t ht => ?_⟩
  · show 0 ≤ (Z 28 0 + 1).toInt
    have := S3; omega
  · show (Z 28 0 + 1).toInt ≤ 12
    omega
  · rw [hT] at ht
    show vp_in (mj_u Z 29 (mj_nt Z) r 29 t) (mj_nr Z) ∧ 0 ≤ (mj_u Z 30 (mj_nt Z) sp 30 t).toInt ∧ (mj_u Z 30 (mj_nt Z) sp 30 t).toInt ≤ 99
    rw [mj_u_at, mj_u_at]
    by_cases e : t = mj_nt Z
    · rw [if_pos ⟨rfl, e⟩, if_pos ⟨rfl, e⟩]
      exact ⟨hr, h1, h2⟩
    · rw [if_neg (fun z => e z.2), if_neg (fun z => e z.2)]
      exact S7 t (by omega)
  · rw [hT] at ht
    show 0 ≤ (Z 33 t).toInt ∧ (Z 33 t).toInt ≤ (mj_u Z 30 (mj_nt Z) sp 30 t).toInt
    rw [mj_u_at]
    by_cases e : t = mj_nt Z
    · rw [if_pos ⟨rfl, e⟩, e, zt, md_0I]
      exact ⟨by omega, h1⟩
    · rw [if_neg (fun z => e z.2)]
      exact hD t (by omega)
  · have hz' : Z c i = 0 := hz c i hc hi
    have b : 29 ≤ c → c ≤ 34 → i ≠ mj_nt Z := by
      intro g1 g2
      have hi' : mj_lim (mj_np Z) c ≤ i := hi
      unfold mj_lim at hi'
      rw [if_neg (by omega), if_neg (by omega), if_neg (by omega)] at hi'
      omega
    unfold md_train
    rw [mj_u_at, if_neg (fun z => by rw [z.1] at hc; exact absurd hc (by decide)), mj_u_at, if_neg (fun z => b (by omega) (by omega) z.2), mj_u_at, if_neg (fun z => b (by omega) (by omega) z.2), mj_u_at, if_neg (fun z => b (by omega) (by omega) z.2), mj_u_at, if_neg (fun z => b (by omega) (by omega) z.2)]
    exact hz'
  · rw [hT] at ht
    exact z3 t (by omega)
-- out, goals, wants
theorem md_oA_I (h : mj_Ia Z) (hp : p < mj_np Z) : mj_Ia (mj_oA p Z) := by
  have r2 := (mj_st_ok h.1.1.s hp h.1.1.a).2
  have hpr := mj_oA_pr p Z
  refine ⟨⟨mj_oA_Iv h.1.1 hp, mj_oA_Zb h.1.1 h.1.2.1 hp, fun q hq hs => ?_⟩, mj_Zf_kp hpr (mj_kp_oA mj_kp_rf r2) h.2⟩
  rw [(mj_n_pr hpr).1] at hq
  rw [mj_oA_c _ _ (show 0 ≠ 21 by decide) (by decide), mj_oA_c _ _ (show 26 ≠ 21 by decide) (by decide)]
  by_cases e : q = p
  · subst e
    unfold mj_oA at hs
    split at hs
    · rw [mj_u_at, if_neg (by omega), mj_u_at, if_pos ⟨rfl, rfl⟩] at hs
      exact absurd hs (by decide)
    · exact h.1.2.2 q hq hs
  · rw [mj_oA_q _ _ e] at hs
    exact h.1.2.2 q hq hs
theorem md_goal_I (h : mj_Ia Z) {g : Int32} (hp : p < mj_np Z) (hg : vp_in g (mj_nr Z)) : mj_Ia (mj_u Z 23 p g) := by
  obtain ⟨⟨⟨⟨S1, S2, S3, S4, S5, S6, S7, S8⟩, hA, hB, hC, hD, hE⟩, hz, ho⟩, hf⟩ := h
  refine ⟨⟨⟨⟨S1, S2, S3, fun q hq => ?_, S5, S6, S7, S8⟩, hA, hB, hC, hD, hE⟩, mj_Zb_u hz (by decide) (fun _ => hp), ho⟩, hf⟩
  obtain ⟨a, b⟩ := S4 q hq
  refine ⟨?_, b⟩
  show vp_in (mj_u Z 23 p g 23 q) (mj_nr Z)
  rw [mj_u_at]
  split
  · exact hg
  · exact a
theorem md_want_I (h : mj_Ia Z) {g : Int32} (hp : p < mj_np Z) (hg : mj_bit g) : mj_Ia (mj_u Z 27 p g) := by
  obtain ⟨⟨⟨⟨S1, S2, S3, S4, S5, S6, S7, S8⟩, hA, hB, hC, hD, hE⟩, hz, ho⟩, hf⟩ := h
  refine ⟨⟨⟨⟨S1, S2, S3, fun q hq => ?_, S5, S6, S7, S8⟩, hA, hB, hC, hD, hE⟩, mj_Zb_u hz (by decide) (fun _ => hp), ho⟩, hf⟩
  obtain ⟨a, b, c⟩ := S4 q hq
  refine ⟨a, b, ?_⟩
  show mj_bit (mj_u Z 27 p g 27 q)
  rw [mj_u_at]
  split
  · exact hg
  · exact c
theorem md_clr_I (h : mj_Ia Z) {v : Int32} (hv : mj_bit v) : mj_Ia (mj_u Z 8 1 v) := by
  obtain ⟨⟨⟨⟨S1, S2, S3, S4, S5, S6, S7, S8⟩, hA, hB, hC, hD, hE⟩, hz, ho⟩, hf⟩ := h
  exact ⟨⟨⟨⟨S1, S2, S3, S4, S5, S6, S7, hv⟩, hA, hB, hC, hD, hE⟩, mj_Zb_u hz (by decide) (fun z => absurd z (by decide)), ho⟩, hf⟩
-- a person
def md_a5 (p : Nat) (r g ch kn gr now w cn cm : Int32) (Z : mj_M) : mj_M := mj_u (mj_u (mj_u (mj_u (mj_u (mj_u (mj_u (mj_u (mj_u (mj_u Z 21 p 0) 22 p r) 23 p g) 24 p ch) 40 p kn) 25 p gr) 26 p now) 20 0 cn) 27 p w) 5 r.toNatClampNeg cm
def md_wt (g : Int32) (Z : mj_M) : Int32 := if Z 2 g.toNatClampNeg = 2 ∧ Z 8 1 = 0 then 1 else 0
def md_a6 (r g ch kn gr : Int32) (Z : mj_M) : mj_M := md_a5 (mj_np Z) r g ch kn gr (Z 0 5) (md_wt g Z) (Z 20 0 + 1) (Z 5 r.toNatClampNeg + 1) Z
def md_add (r g ch kn gr : Int32) (Z : mj_M) : mj_M := mj_oA (mj_np Z) (md_a6 r g ch kn gr Z)
theorem md_a6_at (r g ch kn gr : Int32) (Z : mj_M) : (∀ c, c ≠ 21 → c ≠ 22 → c ≠ 23 → c ≠ 24 → c ≠ 40 → c ≠ 25 → c ≠ 26 → c ≠ 20 → c ≠ 27 → c ≠ 5 → md_a6 r g ch kn gr Z c = Z c) := by
  intro c h1 h2 h3 h4 h5 h6 h7 h8 h9 h10
  unfold md_a6 md_a5
  rw [mj_u_ne _ _ _ h10, mj_u_ne _ _ _ h9, mj_u_ne _ _ _ h8, mj_u_ne _ _ _ h7, mj_u_ne _ _ _ h6, mj_u_ne _ _ _ h5, mj_u_ne _ _ _ h4, mj_u_ne _ _ _ h3, mj_u_ne _ _ _ h2, mj_u_ne _ _ _ h1]
theorem md_a6_I (h : mj_Ia Z) {r g ch kn gr : Int32} {r0 : Nat} (hn : mj_np Z < 120) (hr : r = nI r0) (hr0 : r0 < mj_nr Z) (hg : vp_in g (mj_nr Z)) (hch : mj_bit ch) (hkn : mj_bit kn) (hcap : Z 2 r0 = 0 ∨ ((mj_ct Z r0 0 + mj_ct Z r0 1 + 1 : Nat) : Int) ≤ (Z 3 r0).toInt) : mj_Ia (md_a6 r g ch kn gr Z) ∧ mj_np (md_a6 r g ch kn gr Z) = mj_np Z + 1 := by
  subst hr
  obtain ⟨⟨⟨⟨S1, S2, S3, S4, S5, S6, S7, S8⟩, hA, hB, hC, hD, hE⟩, hz, ho⟩, z1, z2, z3⟩ := h
  have hR := mj_nrle S1
  have hx : (Z 20 0).toInt < (120 : Nat) := by
    have h0 := S2
    unfold mj_np at hn
    rw [mj_clN] at hn
    omega
  obtain ⟨e1, e2⟩ := md_cnt S2.1 hx (by decide)
  have hP : mj_np (md_a6 (nI r0) g ch kn gr Z) = mj_np Z + 1 := e2
  have cr : (nI r0).toNatClampNeg = r0 := nI_clamp (by omega)
  have vr : vp_in (nI r0) (mj_nr Z) := vp_in_nI hr0 (by omega)
  have v21 : ∀ q, md_a6 (nI r0) g ch kn gr Z 21 q = if q = mj_np Z then 0 else Z 21 q := fun q => by
    show mj_u Z 21 (mj_np Z) 0 21 q = _
    rw [mj_u_at]; simp only [true_and]
  have v22 : ∀ q, md_a6 (nI r0) g ch kn gr Z 22 q = if q = mj_np Z then nI r0 else Z 22 q := fun q => by
    show mj_u Z 22 (mj_np Z) (nI r0) 22 q = _
    rw [mj_u_at]; simp only [true_and]
  have v23 : ∀ q, md_a6 (nI r0) g ch kn gr Z 23 q = if q = mj_np Z then g else Z 23 q := fun q => by
    show mj_u Z 23 (mj_np Z) g 23 q = _
    rw [mj_u_at]; simp only [true_and]
  have v24 : ∀ q, md_a6 (nI r0) g ch kn gr Z 24 q = if q = mj_np Z then ch else Z 24 q := fun q => by
    show mj_u Z 24 (mj_np Z) ch 24 q = _
    rw [mj_u_at]; simp only [true_and]
  have v40 : ∀ q, md_a6 (nI r0) g ch kn gr Z 40 q = if q = mj_np Z then kn else Z 40 q := fun q => by
    show mj_u Z 40 (mj_np Z) kn 40 q = _
    rw [mj_u_at]; simp only [true_and]
  have v26 : ∀ q, md_a6 (nI r0) g ch kn gr Z 26 q = if q = mj_np Z then Z 0 5 else Z 26 q := fun q => by
    show mj_u Z 26 (mj_np Z) (Z 0 5) 26 q = _
    rw [mj_u_at]; simp only [true_and]
  have v27 : ∀ q, md_a6 (nI r0) g ch kn gr Z 27 q = if q = mj_np Z then md_wt g Z else Z 27 q := fun q => by
    show mj_u Z 27 (mj_np Z) (md_wt g Z) 27 q = _
    rw [mj_u_at]; simp only [true_and]
  have v5 : ∀ q, md_a6 (nI r0) g ch kn gr Z 5 q = if q = r0 then Z 5 r0 + 1 else Z 5 q := fun q => by
    show mj_u Z 5 (nI r0).toNatClampNeg (Z 5 (nI r0).toNatClampNeg + 1) 5 q = _
    rw [mj_u_at, cr]; simp only [true_and]
  have bw : mj_bit (md_wt g Z) := by
    unfold md_wt
    split
    · exact Or.inr rfl
    · exact Or.inl rfl
  have ct : ∀ r' s, r' < mj_nr Z → mj_ct (md_a6 (nI r0) g ch kn gr Z) r' s = mj_ct Z r' s + (if r' = r0 ∧ s = 0 then 1 else 0) := by
    intro r' s hr'
    unfold mj_ct
    rw [hP]
    show mj_cb _ (mj_np Z) + _ = _
    have a1 : mj_cb (fun p => decide (md_a6 (nI r0) g ch kn gr Z 22 p = nI r' ∧ md_a6 (nI r0) g ch kn gr Z 21 p = s)) (mj_np Z) = mj_cb (fun p => decide (Z 22 p = nI r' ∧ Z 21 p = s)) (mj_np Z) := mj_cb_c _ (fun j hj => by
      rw [v21, v22, if_neg (by omega), if_neg (by omega)])
    rw [a1]
    by_cases c : r' = r0 ∧ s = 0
    · rw [if_pos c, if_pos (show decide (md_a6 (nI r0) g ch kn gr Z 22 (mj_np Z) = nI r' ∧ md_a6 (nI r0) g ch kn gr Z 21 (mj_np Z) = s) = true from decide_eq_true ⟨by rw [v22, if_pos rfl, c.1], by rw [v21, if_pos rfl]; exact c.2.symm⟩)]
    · rw [if_neg c, if_neg (show ¬ decide (md_a6 (nI r0) g ch kn gr Z 22 (mj_np Z) = nI r' ∧ md_a6 (nI r0) g ch kn gr Z 21 (mj_np Z) = s) = true from fun z => c (by
        have this := of_decide_eq_true z
        rw [v21, v22, if_pos rfl, if_pos rfl] at this
        exact ⟨((nI_eq (by omega) (by omega)).mp this.1).symm, this.2.symm⟩))]
  refine ⟨⟨⟨⟨⟨S1, ⟨?_, ?_⟩, S3, fun q hq => ?_, S5, S6, S7, S8⟩, fun q hq => ?_, fun r' hr' => ?_, hC, hD, hE⟩, fun c i hc hi => ?_, fun q hq hs => ?_⟩, fun r' hr' => ?_, z2, z3⟩, hP⟩
  · show 0 ≤ (Z 20 0 + 1).toInt
    have := S2; omega
  · show (Z 20 0 + 1).toInt ≤ 120
    omega
  · rw [hP] at hq
    show vp_in (md_a6 (nI r0) g ch kn gr Z 23 q) (mj_nr Z) ∧ _
    rw [v23, v24, v27]
    by_cases e : q = mj_np Z
    · rw [if_pos e, if_pos e, if_pos e]
      exact ⟨hg, hch, bw⟩
    · rw [if_neg e, if_neg e, if_neg e]
      exact S4 q (by omega)
  · rw [hP] at hq
    show (md_a6 (nI r0) g ch kn gr Z 21 q = 0 ∨ md_a6 (nI r0) g ch kn gr Z 21 q = 1 ∨ md_a6 (nI r0) g ch kn gr Z 21 q = 2 ∨ md_a6 (nI r0) g ch kn gr Z 21 q = 3) ∧ vp_in (md_a6 (nI r0) g ch kn gr Z 22 q) (mj_nr Z) ∧ mj_bit (md_a6 (nI r0) g ch kn gr Z 40 q) ∧ 0 ≤ (md_a6 (nI r0) g ch kn gr Z 26 q).toInt ∧ (md_a6 (nI r0) g ch kn gr Z 26 q).toInt ≤ (Z 0 5).toInt + 5
    rw [v21, v22, v40, v26]
    by_cases e : q = mj_np Z
    · rw [if_pos e, if_pos e, if_pos e, if_pos e]
      have := hE
      unfold mj_De at this
      exact ⟨Or.inl rfl, vr, hkn, by omega, by omega⟩
    · rw [if_neg e, if_neg e, if_neg e, if_neg e]
      exact hA q (by omega)
  · have hr2 : r' < mj_nr Z := hr'
    obtain ⟨b1, b2, b3⟩ := hB r' hr2
    rw [ct r' 0 hr2, ct r' 1 hr2, if_neg (show ¬ (r' = r0 ∧ (1 : Int32) = 0) from fun z => absurd z.2 (by decide)), v5]
    show (if r' = r0 then Z 5 r0 + 1 else Z 5 r') - Z 6 r' = _ ∧ Z 4 r' = _ ∧ (¬ Z 2 r' = 0 → _ ≤ (Z 3 r').toInt)
    by_cases e : r' = r0
    · subst e
      rw [if_pos rfl, if_pos ⟨rfl, rfl⟩]
      refine ⟨?_, b2, fun g => ?_⟩
      · rw [mj_ring1, b1, nI_1]
      · rcases hcap with z | z
        · exact absurd z g
        · omega
    · rw [if_neg e, if_neg (fun z => e z.1)]
      exact ⟨b1, b2, b3⟩
  · rw [hP] at hi
    have hz1 : mj_lim (mj_np Z) c ≤ i := by
      unfold mj_lim at hi ⊢
      split <;> rename_i q1
      · rw [if_pos q1] at hi; exact hi
      · rw [if_neg q1] at hi
        split <;> rename_i q2
        · rw [if_pos q2] at hi; exact hi
        · rw [if_neg q2] at hi
          split <;> rename_i q3
          · rw [if_pos q3] at hi; omega
          · rw [if_neg q3] at hi; exact hi
    have hz' := hz c i hc hz1
    have lim : ((21 ≤ c ∧ c ≤ 27) ∨ c = 40) → i ≠ mj_np Z := by
      intro g
      unfold mj_lim at hi
      rw [if_neg (by omega), if_neg (by omega), if_pos g] at hi
      omega
    have lim5 : c = 5 → i ≠ r0 := by
      intro g
      unfold mj_lim at hi
      rw [if_pos (by omega)] at hi
      omega
    unfold md_a6 md_a5
    rw [cr, mj_u_at, if_neg (fun z => lim5 z.1 z.2), mj_u_at, if_neg (fun z => lim (by omega) z.2), mj_u_at, if_neg (fun z => by rw [z.1] at hc; exact absurd hc (by decide)), mj_u_at, if_neg (fun z => lim (by omega) z.2), mj_u_at, if_neg (fun z => lim (by omega) z.2), mj_u_at, if_neg (fun z => lim (by omega) z.2), mj_u_at, if_neg (fun z => lim (by omega) z.2), mj_u_at, if_neg (fun z => lim (by omega) z.2), mj_u_at, if_neg (fun z => lim (by omega) z.2), mj_u_at, if_neg (fun z => lim (by omega) z.2)]
    exact hz'
  · rw [hP] at hq
    rw [v21] at hs
    show (Z 0 5).toInt < (md_a6 (nI r0) g ch kn gr Z 26 q).toInt
    rw [v26]
    by_cases e : q = mj_np Z
    · rw [if_pos e] at hs
      exact absurd hs (by decide)
    · rw [if_neg e] at hs ⊢
      exact ho q (by omega) hs
  · have hr2 : mj_nr Z ≤ r' := hr'
    obtain ⟨a, b, c, d⟩ := z1 r' hr2
    refine ⟨a, ?_, c, d⟩
    rw [v5, if_neg (by omega)]
    exact b
theorem md_add_I (h : mj_Ia Z) {r g ch kn gr : Int32} {r0 : Nat} (hn : mj_np Z < 120) (hr : r = nI r0) (hr0 : r0 < mj_nr Z) (hg : vp_in g (mj_nr Z)) (hch : mj_bit ch) (hkn : mj_bit kn) (hcap : Z 2 r0 = 0 ∨ ((mj_ct Z r0 0 + mj_ct Z r0 1 + 1 : Nat) : Int) ≤ (Z 3 r0).toInt) : mj_Ia (md_add r g ch kn gr Z) := by
  obtain ⟨a1, a2⟩ := md_a6_I (gr := gr) h hn hr hr0 hg hch hkn hcap
  exact md_oA_I a1 (by omega)
end CAL
