-- each call: the class and the model agree (written by wip/whole/gen/mk64.py)
section LAA
variable {Z M : mj_M}
def la_ag (km dm : Nat) (as : List Value) (Z' : mj_M) (Z : mj_M) (cd : Int32) (e : Nat) (v : Int32) : Prop := ∀ (X : mj_M) (Km : mj_K), (∀ (v' : Int32) (X' : mj_M), X' 0 5 = cd → (e = 0 → v' = v) → Km 0 v' (mj_mm Z' X')) → mj_Cm km dm (.ref 0 :: as) (mj_mm Z X) Km
def la_op (kc dc km dm : Nat) (as : List Value) (al : List (Nat × Int32)) (Z M : mj_M) : Prop := ∀ (Kc : mj_K), (∀ (e : Nat) (cd v : Int32) (M' Z' : mj_M), (e, cd) ∈ al → mj_Ia Z' → mk_CL Z' M' → (Z' 0 5).toInt ≤ (Z 0 5).toInt + 60 → la_ag km dm as Z' Z cd e v → Kc e v M') → mj_Cm kc dc (.ref 0 :: as) M Kc
theorem la_l {x : Int32} {l l' n : Nat} (h1 : l < n) (e1 : x = nI l) (h2 : l' < n) (e2 : x = nI l') (hn : n ≤ 1000) : l = l' := (nI_eq (by omega) (by omega)).mp (e1.symm.trans e2)
theorem la_v {x : Int32} {l n : Nat} (h1 : l < n) (e1 : x = nI l) (hn : n ≤ 1000) : vp_in x n := by
  rw [e1]; exact vp_in_nI h1 (by omega)
theorem la_rg {x a b : Int32} (h : md_rg x a b) : a.toInt ≤ x.toInt ∧ x.toInt ≤ b.toInt := by
  have h1 := h.1
  have h2 := h.2
  rw [mj_lt] at h1 h2
  omega
theorem la_bb (y : Int32) : md_b (md_b y) = md_b y := by
  by_cases e : y = 0
  · rw [e]; decide
  · have h1 : md_b y = 1 := by unfold md_b; rw [if_neg e]
    rw [h1]; decide
theorem la_ann (h : mj_Ia Z) : md_ann Z 0 = Z 0 := by
  have : ∀ n, mj_lo md_an1 n Z 0 = Z 0 := fun n => mj_lo_c (f := md_an1) (c := 0) (fun _ _ => rfl) n Z
  exact this _
theorem la_sub (h : mj_Ia Z) {l : Nat} (hl : l < mj_nl Z) : mj_bit (1 - Z 18 l) := by
  rcases ((h.1.1.s.2.2.2.2.2.1 l hl).2.2.1) with e | e
  · rw [e]; exact Or.inr (by decide)
  · rw [e]; exact Or.inl (by decide)
theorem la_room (h : mj_Ia Z) (hc : mk_CL Z M) {k lim : Int32} : la_op 63 6 100 2 [.int k, .int lim] [(2, 1), (3, 2), (0, 0)] Z M := by
  intro Kc H
  exact mk_room h hc
    (fun a => H 2 1 0 M Z (by decide) h hc (by omega) (fun X Km hK => mq_room h (fun a' X' e' => hK _ X' e' (fun z => absurd z (by decide))) (fun a' b' => absurd a' a) (fun a' b' => absurd a' a)))
    (fun a b => H 3 2 0 M Z (by decide) h hc (by omega) (fun X Km hK => mq_room h (fun a' => absurd a a') (fun a' b' X' e' => hK _ X' e' (fun z => absurd z (by decide))) (fun a' b' => absurd b' b)))
    (fun a b M' hM => H 0 0 _ M' (md_room k lim Z) (by decide) (md_room_I h b (la_rg a.2).1 (la_rg a.2).2) hM (by rw [show (md_room k lim Z) 0 = Z 0 from rfl]; omega) (fun X Km hK => mq_room h (fun a' => absurd a a') (fun a' b' => absurd b b') (fun a' b' X' e' => hK _ X' e' (fun _ => rfl))))
theorem la_link (h : mj_Ia Z) (hc : mk_CL Z M) {k f t s r : Int32} : la_op 64 6 101 3 [.int k, .int f, .int t, .int s, .int r] [(1, 1), (2, 2), (3, 3), (0, 0)] Z M := by
  intro Kc H
  exact mk_link h hc
    (fun a => H 1 1 0 M Z (by decide) h hc (by omega) (fun X Km hK => mq_link h (fun a' X' e' => hK _ X' e' (fun z => absurd z (by decide))) (fun a' b' => absurd a' a) (fun a' b' c' => absurd a' a) (fun a' b' c' => absurd a' a)))
    (fun a b => H 2 2 0 M Z (by decide) h hc (by omega) (fun X Km hK => mq_link h (fun a' => absurd a a') (fun a' b' X' e' => hK _ X' e' (fun z => absurd z (by decide))) (fun a' b' c' => absurd b' b) (fun a' b' c' => absurd b' b)))
    (fun a b c => H 3 3 0 M Z (by decide) h hc (by omega) (fun X Km hK => mq_link h (fun a' => absurd a a') (fun a' b' => absurd b b') (fun a' b' c' X' e' => hK _ X' e' (fun z => absurd z (by decide))) (fun a' b' c' => absurd c' c)))
    (fun a b c M' hM => H 0 0 _ M' (md_link k f t s r Z) (by decide) (md_link_I h c a.1 a.2 b.1 (la_rg b.2.2.1).1 (la_rg b.2.2.1).2 (la_rg b.2.2.2).1 (la_rg b.2.2.2).2) hM (by rw [show (md_link k f t s r Z) 0 = Z 0 from rfl]; omega) (fun X Km hK => mq_link h (fun a' => absurd a a') (fun a' b' => absurd b b') (fun a' b' c' => absurd c c') (fun a' b' c' X' e' => hK _ X' e' (fun _ => rfl))))
theorem la_close (h : mj_Ia Z) (hc : mk_CL Z M) {x y : Int32} : la_op 65 6 102 3 [.int x, .int (md_b y)] [(1, 1), (0, 0)] Z M := by
  intro Kc H
  exact mk_close h hc (md_b_bit y)
    (fun a => H 1 1 0 M Z (by decide) h hc (by omega) (fun X Km hK => mq_close h (fun a' X' e' => hK _ X' e' (fun z => absurd z (by decide))) (fun l' hl' a' => absurd (la_v hl' a' (Nat.le_trans (mj_S_L h.1.1.s) (by decide))) a)))
    (fun l hl a M' hM => H 0 0 _ M' (mj_u Z 16 l (md_b y)) (by decide) (md_flag h (Or.inl ⟨by decide, by decide, md_b_bit y⟩) hl) hM (by rw [show (mj_u Z 16 l (md_b y)) 0 = Z 0 from rfl]; omega) (fun X Km hK => mq_close h (fun a' => absurd (la_v hl a (Nat.le_trans (mj_S_L h.1.1.s) (by decide))) a') (fun l' hl' a' X' e' => by
      have el := la_l hl a hl' a' (Nat.le_trans (mj_S_L h.1.1.s) (by decide))
      subst el
      exact (by have hq := hK _ X' e' (fun _ => rfl); rw [la_bb]; exact hq))))
theorem la_turn (h : mj_Ia Z) (hc : mk_CL Z M) {x : Int32} : la_op 67 6 105 4 [.int x] [(1, 1), (2, 2), (0, 0)] Z M := by
  intro Kc H
  exact mk_turn h hc
    (fun a => H 1 1 0 M Z (by decide) h hc (by omega) (fun X Km hK => mq_turn h (fun a' X' e' => hK _ X' e' (fun z => absurd z (by decide))) (fun l' hl' a' b' => absurd (la_v hl' a' (Nat.le_trans (mj_S_L h.1.1.s) (by decide))) a) (fun l' hl' a' b' => absurd (la_v hl' a' (Nat.le_trans (mj_S_L h.1.1.s) (by decide))) a)))
    (fun l hl a b => H 2 2 0 M Z (by decide) h hc (by omega) (fun X Km hK => mq_turn h (fun a' => absurd (la_v hl a (Nat.le_trans (mj_S_L h.1.1.s) (by decide))) a') (fun l' hl' a' b' X' e' => hK 0 X' e' (fun z => absurd z (by decide))) (fun l' hl' a' b' => absurd ((la_l hl' a' hl a (Nat.le_trans (mj_S_L h.1.1.s) (by decide))) ▸ b') b)))
    (fun l hl a b M' hM => H 0 0 _ M' (mj_u Z 18 l (1 - Z 18 l)) (by decide) (md_flag h (Or.inl ⟨by decide, by decide, la_sub h hl⟩) hl) hM (by rw [show (mj_u Z 18 l (1 - Z 18 l)) 0 = Z 0 from rfl]; omega) (fun X Km hK => mq_turn h (fun a' => absurd (la_v hl a (Nat.le_trans (mj_S_L h.1.1.s) (by decide))) a') (fun l' hl' a' b' => absurd ((la_l hl a hl' a' (Nat.le_trans (mj_S_L h.1.1.s) (by decide))) ▸ b) b') (fun l' hl' a' b' X' e' => by
      have el := la_l hl a hl' a' (Nat.le_trans (mj_S_L h.1.1.s) (by decide))
      subst el
      exact hK _ X' e' (fun _ => rfl))))
theorem la_stop (h : mj_Ia Z) (hc : mk_CL Z M) {x y : Int32} : la_op 68 6 106 4 [.int x, .int (md_b y)] [(1, 1), (2, 2), (0, 0)] Z M := by
  intro Kc H
  exact mk_stop h hc (md_b_bit y)
    (fun a => H 1 1 0 M Z (by decide) h hc (by omega) (fun X Km hK => mq_stop h (fun a' X' e' => hK _ X' e' (fun z => absurd z (by decide))) (fun l' hl' a' b' => absurd (la_v hl' a' (Nat.le_trans (mj_S_L h.1.1.s) (by decide))) a) (fun l' hl' a' b' => absurd (la_v hl' a' (Nat.le_trans (mj_S_L h.1.1.s) (by decide))) a)))
    (fun l hl a b => H 2 2 0 M Z (by decide) h hc (by omega) (fun X Km hK => mq_stop h (fun a' => absurd (la_v hl a (Nat.le_trans (mj_S_L h.1.1.s) (by decide))) a') (fun l' hl' a' b' X' e' => hK 0 X' e' (fun z => absurd z (by decide))) (fun l' hl' a' b' => absurd ((la_l hl' a' hl a (Nat.le_trans (mj_S_L h.1.1.s) (by decide))) ▸ b') b)))
    (fun l hl a b M' hM => H 0 0 _ M' (mj_u Z 19 l (md_b y)) (by decide) (md_flag h (Or.inl ⟨by decide, by decide, md_b_bit y⟩) hl) hM (by rw [show (mj_u Z 19 l (md_b y)) 0 = Z 0 from rfl]; omega) (fun X Km hK => mq_stop h (fun a' => absurd (la_v hl a (Nat.le_trans (mj_S_L h.1.1.s) (by decide))) a') (fun l' hl' a' b' => absurd ((la_l hl a hl' a' (Nat.le_trans (mj_S_L h.1.1.s) (by decide))) ▸ b) b') (fun l' hl' a' b' X' e' => by
      have el := la_l hl a hl' a' (Nat.le_trans (mj_S_L h.1.1.s) (by decide))
      subst el
      exact (by have hq := hK _ X' e' (fun _ => rfl); rw [la_bb]; exact hq))))
theorem la_meter (h : mj_Ia Z) (hc : mk_CL Z M) {x r : Int32} : la_op 69 3 107 3 [.int x, .int r] [(1, 1), (2, 2), (0, 0)] Z M := by
  intro Kc H
  exact mk_meter h hc
    (fun a => H 1 1 0 M Z (by decide) h hc (by omega) (fun X Km hK => mq_meter h (fun a' X' e' => hK _ X' e' (fun z => absurd z (by decide))) (fun a' b' => absurd a' a) (fun l' hl' a' b' => absurd (la_v hl' a' (Nat.le_trans (mj_S_L h.1.1.s) (by decide))) a)))
    (fun a b => H 2 2 0 M Z (by decide) h hc (by omega) (fun X Km hK => mq_meter h (fun a' => absurd a a') (fun a' b' X' e' => hK _ X' e' (fun z => absurd z (by decide))) (fun l' hl' a' b' => absurd b' b)))
    (fun l hl a b M' hM => H 0 0 _ M' (mj_u Z 13 l r) (by decide) (md_flag h (Or.inr ⟨rfl, (la_rg b).1, (la_rg b).2⟩) hl) hM (by rw [show (mj_u Z 13 l r) 0 = Z 0 from rfl]; omega) (fun X Km hK => mq_meter h (fun a' => absurd (la_v hl a (Nat.le_trans (mj_S_L h.1.1.s) (by decide))) a') (fun a' b' => absurd b b') (fun l' hl' a' b' X' e' => by
      have el := la_l hl a hl' a' (Nat.le_trans (mj_S_L h.1.1.s) (by decide))
      subst el
      exact hK _ X' e' (fun _ => rfl))))
theorem la_enter (h : mj_Ia Z) (hc : mk_CL Z M) {s g x3 x4 gr : Int32} : la_op 70 5 119 5 [.int s, .int g, .int x3, .int x4, .int gr] [(1, 1), (2, 2), (3, 3), (0, 0)] Z M := by
  intro Kc H
  exact mk_enter h hc
    (fun a => H 1 1 0 M Z (by decide) h hc (by omega) (fun X Km hK => mq_enter h (fun a' X' e' => hK _ X' e' (fun z => absurd z (by decide))) (fun a' b' => absurd a' a) (fun a' b' c' => absurd a' a) (fun a' b' c' => absurd a' a)))
    (fun a b => H 2 2 0 M Z (by decide) h hc (by omega) (fun X Km hK => mq_enter h (fun a' => absurd a a') (fun a' b' X' e' => hK _ X' e' (fun z => absurd z (by decide))) (fun a' b' c' => absurd b' b) (fun a' b' c' => absurd b' b)))
    (fun a b c => H 3 3 0 M Z (by decide) h hc (by omega) (fun X Km hK => mq_enter h (fun a' => absurd a a') (fun a' b' => absurd b b') (fun a' b' c' X' e' => hK _ X' e' (fun z => absurd z (by decide))) (fun a' b' c' => absurd c' c)))
    (fun a b c M' hM => H 0 0 _ M' (md_add s g (md_b x3) (md_b x4) gr Z) (by decide) (md_add_I h c (mj_vin a.1).1 (mj_vin a.1).2 a.2 (md_b_bit x3) (md_b_bit x4) (Or.inl b.1)) hM (by rw [show (md_add s g (md_b x3) (md_b x4) gr Z) 0 = Z 0 from (by unfold md_add; rw [mj_oA_c _ _ (by decide) (by decide), md_a6_at _ _ _ _ _ _ 0 (by decide) (by decide) (by decide) (by decide) (by decide) (by decide) (by decide) (by decide) (by decide) (by decide)])]; omega) (fun X Km hK => mq_enter h (fun a' => absurd a a') (fun a' b' => absurd b b') (fun a' b' c' => absurd c c') (fun a' b' c' X' e' => hK _ X' e' (fun _ => rfl))))
theorem la_train (h : mj_Ia Z) (hc : mk_CL Z M) {r al g sp st : Int32} : la_op 71 6 122 5 [.int r, .int al, .int g, .int sp, .int st] [(1, 1), (2, 2), (3, 3), (0, 0)] Z M := by
  intro Kc H
  exact mk_train h hc
    (fun a => H 1 1 0 M Z (by decide) h hc (by omega) (fun X Km hK => mq_train h (fun a' X' e' => hK _ X' e' (fun z => absurd z (by decide))) (fun a' b' => absurd a' a) (fun a' b' c' => absurd a' a) (fun a' b' c' => absurd a' a)))
    (fun a b => H 2 2 0 M Z (by decide) h hc (by omega) (fun X Km hK => mq_train h (fun a' => absurd a a') (fun a' b' X' e' => hK _ X' e' (fun z => absurd z (by decide))) (fun a' b' c' => absurd b' b) (fun a' b' c' => absurd b' b)))
    (fun a b c => H 3 3 0 M Z (by decide) h hc (by omega) (fun X Km hK => mq_train h (fun a' => absurd a a') (fun a' b' => absurd b b') (fun a' b' c' X' e' => hK _ X' e' (fun z => absurd z (by decide))) (fun a' b' c' => absurd c' c)))
    (fun a b c M' hM => by
    have hr := mj_vin a.1
    have z2 : Z 2 r.toNatClampNeg = 2 := b.1
    obtain ⟨i1, i2, i3, i4, i5⟩ := md_als_k (w := al.toNatClampNeg) h hr.2 z2 a.2 b.2.1 (md_its Z r.toNatClampNeg al.toNatClampNeg) (Nat.le_refl _)
    rw [← hr.1] at i1 i2 i3 i4 i5
    have q28 : mj_nt (md_als r g (md_its Z r.toNatClampNeg al.toNatClampNeg) Z) = mj_nt Z := by unfold mj_nt; rw [i5 28 (by omega)]
    have q1 : mj_nr (md_als r g (md_its Z r.toNatClampNeg al.toNatClampNeg) Z) = mj_nr Z := by unfold mj_nr; rw [i5 1 (by omega)]
    have q0 : md_als r g (md_its Z r.toNatClampNeg al.toNatClampNeg) Z 0 = Z 0 := i5 0 (by omega)
    exact H 0 0 _ M' _ (by decide) (md_train_I i1 (by rw [q28]; exact c.1) (by rw [q1]; exact a.1) (la_rg b.2.2.2.1).1 (la_rg b.2.2.2.1).2) hM (by show (md_als r g (md_its Z r.toNatClampNeg al.toNatClampNeg) Z 0 5).toInt ≤ _; rw [q0]; omega) (fun X Km hK => mq_train h (fun a' => absurd a a') (fun a' b' => absurd b b') (fun a' b' c' => absurd c c') (fun a' b' c' X' e' => hK _ X' e' (fun _ => rfl))))
theorem la_pass (h : mj_Ia Z) (hb : (Z 0 5).toInt + 60 ≤ 1000000) (hc : mk_CL Z M) {s : Int32} : la_op 73 7 135 6 [.int s] [(2, 1), (0, 0)] Z M := by
  intro Kc H
  exact mk_pass h hb hc
    (fun a => H 2 1 0 M Z (by decide) h hc (by omega) (fun X Km hK => mq_pass h hb (fun a' X' e' => hK _ X' e' (fun z => absurd z (by decide))) (fun a' => absurd a' a)))
    (fun a M' hM => by
    obtain ⟨e1, -, e2⟩ := md_rgn a (by decide) (by decide)
    have i60 : (60 : Int32).toInt = 60 := by decide
    rw [i60] at e2
    obtain ⟨i1, i2, i3⟩ := mj_secs_I h (n := s.toNatClampNeg) (by omega) s.toNatClampNeg (Nat.le_refl _)
    exact H 0 0 _ M' (md_ss s.toNatClampNeg Z) (by decide) i1 hM (by show (mj_lo (fun _ => mj_sec) s.toNatClampNeg Z 0 5).toInt ≤ _; omega) (fun X Km hK => mq_pass h hb (fun a' => absurd a a') (fun a' X' e' => hK _ X' e' (fun _ => rfl))))
theorem la_ofRoom (h : mj_Ia Z) (hc : mk_CL Z M) {x w : Int32} : la_op 75 3 137 3 [.int x, .int w] [(1, 1), (2, 2), (0, 0)] Z M := by
  intro Kc H
  exact mk_ofRoom h hc
    (fun a => H 1 1 0 M Z (by decide) h hc (by omega) (fun X Km hK => mq_ofRoom h (fun a' X' e' => hK _ X' e' (fun z => absurd z (by decide))) (fun a' b' => absurd a' a) (fun l' hl' a' b' => absurd (la_v hl' a' (Nat.le_trans (mj_S_R h.1.1.s) (by decide))) a)))
    (fun a b => H 2 2 0 M Z (by decide) h hc (by omega) (fun X Km hK => mq_ofRoom h (fun a' => absurd a a') (fun a' b' X' e' => hK _ X' e' (fun z => absurd z (by decide))) (fun l' hl' a' b' => absurd b' b)))
    (fun l hl a b => H 0 0 _ M Z (by decide) h hc (by omega) (fun X Km hK => mq_ofRoom h (fun a' => absurd (la_v hl a (Nat.le_trans (mj_S_R h.1.1.s) (by decide))) a') (fun a' b' => absurd b b') (fun l' hl' a' b' X' e' => by
      have el := la_l hl a hl' a' (Nat.le_trans (mj_S_R h.1.1.s) (by decide))
      subst el
      exact hK _ X' e' (fun _ => rfl))))
theorem la_ofLink (h : mj_Ia Z) (hc : mk_CL Z M) {x w : Int32} : la_op 76 5 138 5 [.int x, .int w] [(1, 1), (2, 2), (0, 0)] Z M := by
  intro Kc H
  exact mk_ofLink h hc
    (fun a => H 1 1 0 M Z (by decide) h hc (by omega) (fun X Km hK => mq_ofLink h (fun a' X' e' => hK _ X' e' (fun z => absurd z (by decide))) (fun a' b' => absurd a' a) (fun l' hl' a' b' => absurd (la_v hl' a' (Nat.le_trans (mj_S_L h.1.1.s) (by decide))) a)))
    (fun a b => H 2 2 0 M Z (by decide) h hc (by omega) (fun X Km hK => mq_ofLink h (fun a' => absurd a a') (fun a' b' X' e' => hK _ X' e' (fun z => absurd z (by decide))) (fun l' hl' a' b' => absurd b' b)))
    (fun l hl a b => H 0 0 _ M Z (by decide) h hc (by omega) (fun X Km hK => mq_ofLink h (fun a' => absurd (la_v hl a (Nat.le_trans (mj_S_L h.1.1.s) (by decide))) a') (fun a' b' => absurd b b') (fun l' hl' a' b' X' e' => by
      have el := la_l hl a hl' a' (Nat.le_trans (mj_S_L h.1.1.s) (by decide))
      subst el
      exact hK _ X' e' (fun _ => rfl))))
theorem la_person (h : mj_Ia Z) (hc : mk_CL Z M) {x w : Int32} : la_op 77 4 139 5 [.int x, .int w] [(1, 1), (2, 2), (0, 0)] Z M := by
  intro Kc H
  exact mk_person h hc
    (fun a => H 1 1 0 M Z (by decide) h hc (by omega) (fun X Km hK => mq_person h (fun a' X' e' => hK _ X' e' (fun z => absurd z (by decide))) (fun a' b' => absurd a' a) (fun l' hl' a' b' => absurd (la_v hl' a' (Nat.le_trans (mj_S_P h.1.1.s).1 (by decide))) a)))
    (fun a b => H 2 2 0 M Z (by decide) h hc (by omega) (fun X Km hK => mq_person h (fun a' => absurd a a') (fun a' b' X' e' => hK _ X' e' (fun z => absurd z (by decide))) (fun l' hl' a' b' => absurd b' b)))
    (fun l hl a b => H 0 0 _ M Z (by decide) h hc (by omega) (fun X Km hK => mq_person h (fun a' => absurd (la_v hl a (Nat.le_trans (mj_S_P h.1.1.s).1 (by decide))) a') (fun a' b' => absurd b b') (fun l' hl' a' b' X' e' => by
      have el := la_l hl a hl' a' (Nat.le_trans (mj_S_P h.1.1.s).1 (by decide))
      subst el
      exact hK _ X' e' (fun _ => rfl))))
theorem la_ofTrain (h : mj_Ia Z) (hc : mk_CL Z M) {x w : Int32} : la_op 78 3 140 2 [.int x, .int w] [(1, 1), (2, 2), (0, 0)] Z M := by
  intro Kc H
  exact mk_ofTrain h hc
    (fun a => H 1 1 0 M Z (by decide) h hc (by omega) (fun X Km hK => mq_ofTrain h (fun a' X' e' => hK _ X' e' (fun z => absurd z (by decide))) (fun a' b' => absurd a' a) (fun l' hl' a' b' => absurd (la_v hl' a' (Nat.le_trans (mj_S_T h.1.1.s).1 (by decide))) a)))
    (fun a b => H 2 2 0 M Z (by decide) h hc (by omega) (fun X Km hK => mq_ofTrain h (fun a' => absurd a a') (fun a' b' X' e' => hK _ X' e' (fun z => absurd z (by decide))) (fun l' hl' a' b' => absurd b' b)))
    (fun l hl a b => H 0 0 _ M Z (by decide) h hc (by omega) (fun X Km hK => mq_ofTrain h (fun a' => absurd (la_v hl a (Nat.le_trans (mj_S_T h.1.1.s).1 (by decide))) a') (fun a' b' => absurd b b') (fun l' hl' a' b' X' e' => by
      have el := la_l hl a hl' a' (Nat.le_trans (mj_S_T h.1.1.s).1 (by decide))
      subst el
      exact hK _ X' e' (fun _ => rfl))))
theorem la_fore (h : mj_Ia Z) (hb : (Z 0 5).toInt + 60 ≤ 1000000) (hc : mk_CL Z M) {x s : Int32} : la_op 79 7 142 6 [.int x, .int s] [(1, 1), (2, 2), (0, 0)] Z M := by
  intro Kc H
  exact mk_fore h hb hc
    (fun a => H 1 1 0 M Z (by decide) h hc (by omega) (fun X Km hK => mq_fore h hb (fun a' X' e' => hK _ X' e' (fun z => absurd z (by decide))) (fun a' b' => absurd a' a) (fun l' hl' a' b' => absurd (la_v hl' a' (Nat.le_trans (mj_S_R h.1.1.s) (by decide))) a)))
    (fun a b => H 2 2 0 M Z (by decide) h hc (by omega) (fun X Km hK => mq_fore h hb (fun a' => absurd a a') (fun a' b' X' e' => hK _ X' e' (fun z => absurd z (by decide))) (fun l' hl' a' b' => absurd b' b)))
    (fun l hl a b M' hM => H 0 0 _ M' Z (by decide) h hM (by omega) (fun X Km hK => mq_fore h hb (fun a' => absurd (la_v hl a (Nat.le_trans (mj_S_R h.1.1.s) (by decide))) a') (fun a' b' => absurd b b') (fun l' hl' a' b' X' e' => by
      have el := la_l hl a hl' a' (Nat.le_trans (mj_S_R h.1.1.s) (by decide))
      subst el
      exact hK _ X' e' (fun _ => rfl))))
theorem la_alone (h : mj_Ia Z) (hc : mk_CL Z M) {x : Int32} : la_op 81 4 145 4 [.int x] [(1, 1), (0, 0)] Z M := by
  intro Kc H
  exact mk_alone h hc
    (fun a => H 1 1 0 M Z (by decide) h hc (by omega) (fun X Km hK => mq_alone h (fun a' X' e' => hK _ X' e' (fun z => absurd z (by decide))) (fun l' hl' a' => absurd (la_v hl' a' (Nat.le_trans (mj_S_P h.1.1.s).1 (by decide))) a)))
    (fun l hl a => H 0 0 _ M Z (by decide) h hc (by omega) (fun X Km hK => mq_alone h (fun a' => absurd (la_v hl a (Nat.le_trans (mj_S_P h.1.1.s).1 (by decide))) a') (fun l' hl' a' X' e' => by
      have el := la_l hl a hl' a' (Nat.le_trans (mj_S_P h.1.1.s).1 (by decide))
      subst el
      exact hK _ X' e' (fun _ => rfl))))
theorem la_aloneA (h : mj_Ia Z) (hc : mk_CL Z M) {x : Int32} : la_op 82 16 146 5 [.int x] [(1, 1), (0, 0)] Z M := by
  intro Kc H
  exact mk_aloneA h hc
    (fun a => H 1 1 0 M Z (by decide) h hc (by omega) (fun X Km hK => mq_aloneA h (fun a' X' e' => hK _ X' e' (fun z => absurd z (by decide))) (fun l' hl' a' => absurd (la_v hl' a' (Nat.le_trans (mj_S_P h.1.1.s).1 (by decide))) a)))
    (fun l hl a => H 0 0 _ M Z (by decide) h hc (by omega) (fun X Km hK => mq_aloneA h (fun a' => absurd (la_v hl a (Nat.le_trans (mj_S_P h.1.1.s).1 (by decide))) a') (fun l' hl' a' X' e' => by
      have el := la_l hl a hl' a' (Nat.le_trans (mj_S_P h.1.1.s).1 (by decide))
      subst el
      exact hK _ X' e' (fun _ => rfl))))
theorem la_direct_ann (h : mj_Ia Z) (hc : mk_CL Z M) : la_op 66 6 103 2 [] [(0, 0)] Z M := by
  intro Kc H
  exact mk_ann h hc (fun M' hM => H 0 0 _ M' (md_ann Z) (by decide) (md_ann_k h (mj_nl Z) (Nat.le_refl _)).1 hM (by rw [la_ann h]; omega) (fun X Km hK => mq_ann h (fun X' e => hK _ X' e (fun _ => rfl))))
theorem la_direct_clear (h : mj_Ia Z) (hc : mk_CL Z M) : la_op 72 7 124 5 [] [(0, 0)] Z M := by
  intro Kc H
  obtain ⟨i1, i2, i3, i4⟩ := md_on_I h (mj_np Z) (Nat.le_refl _)
  exact mk_clear h hc (fun M' hM => H 0 0 _ M' (md_ord Z) (by decide) i1 hM (by show (md_on Z (mj_np Z) 0 5).toInt ≤ _; rw [i4]; omega) (fun X Km hK => mq_clear h (fun X' e => hK _ X' e (fun _ => rfl))))
theorem la_direct_now (h : mj_Ia Z) (hc : mk_CL Z M) : la_op 74 1 136 1 [] [(0, 0)] Z M := by
  intro Kc H
  exact mk_now hc (H 0 0 _ M Z (by decide) h hc (by omega) (fun X Km hK => mq_now (fun X' e => hK _ X' e (fun _ => rfl))))
theorem la_direct_clears (h : mj_Ia Z) (hb : (Z 0 5).toInt + 100 ≤ 1000000) (hc : mk_CL Z M) : la_op 80 7 144 6 [] [(0, 0)] Z M := by
  intro Kc H
  exact mk_clears h hb hc (fun v hv M' hM => H 0 0 v M' Z (by decide) h hM (by omega) (fun X Km hK => mq_clears h hb (fun v' hv' X' e => hK _ X' e (fun _ => md_csv_u hv' hv))))
end LAA
