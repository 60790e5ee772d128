-- CRUSHLOAD'S METHODS, A
section CLA
variable {Z M : mj_M} {K : mj_K} {p t l : Nat}
/-- what the station foretold keeps between calls -/
def mk_FZ (Z M : mj_M) : Prop := ∀ c i, mj_has c = true → c ≠ 40 → mj_lim (mj_np Z) c ≤ i → M (41 + c) i = 0
/-- the class's memory tells of the state Z -/
def mk_CL (Z M : mj_M) : Prop := (∃ Y, mj_v M 1 = mj_cc Z Y ∧ mj_wt Z (Y 36) (Y 37)) ∧ mk_FZ Z M
theorem mk_der {q : Nat} (h : 40 ≤ q) : mj_der q = true := by
  have h1 : mj_same q = false := by
    unfold mj_same
    simp only [Bool.or_eq_false_iff, Bool.and_eq_false_iff, decide_eq_false_iff_not]
    omega
  unfold mj_der
  rw [h1]
  simp only [Bool.not_false, Bool.true_and, Bool.and_eq_true, Bool.not_eq_true', beq_eq_false_iff_ne]
  omega
theorem mk_win (M Z Y : mj_M) : mj_v (mj_mg M 1 40 (mj_cc Z Y)) 1 = mj_cc Z (fun q => if q < 40 then Y q else M (1 + q)) := by
  funext q
  by_cases e : q < 40
  · rw [mj_v_mg _ _ _ _ e]
    exact mj_cc_ne (fun _ => rfl) (fun _ _ => ⟨rfl, rfl⟩) (fun _ => rfl) (fun _ => rfl) (fun _ => ⟨rfl, rfl⟩) (fun _ => rfl) (fun _ => rfl) (if_pos e).symm
  · rw [mj_cc_der _ _ (mk_der (by omega)), if_neg e]
    show mj_mg M 1 40 (mj_cc Z Y) (1 + q) = _
    rw [mj_mg_out _ _ _ _ (by omega)]
theorem mk_FZ_mg {W : mj_M} (h : mk_FZ Z M) : mk_FZ Z (mj_mg M 1 40 W) := by
  intro c i h1 h2 h3
  rw [mj_mg_out _ _ _ _ (by omega)]
  exact h c i h1 h2 h3
theorem mk_FZ_u {c i : Nat} {v : Int32} (h : mk_FZ Z M) (hc : c ≤ 40) : mk_FZ Z (mj_u M c i v) := by
  intro c' i' h1 h2 h3
  rw [mj_u_ne _ _ _ (by omega)]
  exact h c' i' h1 h2 h3
theorem mk_lim {n m c : Nat} (h : n ≤ m) : mj_lim n c ≤ mj_lim m c := by
  unfold mj_lim
  repeat' split
  all_goals omega
theorem mk_FZ_np {Z' : mj_M} (h : mk_FZ Z M) (hn : mj_np Z ≤ mj_np Z') : mk_FZ Z' M := by
  intro c i h1 h2 h3
  have := mk_lim (c := c) hn
  exact h c i h1 h2 (by omega)
theorem mk_CL_w {Z' Y : mj_M} (hf : mk_FZ Z M) (hn : mj_np Z ≤ mj_np Z') (hw : mj_wt Z' (Y 36) (Y 37)) : mk_CL Z' (mj_mg M 1 40 (mj_cc Z' Y)) := by
  refine ⟨⟨_, mk_win M Z' Y, ?_⟩, mk_FZ_np (mk_FZ_mg hf) hn⟩
  show mj_wt Z' (if 36 < 40 then Y 36 else M (1 + 36)) (if 37 < 40 then Y 37 else M (1 + 37))
  rw [if_pos (by decide), if_pos (by decide)]
  exact hw
theorem mk_vu (M : mj_M) (c i : Nat) (v : Int32) : mj_v (mj_u M (1 + c) i v) 1 = mj_u (mj_v M 1) c i v := by
  funext q j
  show mj_u M (1 + c) i v (1 + q) j = mj_u (mj_v M 1) c i v q j
  rw [mj_u_at, mj_u_at]
  by_cases e : q = c ∧ j = i
  · rw [if_pos e, if_pos ⟨by omega, e.2⟩]
  · rw [if_neg e, if_neg (fun z => e ⟨by omega, z.2⟩)]
    rfl
theorem mk_at {Y : mj_M} (hv : mj_v M 1 = mj_cc Z Y) (c i : Nat) : M (1 + c) i = mj_cc Z Y c i := congrFun (congrFun hv c) i
-- what is asked of arguments
theorem sp83 {x a b : Int32} (h0 : md_rg x a b → K 0 0 M) (h1 : ¬ md_rg x a b → K 2 0 M) : mj_Cm 83 1 [.int x, .int a, .int b] M K := by
  refine e83 ⟨fun c => h1 (fun z => z.1 c), fun c => ⟨fun c2 => h0 ⟨c, fun z => ?_⟩, fun c2 => h1 (fun z => ?_)⟩⟩
  · rw [mj_le] at c2
    rw [mj_lt] at z
    omega
  · have := z.2
    rw [mj_lt] at this
    rw [mj_le] at c2
    omega
theorem sp84 {x : Int32} (h0 : ¬ x = 0 → K 0 0 M) (h1 : x = 0 → K 2 0 M) : mj_Cm 84 1 [.int x] M K := e84 ⟨h0, h1⟩
theorem sp85 {x : Int32} (h0 : ¬ x = 0 → K 0 0 M) (h1 : x = 0 → K 3 0 M) : mj_Cm 85 1 [.int x] M K := e85 ⟨h0, h1⟩
theorem mk_iN {x c : Int32} (h0 : 0 ≤ c.toInt) : (¬ x < 0 ∧ ¬ c ≤ x) ↔ vp_in x c.toNatClampNeg := by
  rw [mj_vi, mj_lt, mj_le, md_0I, mj_clN]
  omega
theorem mk_p0 {Y : mj_M} (h : mj_S Z) (x : Int32) : p0 (mj_cc Z Y) x ↔ vp_in x (mj_nr Z) := mk_iN h.1.1.1
theorem mk_p7 {Y : mj_M} (h : mj_S Z) (x : Int32) : p7 (mj_cc Z Y) x ↔ vp_in x (mj_nl Z) := mk_iN h.1.2.1.1
theorem mk_p18 {Y : mj_M} (h : mj_S Z) (x : Int32) : p18 (mj_cc Z Y) x ↔ vp_in x (mj_np Z) := mk_iN h.2.1.1
theorem mk_p27 {Y : mj_M} (h : mj_S Z) (x : Int32) : p27 (mj_cc Z Y) x ↔ vp_in x (mj_nt Z) := mk_iN h.2.2.1.1
theorem mk_86 (h : mj_Ia Z) (hc : mk_CL Z M) {x : Int32} (h0 : vp_in x (mj_nr Z) → K 0 0 M) (h1 : ¬ vp_in x (mj_nr Z) → K 1 0 M) : mj_Cm 86 2 [.ref 0, .int x] M K := by
  obtain ⟨⟨Y, hv, hw⟩, hf⟩ := hc
  refine e86 ?_
  rw [hv]
  exact ⟨fun c => h0 ((mk_p0 h.1.1.s x).mp c), fun c => h1 (fun z => c ((mk_p0 h.1.1.s x).mpr z))⟩
theorem mk_87 (h : mj_Ia Z) (hc : mk_CL Z M) {x : Int32} (h0 : vp_in x (mj_nl Z) → K 0 0 M) (h1 : ¬ vp_in x (mj_nl Z) → K 1 0 M) : mj_Cm 87 2 [.ref 0, .int x] M K := by
  obtain ⟨⟨Y, hv, hw⟩, hf⟩ := hc
  refine e87 ?_
  rw [hv]
  exact ⟨fun c => h0 ((mk_p7 h.1.1.s x).mp c), fun c => h1 (fun z => c ((mk_p7 h.1.1.s x).mpr z))⟩
theorem mk_88 (h : mj_Ia Z) (hc : mk_CL Z M) {x : Int32} (h0 : vp_in x (mj_np Z) → K 0 0 M) (h1 : ¬ vp_in x (mj_np Z) → K 1 0 M) : mj_Cm 88 2 [.ref 0, .int x] M K := by
  obtain ⟨⟨Y, hv, hw⟩, hf⟩ := hc
  refine e88 ?_
  rw [hv]
  exact ⟨fun c => h0 ((mk_p18 h.1.1.s x).mp c), fun c => h1 (fun z => c ((mk_p18 h.1.1.s x).mpr z))⟩
theorem mk_89 (h : mj_Ia Z) (hc : mk_CL Z M) {x : Int32} (h0 : vp_in x (mj_nt Z) → K 0 0 M) (h1 : ¬ vp_in x (mj_nt Z) → K 1 0 M) : mj_Cm 89 2 [.ref 0, .int x] M K := by
  obtain ⟨⟨Y, hv, hw⟩, hf⟩ := hc
  refine e89 ?_
  rw [hv]
  exact ⟨fun c => h0 ((mk_p27 h.1.1.s x).mp c), fun c => h1 (fun z => c ((mk_p27 h.1.1.s x).mpr z))⟩
-- rooms, links
theorem mk_room (h : mj_Ia Z) (hc : mk_CL Z M) {k lim : Int32} (k2 : ¬ md_fk k lim → K 2 0 M) (k3 : md_fk k lim → ¬ mj_nr Z < 10 → K 3 0 M) (k0 : md_fk k lim → mj_nr Z < 10 → ∀ M', mk_CL (md_room k lim Z) M' → K 0 (nI (mj_nr Z)) M') : mj_Cm 63 6 [.ref 0, .int k, .int lim] M K := by
  obtain ⟨⟨Y, hv, hw⟩, hf⟩ := hc
  have eR : Z 1 0 = nI (mj_nr Z) := mj_toN h.1.1.s.1.1.1
  have hR := mj_S_R h.1.1.s
  have r20 : M 2 0 = nI (mj_nr Z) := (mk_at hv 1 0).trans eR
  refine e63 (sp83 (fun c1 => t63_6 (sp83 (fun c2 => t63_13 ?_) (fun c2 => k2 (fun z => c2 z.2)))) (fun c1 => k2 (fun z => c1 z.1)))
  rw [r20]
  refine ⟨fun c => sp85 (fun z => absurd rfl z) (fun _ => k3 ⟨c1, c2⟩ (fun z => nI_ge z (by decide) c)), fun c => sp85 (fun _ => ?_) (fun z => absurd z (by decide))⟩
  have hn : mj_nr Z < 10 := by
    rcases Nat.lt_or_ge (mj_nr Z) 10 with q | q
    · exact q
    · exact absurd (nI_le (a := 10) q (by omega)) c
  refine t63_36 ?_
  rw [hv]
  have r10 : mj_cc Z Y 1 0 = nI (mj_nr Z) := eR
  refine e1 ⟨fun _ => ⟨by rw [r10]; exact vp_in_nI hn (by decide), ?_⟩, fun c => absurd (by rw [r10]; exact nI_lt hn (by decide)) c⟩
  have e : mj_u (mj_u (mj_u (mj_cc Z Y) 2 (mj_cc Z Y 1 0).toNatClampNeg k) 3 (mj_cc Z Y 1 0).toNatClampNeg lim) 1 0 (mj_cc Z Y 1 0 + 1) = mj_cc (md_room k lim Z) Y := by
    rw [mj_cc_w rfl, mj_cc_w rfl, mj_cc_ws (Or.inr (Or.inl ⟨rfl, rfl⟩))]
    rfl
  rw [e]
  refine t63_48 ?_
  rw [mk_win]
  have l1 := md_rgn c2 (by decide) (by decide)
  have i60 : (60 : Int32).toInt = 60 := by decide
  have g1 := c2.1
  have g2 := c2.2
  rw [mj_lt, md_1I] at g1
  rw [mj_lt, i60] at g2
  have hI := md_room_I (k := k) h hn (show 1 ≤ lim.toInt by omega) (by omega)
  refine sp42 hI.1.1.s.1 (fun Y' y1 y2 => t63_56 ?_)
  rw [r10]
  exact k0 ⟨c1, c2⟩ hn _ (mk_CL_w (mk_FZ_mg hf) (Nat.le_refl _) y2)
theorem mk_link (h : mj_Ia Z) (hc : mk_CL Z M) {k f t s r : Int32} (k1 : ¬ (vp_in f (mj_nr Z) ∧ vp_in t (mj_nr Z)) → K 1 0 M) (k2 : vp_in f (mj_nr Z) ∧ vp_in t (mj_nr Z) → ¬ md_fl k f t s r → K 2 0 M) (k3 : vp_in f (mj_nr Z) ∧ vp_in t (mj_nr Z) → md_fl k f t s r → ¬ mj_nl Z < 14 → K 3 0 M) (k0 : vp_in f (mj_nr Z) ∧ vp_in t (mj_nr Z) → md_fl k f t s r → mj_nl Z < 14 → ∀ M', mk_CL (md_link k f t s r Z) M' → K 0 (nI (mj_nl Z)) M') : mj_Cm 64 6 [.ref 0, .int k, .int f, .int t, .int s, .int r] M K := by
  have hc0 := hc
  obtain ⟨⟨Y, hv, hw⟩, hf⟩ := hc
  have eL : Z 8 0 = nI (mj_nl Z) := mj_toN h.1.1.s.1.2.1.1
  have hL := mj_S_L h.1.1.s
  have r90 : M 9 0 = nI (mj_nl Z) := (mk_at hv 8 0).trans eL
  refine e64 (mk_86 h hc0 (fun a1 => t64_5 (mk_86 h hc0 (fun a2 => t64_10 ?_) (fun c => k1 (fun z => c z.2)))) (fun c => k1 (fun z => c z.1)))
  refine ⟨fun c => sp84 (fun z => absurd rfl z) (fun _ => k2 ⟨a1, a2⟩ (fun z => z.1 c)), fun d1 => sp84 (fun _ => t64_23 (sp83 (fun d2 => t64_29 (sp83 (fun d3 => t64_36 (sp83 (fun d4 => t64_44 ?_) (fun c => k2 ⟨a1, a2⟩ (fun z => c z.2.2.2)))) (fun c => k2 ⟨a1, a2⟩ (fun z => c z.2.2.1)))) (fun c => k2 ⟨a1, a2⟩ (fun z => c z.2.1)))) (fun z => absurd z (by decide))⟩
  rw [r90]
  refine ⟨fun c => sp85 (fun z => absurd rfl z) (fun _ => k3 ⟨a1, a2⟩ ⟨d1, d2, d3, d4⟩ (fun z => nI_ge z (by decide) c)), fun c => sp85 (fun _ => ?_) (fun z => absurd z (by decide))⟩
  have hn : mj_nl Z < 14 := by
    rcases Nat.lt_or_ge (mj_nl Z) 14 with q | q
    · exact q
    · exact absurd (nI_le (a := 14) q (by omega)) c
  refine t64_67 ?_
  rw [hv]
  have r80 : mj_cc Z Y 8 0 = nI (mj_nl Z) := eL
  refine e8 ⟨fun _ => ⟨by rw [r80]; exact vp_in_nI hn (by decide), ?_⟩, fun c => absurd (by rw [r80]; exact nI_lt hn (by decide)) c⟩
  have e : mj_u (mj_u (mj_u (mj_u (mj_u (mj_u (mj_cc Z Y) 9 (mj_cc Z Y 8 0).toNatClampNeg k) 10 (mj_cc Z Y 8 0).toNatClampNeg f) 11 (mj_cc Z Y 8 0).toNatClampNeg t) 12 (mj_cc Z Y 8 0).toNatClampNeg s) 13 (mj_cc Z Y 8 0).toNatClampNeg r) 8 0 (mj_cc Z Y 8 0 + 1) = mj_cc (md_link k f t s r Z) Y := by
    rw [mj_cc_w rfl, mj_cc_w rfl, mj_cc_w rfl, mj_cc_w rfl, mj_cc_w rfl, mj_cc_ws (Or.inr (Or.inr (Or.inl ⟨rfl, rfl⟩)))]
    rfl
  rw [e]
  refine t64_84 ?_
  rw [mk_win]
  have i5 : (5 : Int32).toInt = 5 := by decide
  have i9 : (9 : Int32).toInt = 9 := by decide
  have g1 := d3.1
  have g2 := d3.2
  have g3 := d4.1
  have g4 := d4.2
  rw [mj_lt, md_1I] at g1
  rw [mj_lt, i5] at g2
  rw [mj_lt, md_0I] at g3
  rw [mj_lt, i9] at g4
  have hI := md_link_I (k := k) h hn a1 a2 d1 (show 1 ≤ s.toInt by omega) (by omega) (show 0 ≤ r.toInt by omega) (by omega)
  refine sp42 hI.1.1.s.1 (fun Y' y1 y2 => t64_93 ?_)
  rw [r80]
  exact k0 ⟨a1, a2⟩ ⟨d1, d2, d3, d4⟩ hn _ (mk_CL_w (mk_FZ_mg hf) (Nat.le_refl _) y2)
theorem mk_nb {x : Int32} (h : mj_bit x) : mj_nb x = x := by
  rcases h with z | z <;> rw [z]
  · exact mj_nb0
  · exact mj_nb1
/-- a mark of a link is set, and the ways are found anew -/
theorem mk_mark (h : mj_Ia Z) (hc : mk_CL Z M) {c l : Nat} {v : Int32} (h1 : 16 ≤ c ∧ c ≤ 19) (hb : mj_bit v) (hl : l < mj_nl Z) (hs : mj_same c = true) {KK : mj_K} (hK : ∀ W, mk_CL (mj_u Z c l v) (mj_mg (mj_u M (1 + c) l v) 1 40 W) → KK 0 0 W) : mj_Cm 42 5 [.ref 0] (mj_v (mj_u M (1 + c) l v) 1) KK := by
  obtain ⟨⟨Y, hv, hw⟩, hf⟩ := hc
  have hI := md_flag h (Or.inl ⟨h1.1, h1.2, hb⟩) hl
  rw [mk_vu, hv, mj_cc_w hs]
  refine sp42 hI.1.1.s.1 (fun Y' y1 y2 => hK _ ?_)
  have hn : mj_np (mj_u Z c l v) = mj_np Z := by
    unfold mj_np
    rw [mj_u_ne _ _ _ (by omega)]
  exact mk_CL_w (mk_FZ_u hf (by omega)) (by omega) y2
theorem mk_close (h : mj_Ia Z) (hc : mk_CL Z M) {x b : Int32} (hb : mj_bit b) (k1 : ¬ vp_in x (mj_nl Z) → K 1 0 M) (k0 : ∀ l, l < mj_nl Z → x = nI l → ∀ M', mk_CL (mj_u Z 16 l b) M' → K 0 (Z 16 l) M') : mj_Cm 65 6 [.ref 0, .int x, .int b] M K := by
  refine e65 (mk_87 h hc (fun c => t65_5 ⟨mj_vmono c (mj_S_L h.1.1.s), ?_⟩) k1)
  obtain ⟨e, hl⟩ := mj_vin c
  have hv := hc.1
  obtain ⟨Y, hv, -⟩ := hv
  have r17 : M 17 x.toNatClampNeg = Z 16 x.toNatClampNeg := mk_at hv 16 _
  have b16 := (h.1.1.s.2.2.2.2.2.1 _ hl).1
  rw [mk_nb hb]
  refine mk_mark h hc (c := 16) ⟨by omega, by omega⟩ hb hl rfl (fun W hW => t65_38 ?_)
  rw [r17, mk_nb b16]
  exact k0 _ hl e _ hW
theorem mk_stop (h : mj_Ia Z) (hc : mk_CL Z M) {x b : Int32} (hb : mj_bit b) (k1 : ¬ vp_in x (mj_nl Z) → K 1 0 M) (k2 : ∀ l, l < mj_nl Z → x = nI l → ¬ Z 9 l = 3 → K 2 0 M) (k0 : ∀ l, l < mj_nl Z → x = nI l → Z 9 l = 3 → ∀ M', mk_CL (mj_u Z 19 l b) M' → K 0 (Z 19 l) M') : mj_Cm 68 6 [.ref 0, .int x, .int b] M K := by
  refine e68 (mk_87 h hc (fun c => t68_5 ⟨mj_vmono c (mj_S_L h.1.1.s), ?_⟩) k1)
  obtain ⟨e, hl⟩ := mj_vin c
  have hv := hc.1
  obtain ⟨Y, hv, -⟩ := hv
  have r10 : M 10 x.toNatClampNeg = Z 9 x.toNatClampNeg := mk_at hv 9 _
  have r20 : M 20 x.toNatClampNeg = Z 19 x.toNatClampNeg := mk_at hv 19 _
  have b19 := (h.1.1.s.2.2.2.2.2.1 _ hl).2.2.2.1
  rw [r10]
  refine ⟨fun c2 => sp84 (fun z => absurd rfl z) (fun _ => k2 _ hl e c2), fun c2 => sp84 (fun _ => t68_29 ⟨mj_vmono c (mj_S_L h.1.1.s), ?_⟩) (fun z => absurd z (by decide))⟩
  rw [mk_nb hb]
  refine mk_mark h hc (c := 19) ⟨by omega, by omega⟩ hb hl rfl (fun W hW => t68_62 ?_)
  rw [r20, mk_nb b19]
  exact k0 _ hl e c2 _ hW
theorem mk_turn (h : mj_Ia Z) (hc : mk_CL Z M) {x : Int32} (k1 : ¬ vp_in x (mj_nl Z) → K 1 0 M) (k2 : ∀ l, l < mj_nl Z → x = nI l → ¬ Z 9 l = 3 → K 2 0 M) (k0 : ∀ l, l < mj_nl Z → x = nI l → Z 9 l = 3 → ∀ M', mk_CL (mj_u Z 18 l (1 - Z 18 l)) M' → K 0 (1 - Z 18 l) M') : mj_Cm 67 6 [.ref 0, .int x] M K := by
  refine e67 (mk_87 h hc (fun c => t67_5 ⟨mj_vmono c (mj_S_L h.1.1.s), ?_⟩) k1)
  obtain ⟨e, hl⟩ := mj_vin c
  have hv := hc.1
  obtain ⟨Y, hv, -⟩ := hv
  have r10 : M 10 x.toNatClampNeg = Z 9 x.toNatClampNeg := mk_at hv 9 _
  have r19 : M 19 x.toNatClampNeg = Z 18 x.toNatClampNeg := mk_at hv 18 _
  have b18 := (h.1.1.s.2.2.2.2.2.1 _ hl).2.2.1
  rw [r10]
  refine ⟨fun c2 => sp84 (fun z => absurd rfl z) (fun _ => k2 _ hl e c2), fun c2 => sp84 (fun _ => t67_29 ⟨mj_vmono c (mj_S_L h.1.1.s), ?_⟩) (fun z => absurd z (by decide))⟩
  have k := k0 _ hl e c2
  rw [r19, mj_nb0, mj_nb1]
  refine ⟨fun c3 => ?_, fun c3 => ?_⟩
  · have z : Z 18 x.toNatClampNeg = 1 := (mj_bit1 b18).mpr c3
    rw [z] at k
    refine mk_mark h hc (c := 18) ⟨by omega, by omega⟩ (Or.inl rfl) hl rfl (fun W hW => t67_70 ?_)
    rw [mj_nb0]
    exact k _ hW
  · rw [c3] at k
    refine mk_mark h hc (c := 18) ⟨by omega, by omega⟩ (Or.inr rfl) hl rfl (fun W hW => t67_70 ?_)
    rw [mj_nb1]
    exact k _ hW
theorem mk_ann (h : mj_Ia Z) (hc : mk_CL Z M) (k0 : ∀ M', mk_CL (md_ann Z) M' → K 0 (nI (mj_cb (fun l => decide (¬ Z 16 l = 0)) (mj_nl Z))) M') : mj_Cm 66 6 [.ref 0] M K := by
  obtain ⟨⟨Y, hv, hw⟩, hf⟩ := hc
  refine e66 ?_
  rw [hv]
  refine sp9 h (t66_10 ?_)
  rw [mk_win]
  obtain ⟨i1, i2, i3⟩ := md_ann_k h (mj_nl Z) (Nat.le_refl _)
  refine sp42 i1.1.1.s.1 (fun Y' y1 y2 => t66_18 (k0 _ ?_))
  have hn : mj_np (md_ann Z) = mj_np Z := by
    have : ∀ n, mj_lo md_an1 n Z 20 = Z 20 := fun n => mj_lo_c (f := md_an1) (c := 20) (fun _ _ => rfl) n Z
    unfold mj_np md_ann
    rw [this]
  exact mk_CL_w (mk_FZ_mg hf) (by omega) y2
theorem mk_wt_pr {Z' Y : mj_M} (hp : mj_pr mj_s2 Z' = mj_pr mj_s2 Z) (hn : mj_np Z ≤ mj_np Z') (hv : mj_v M 1 = mj_cc Z' Y) (hw : mj_wt Z (Y 36) (Y 37)) (hf : mk_FZ Z M) : mk_CL Z' M := ⟨⟨Y, hv, mj_wt_pr hp hw⟩, mk_FZ_np hf hn⟩
theorem mk_meter (h : mj_Ia Z) (hc : mk_CL Z M) {x r : Int32} (k1 : ¬ vp_in x (mj_nl Z) → K 1 0 M) (k2 : vp_in x (mj_nl Z) → ¬ md_rg r 0 9 → K 2 0 M) (k0 : ∀ l, l < mj_nl Z → x = nI l → md_rg r 0 9 → ∀ M', mk_CL (mj_u Z 13 l r) M' → K 0 (Z 13 l) M') : mj_Cm 69 3 [.ref 0, .int x, .int r] M K := by
  refine e69 (mk_87 h hc (fun c => t69_5 (sp83 (fun c2 => t69_12 ⟨mj_vmono c (mj_S_L h.1.1.s), ?_⟩) (fun c2 => k2 c c2))) k1)
  obtain ⟨e, hl⟩ := mj_vin c
  obtain ⟨⟨Y, hv, hw⟩, hf⟩ := hc
  have r14 : M 14 x.toNatClampNeg = Z 13 x.toNatClampNeg := mk_at hv 13 _
  rw [r14]
  refine k0 _ hl e c2 _ (mk_wt_pr (Z := Z) (Y := Y) (mj_pr_u rfl) (Nat.le_refl _) ?_ hw (mk_FZ_u hf (by decide)))
  have := mk_vu M 13 x.toNatClampNeg r
  rw [hv, mj_cc_w rfl] at this
  exact this
end CLA
