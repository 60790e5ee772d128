-- THE MODEL'S METHODS, B: measures
def mj_sm (f : Nat → Nat) : Nat → Nat
  | 0 => 0
  | n + 1 => mj_sm f n + f n
theorem mj_sm_lt {f g : Nat → Nat} {i : Nat} (h : g i < f i) (ho : ∀ j, j ≠ i → g j = f j) : ∀ n, (i < n → mj_sm g n < mj_sm f n) ∧ (n ≤ i → mj_sm g n = mj_sm f n)
  | 0 => ⟨fun z => by omega, fun _ => rfl⟩
  | n + 1 => by
    obtain ⟨h1, h2⟩ := mj_sm_lt h ho n
    show (i < n + 1 → mj_sm g n + g n < mj_sm f n + f n) ∧ (n + 1 ≤ i → mj_sm g n + g n = mj_sm f n + f n)
    refine ⟨fun z => ?_, fun z => ?_⟩
    · by_cases e : n = i
      · subst e
        have := h2 (Nat.le_refl _)
        omega
      · have := h1 (by omega)
        rw [ho n e]
        omega
    · rw [h2 (by omega), ho n (by omega)]
section MOB
variable {Z X : mj_M} {K : mj_K} {p l g : Nat}
/-- what the row 'far' is while distances to g are found -/
def mj_FI (Z : mj_M) (p g : Nat) (f : Nat → Int32) : Prop := (∀ a, a < 10 → 0 ≤ (f a).toInt ∧ (f a).toInt ≤ 1000000) ∧ (f g).toInt = 0 ∧ ∀ a, a < mj_nr Z → (f a).toInt < 1000000 → ∃ m : Nat, (f a).toInt = m ∧ mj_re (mj_nl Z) (mj_arc Z (Z 24 p) (Z 40 p)) (mj_sp Z) g m a
def mj_mu (f : Nat → Int32) : Nat := mj_sm (fun a => (f a).toInt.toNat) 10
def mj_tri2 (Z : mj_M) (p : Nat) (f : Nat → Int32) (l a b : Nat) : Prop := mj_arc Z (Z 24 p) (Z 40 p) l a b → (f a).toInt ≤ (f b).toInt + mj_sp Z l
theorem mj_FI_u {f : Nat → Int32} {a b : Nat} {x : Int32} (h : mj_In Z) (hf : mj_FI Z p g f) (hl : l < mj_nl Z) (hA : mj_arc Z (Z 24 p) (Z 40 p) l a b) (hx : x.toInt = (f b).toInt + mj_sp Z l) (hlt : x.toInt < (f a).toInt) : mj_FI Z p g (upd f a x) ∧ mj_mu (upd f a x) < mj_mu f := by
  have hR := mj_nrle h
  obtain ⟨f1, f2, f3⟩ := hf
  have ha := hA.2.1
  have hb := hA.2.2
  have fa := f1 a (by omega)
  have fb := f1 b (by omega)
  refine ⟨⟨fun c hc => ?_, ?_, fun c hc hcl => ?_⟩, ?_⟩
  · unfold upd
    split
    · omega
    · exact f1 c hc
  · unfold upd
    rw [if_neg (fun z => by subst z; omega)]
    exact f2
  · unfold upd at hcl ⊢
    by_cases e : c = a
    · subst e
      rw [if_pos rfl] at hcl ⊢
      obtain ⟨m, m1, m2⟩ := f3 b hb (by omega)
      exact ⟨m + mj_sp Z l, by rw [hx, m1]; omega, mj_re_s hl hA m2⟩
    · rw [if_neg e] at hcl ⊢
      exact f3 c hc hcl
  · refine (mj_sm_lt (i := a) ?_ (fun j hj => ?_) 10).1 (by omega)
    · unfold upd
      rw [if_pos rfl]
      omega
    · unfold upd
      rw [if_neg hj]
theorem mj_arc_fb (h : mj_In Z) {c k : Int32} (hl : l < mj_nl Z) {f t : Nat} (ef : Z 10 l = nI f) (et : Z 11 l = nI t) (hf : f < mj_nr Z) (ht : t < mj_nr Z) (hft : f ≠ t) : (mj_opn Z k l ∧ mj_car Z c l → (mj_fwd Z l → mj_arc Z c k l f t) ∧ (mj_bwd Z l → mj_arc Z c k l t f)) ∧ ∀ a b, mj_arc Z c k l a b → (mj_opn Z k l ∧ mj_car Z c l) ∧ ((a = f ∧ b = t ∧ mj_fwd Z l) ∨ (a = t ∧ b = f ∧ mj_bwd Z l)) := by
  have hR := mj_nrle h
  have hne : ¬ nI t = nI f := fun z => hft ((nI_eq (by omega) (by omega)).mp z).symm
  refine ⟨fun ho => ⟨fun hw => ⟨?_, hf, ht⟩, fun hw => ⟨?_, ht, hf⟩⟩, fun a b hA => ?_⟩
  · unfold mj_rb mj_beh
    rw [if_pos ho, if_pos ⟨ef.symm, hw⟩, et]
  · unfold mj_rb mj_beh
    rw [if_pos ho, if_neg (fun z => hne (by rw [z.1, ef])), if_pos ⟨et.symm, hw⟩, ef]
  · obtain ⟨n1, n2⟩ := mj_arc_b hR hA
    obtain ⟨h1, h2, h3⟩ := hA
    have ho : mj_opn Z k l ∧ mj_car Z c l := by
      by_cases z : mj_opn Z k l ∧ mj_car Z c l
      · exact z
      · exact absurd (by unfold mj_rb; rw [if_neg z]) n1
    refine ⟨ho, ?_⟩
    unfold mj_rb mj_beh at h1 n1
    rw [if_pos ho] at h1 n1
    by_cases c1 : nI a = Z 10 l ∧ mj_fwd Z l
    · rw [if_pos c1] at h1
      refine Or.inl ⟨(nI_eq (by omega) (by omega)).mp (c1.1.trans ef), ?_, c1.2⟩
      rw [et] at h1
      exact ((nI_eq (by omega) (by omega)).mp h1).symm
    · rw [if_neg c1] at h1 n1
      by_cases c2 : nI a = Z 11 l ∧ mj_bwd Z l
      · rw [if_pos c2] at h1
        refine Or.inr ⟨(nI_eq (by omega) (by omega)).mp (c2.1.trans et), ?_, c2.2⟩
        rw [ef] at h1
        exact ((nI_eq (by omega) (by omega)).mp h1).symm
      · rw [if_neg c2] at n1
        exact absurd rfl n1
/-- one round over the links -/
theorem mj_meas_l {X0 : mj_M} (h : mj_Iv Z) (hp : p < mj_np Z) {f0 : Nat → Int32} {x2 : Int32}
    (hdone : ∀ X o5 o6, (∀ c, c ≠ 3 → X c = X0 c) → mj_FI Z p g (X 3) → (∀ l, l < mj_nl Z → ∀ a b, mj_tri2 Z p (X 3) l a b) → mj_W 1 111 3 33 [some (.ref 0), some (.int (nI p)), some (.int x2), some (.int 0), some (.int (nI (mj_nl Z))), o5, o6] [] (mj_mm Z X) 0 K)
    (hmore : ∀ X o5 o6, (∀ c, c ≠ 3 → X c = X0 c) → mj_FI Z p g (X 3) → mj_mu (X 3) < mj_mu f0 → mj_W 1 111 3 33 [some (.ref 0), some (.int (nI p)), some (.int x2), some (.int 1), some (.int (nI (mj_nl Z))), o5, o6] [] (mj_mm Z X) 0 K) :
    ∀ X, (∀ c, c ≠ 3 → X c = X0 c) → mj_FI Z p g (X 3) → X 3 = f0 → ∀ o5 o6, mj_W 1 111 3 42 [some (.ref 0), some (.int (nI p)), some (.int x2), some (.int 0), some (.int (nI 0)), o5, o6] [] (mj_mm Z X) 0 K := by
  have hR := mj_S_R h.s
  have hL := mj_S_L h.s
  have main : ∀ X, (∀ c, c ≠ 3 → X c = X0 c) → mj_FI Z p g (X 3) → ∀ x3 : Int32, ((x3 = 0 ∧ X 3 = f0 ∧ ∀ l, l < 0 → ∀ a b, mj_tri2 Z p (X 3) l a b) ∨ (x3 = 1 ∧ mj_mu (X 3) < mj_mu f0)) → ∀ o5 o6, mj_W 1 111 3 42 [some (.ref 0), some (.int (nI p)), some (.int x2), some (.int x3), some (.int (nI 0)), o5, o6] [] (mj_mm Z X) 0 K := by
    refine mj_down (P := fun k => ∀ X, (∀ c, c ≠ 3 → X c = X0 c) → mj_FI Z p g (X 3) → ∀ x3 : Int32, ((x3 = 0 ∧ X 3 = f0 ∧ ∀ l, l < k → ∀ a b, mj_tri2 Z p (X 3) l a b) ∨ (x3 = 1 ∧ mj_mu (X 3) < mj_mu f0)) → ∀ o5 o6, mj_W 1 111 3 42 [some (.ref 0), some (.int (nI p)), some (.int x2), some (.int x3), some (.int (nI k)), o5, o6] [] (mj_mm Z X) 0 K) (mj_nl Z) ?_ ?_
    · intro X hX hF x3 hx o5 o6
      refine t111_42 ⟨fun _ => ?_, fun c => absurd (mj_lle h.s rfl) c⟩
      rcases hx with ⟨rfl, h1, h2⟩ | ⟨rfl, h1⟩
      · exact hdone X o5 o6 hX hF h2
      · exact hmore X o5 o6 hX hF h1
    · intro k hk ih X hX hF x3 hx o5 o6
      have hx' := mj_ql h.s hk
      have hc := mj_qlc h.s hk
      obtain ⟨f, t, ef, et, hf, ht, hft⟩ := mj_ftN h.s.1 hk
      obtain ⟨A1, A2⟩ := mj_arc_fb (c := Z 24 p) (k := Z 40 p) h.s.1 hk ef et hf ht hft
      have s1 := mj_sp12 h.s.1 hk
      have s2 := mj_sp15 h.s.1 k hk
      have vf := mj_qr h.s hf
      have vt := mj_qr h.s ht
      have cf := mj_qrc h.s hf
      have ct := mj_qrc h.s ht
      -- the way back
      have back : ∀ X, (∀ c, c ≠ 3 → X c = X0 c) → mj_FI Z p g (X 3) → ∀ x3 : Int32, ((x3 = 0 ∧ X 3 = f0 ∧ (∀ l, l < k → ∀ a b, mj_tri2 Z p (X 3) l a b) ∧ (mj_fwd Z k → (X 3 f).toInt ≤ (X 3 t).toInt + (mj_sp Z k : Int))) ∨ (x3 = 1 ∧ mj_mu (X 3) < mj_mu f0)) → mj_opn Z (Z 40 p) k ∧ mj_car Z (Z 24 p) k → mj_Cm 109 2 [.ref 0, .int (nI k), .int 1] (mj_mm Z X) (mj_k 1 111 3 157 [some (.ref 0), some (.int (nI p)), some (.int x2), some (.int x3), some (.int (nI k)), some (.int (nI f)), some (.int (nI t))] [] 0 (some .boolean) K) := by
        intro X hX hF x3 hx ho
        refine sp109b h.s hk (t111_157 ⟨fun d => ?_, fun d => ⟨vf, ?_⟩⟩)
        · rw [mj_bi0] at d
          rw [nI_1]
          refine ih X hX hF x3 (hx.elim (fun z => Or.inl ⟨z.1, z.2.1, fun l hl a b => ?_⟩) Or.inr) _ _
          by_cases e : l = k
          · subst e
            intro hA
            obtain ⟨-, q⟩ := A2 a b hA
            rcases q with ⟨rfl, rfl, q⟩ | ⟨-, -, q⟩
            · exact z.2.2.2 q
            · exact absurd q d
          · exact z.2.2.1 l (by omega) a b
        · rw [mj_bi1] at d
          have hA := (A1 ho).2 d
          simp only [mj_rL0 hx', mj_wL0 hx', eq_true (mj_vL0 hx'), mj_rL1 hx', mj_wL1 hx', eq_true (mj_vL1 hx'), mj_rL2 hx', mj_wL2 hx', eq_true (mj_vL2 hx'), mj_rL3 hx', mj_wL3 hx', eq_true (mj_vL3 hx'), mj_rL4 hx', mj_wL4 hx', eq_true (mj_vL4 hx'), mj_rL5 hx', mj_wL5 hx', eq_true (mj_vL5 hx'), mj_rL6 hx', mj_wL6 hx', eq_true (mj_vL6 hx'), mj_rL7 hx', mj_wL7 hx', eq_true (mj_vL7 hx'), mj_rL8 hx', mj_wL8 hx', eq_true (mj_vL8 hx'), mj_rL9 hx', mj_wL9 hx', eq_true (mj_vL9 hx'), mj_rL10 hx', mj_wL10 hx', eq_true (mj_vL10 hx'), hc, cf, ct, true_and]
          have ff := hF.1 f (by omega)
          have ft := hF.1 t (by omega)
          have hsum : (X 3 f + Z 12 k).toInt = (X 3 f).toInt + mj_sp Z k := by
            rw [fb_addI (by omega) (by omega), s1]
          refine ⟨vt, fun d2 => ?_, fun d2 => ?_⟩
          · have d2' : X 3 t ≤ X 3 f + Z 12 k := d2
            rw [mj_le, hsum] at d2'
            rw [nI_1]
            refine ih X hX hF x3 (hx.elim (fun z => Or.inl ⟨z.1, z.2.1, fun l hl a b => ?_⟩) Or.inr) _ _
            by_cases e : l = k
            · subst e
              intro hA2
              obtain ⟨-, q⟩ := A2 a b hA2
              rcases q with ⟨rfl, rfl, q⟩ | ⟨rfl, rfl, q⟩
              · exact z.2.2.2 q
              · exact d2'
            · exact z.2.2.1 l (by omega) a b
          · have d2' : ¬ X 3 t ≤ X 3 f + Z 12 k := d2
            rw [mj_le, hsum] at d2'
            rw [mj_mm_wo _ _ _ _ (by decide), nI_1]
            show mj_W 1 111 3 42 _ [] (mj_mm Z (mj_u X 3 t (X 3 f + Z 12 k))) 0 K
            obtain ⟨g1, g2⟩ := mj_FI_u (x := X 3 f + Z 12 k) h.s.1 hF hk hA hsum (by omega)
            have hmu : mj_mu (X 3) ≤ mj_mu f0 := hx.elim (fun z => by rw [z.2.1]; exact Nat.le_refl _) (fun z => by omega)
            refine ih _ (fun c hc => by rw [mj_u_ne _ _ _ hc]; exact hX c hc) (by rw [mj_u_same]; exact g1) 1 (Or.inr ⟨rfl, by rw [mj_u_same]; omega⟩) _ _
      refine t111_42 ⟨fun c => (mj_lls h.s hk c).elim, fun _ => ?_⟩
      refine sp110 h hk hp (t111_62 ⟨fun d => ?_, fun d => ?_⟩)
      · rw [mj_bi0] at d
        rw [nI_1]
        refine ih X hX hF x3 (hx.elim (fun z => Or.inl ⟨z.1, z.2.1, fun l hl a b => ?_⟩) Or.inr) _ _
        by_cases e : l = k
        · subst e
          intro hA
          exact absurd (A2 a b hA).1 d
        · exact z.2.2 l (by omega) a b
      · rw [mj_bi1] at d
        simp only [mj_rL0 hx', mj_wL0 hx', eq_true (mj_vL0 hx'), mj_rL1 hx', mj_wL1 hx', eq_true (mj_vL1 hx'), mj_rL2 hx', mj_wL2 hx', eq_true (mj_vL2 hx'), mj_rL3 hx', mj_wL3 hx', eq_true (mj_vL3 hx'), mj_rL4 hx', mj_wL4 hx', eq_true (mj_vL4 hx'), mj_rL5 hx', mj_wL5 hx', eq_true (mj_vL5 hx'), mj_rL6 hx', mj_wL6 hx', eq_true (mj_vL6 hx'), mj_rL7 hx', mj_wL7 hx', eq_true (mj_vL7 hx'), mj_rL8 hx', mj_wL8 hx', eq_true (mj_vL8 hx'), mj_rL9 hx', mj_wL9 hx', eq_true (mj_vL9 hx'), mj_rL10 hx', mj_wL10 hx', eq_true (mj_vL10 hx'), hc, true_and]
        rw [ef, et]
        refine sp109f h.s hk (t111_94 ⟨fun d2 => ?_, fun d2 => ⟨vt, ?_⟩⟩)
        · rw [mj_bi0] at d2
          exact back X hX hF x3 (hx.elim (fun z => Or.inl ⟨z.1, z.2.1, z.2.2, fun y => absurd y d2⟩) Or.inr) d
        · rw [mj_bi1] at d2
          have hA := (A1 d).1 d2
          simp only [mj_rL0 hx', mj_wL0 hx', eq_true (mj_vL0 hx'), mj_rL1 hx', mj_wL1 hx', eq_true (mj_vL1 hx'), mj_rL2 hx', mj_wL2 hx', eq_true (mj_vL2 hx'), mj_rL3 hx', mj_wL3 hx', eq_true (mj_vL3 hx'), mj_rL4 hx', mj_wL4 hx', eq_true (mj_vL4 hx'), mj_rL5 hx', mj_wL5 hx', eq_true (mj_vL5 hx'), mj_rL6 hx', mj_wL6 hx', eq_true (mj_vL6 hx'), mj_rL7 hx', mj_wL7 hx', eq_true (mj_vL7 hx'), mj_rL8 hx', mj_wL8 hx', eq_true (mj_vL8 hx'), mj_rL9 hx', mj_wL9 hx', eq_true (mj_vL9 hx'), mj_rL10 hx', mj_wL10 hx', eq_true (mj_vL10 hx'), hc, cf, ct, true_and]
          have ff := hF.1 f (by omega)
          have ft := hF.1 t (by omega)
          have hsum : (X 3 t + Z 12 k).toInt = (X 3 t).toInt + mj_sp Z k := by
            rw [fb_addI (by omega) (by omega), s1]
          refine ⟨vf, fun d3 => ?_, fun d3 => ?_⟩
          · have d3' : X 3 f ≤ X 3 t + Z 12 k := d3
            rw [mj_le, hsum] at d3'
            exact back X hX hF x3 (hx.elim (fun z => Or.inl ⟨z.1, z.2.1, z.2.2, fun _ => d3'⟩) Or.inr) d
          · have d3' : ¬ X 3 f ≤ X 3 t + Z 12 k := d3
            rw [mj_le, hsum] at d3'
            rw [mj_mm_wo _ _ _ _ (by decide)]
            show mj_Cm 109 2 [.ref 0, .int (nI k), .int 1] (mj_mm Z (mj_u X 3 f (X 3 t + Z 12 k))) _
            obtain ⟨g1, g2⟩ := mj_FI_u (x := X 3 t + Z 12 k) h.s.1 hF hk hA hsum (by omega)
            have hmu : mj_mu (X 3) ≤ mj_mu f0 := hx.elim (fun z => by rw [z.2.1]; exact Nat.le_refl _) (fun z => by omega)
            exact back _ (fun c hc => by rw [mj_u_ne _ _ _ hc]; exact hX c hc) (by rw [mj_u_same]; exact g1) 1 (Or.inr ⟨rfl, by rw [mj_u_same]; omega⟩) d
  intro X hX hF hf o5 o6
  exact main X hX hF 0 (Or.inl ⟨rfl, hf, fun l hl => absurd hl (Nat.not_lt_zero l)⟩) o5 o6
/-- what measures finds -/
def mj_far (Z : mj_M) (p g : Nat) (f : Nat → Int32) : Prop := ∀ a, a < mj_nr Z → (f a).toInt = if mj_di Z (Z 24 p) (Z 40 p) a g < 1000 then (mj_di Z (Z 24 p) (Z 40 p) a g : Int) else 1000000
theorem mj_meas_w {X0 : mj_M} (h : mj_Iv Z) (hp : p < mj_np Z) (hg : g < mj_nr Z) {x2 : Int32} (hK : ∀ X', (∀ c, c ≠ 3 → X' c = X0 c) → mj_far Z p g (X' 3) → K 0 0 (mj_mm Z X')) : ∀ (n : Nat) (X : mj_M), mj_mu (X 3) ≤ n → (∀ c, c ≠ 3 → X c = X0 c) → mj_FI Z p g (X 3) → ∀ o4 o5 o6, mj_W 1 111 3 33 [some (.ref 0), some (.int (nI p)), some (.int x2), some (.int 1), o4, o5, o6] [] (mj_mm Z X) 0 K
  | n, X, hn, hX, hF, o4, o5, o6 => by
    refine t111_33 ⟨fun c => absurd c (by decide), fun _ => ?_⟩
    refine mj_meas_l (g := g) (f0 := X 3) h hp (fun X' o5 o6 h1 h2 h3 => ?_) (fun X' o5 o6 h1 h2 h3 => ?_) X hX hF rfl o5 o6
    · refine t111_33 ⟨fun _ => hK X' h1 (fun a ha => ?_), fun c => absurd rfl c⟩
      refine mj_D_uniq (v := fun x => (X' 3 x).toInt) h.s.1 (by decide) (by rw [h2.2.1]; decide) (fun l a b hl hA => h3 l hl a b hA) (fun a ha hlt => h2.2.2 a ha hlt) (fun a ha => (h2.1 a (by have := mj_S_R h.s; omega)).2) hg ha
    · cases n with
      | zero => omega
      | succ n => exact mj_meas_w h hp hg hK n X' (by omega) h1 h2 _ _ _
theorem sp111 (h : mj_Iv Z) (hp : p < mj_np Z) (hg : g < mj_nr Z) (hK : ∀ X', (∀ c, c ≠ 3 → X' c = X c) → mj_far Z p g (X' 3) → K 0 0 (mj_mm Z X')) : mj_Cm 111 3 [.ref 0, .int (nI p), .int (nI g)] (mj_mm Z X) K := by
  have hR := mj_S_R h.s
  refine e111 ?_
  refine mj_down (P := fun k => ∀ X', (∀ c, c ≠ 3 → X' c = X c) → (∀ a, a < k → X' 3 a = if a = g then 0 else 1000000) → ∀ o4 o5 o6, mj_W 1 111 3 2 [some (.ref 0), some (.int (nI p)), some (.int (nI g)), some (.int (nI k)), o4, o5, o6] [] (mj_mm Z X') 0 K) 10 ?_ ?_ X (fun _ _ => rfl) (fun a ha => absurd ha (Nat.not_lt_zero a)) none none none
  · intro X' h1 h2 o4 o5 o6
    have i0 : (0 : Int32).toInt = 0 := by decide
    have iF : (1000000 : Int32).toInt = 1000000 := by decide
    refine t111_2 ⟨fun _ => ?_, fun c => absurd (nI_le (Nat.le_refl 10) (by decide)) c⟩
    refine mj_meas_w h hp hg hK _ X' (Nat.le_refl _) h1 ⟨fun a ha => ?_, ?_, fun a ha hlt => ?_⟩ _ _ _
    · rw [h2 a ha]
      split
      · rw [i0]; omega
      · rw [iF]; omega
    · rw [h2 g (by omega), if_pos rfl, i0]
    · rw [h2 a (by omega)] at hlt ⊢
      by_cases e : a = g
      · subst e
        rw [if_pos rfl, i0]
        exact ⟨0, rfl, mj_re_0⟩
      · rw [if_neg e, iF] at hlt
        omega
  · intro k hk ih X' h1 h2 o4 o5 o6
    have ck : (nI k).toNatClampNeg = k := nI_clamp (by omega)
    have vk : vp_in (nI k) 10 := vp_in_nI hk (by decide)
    have step : ∀ x : Int32, x = (if k = g then 0 else 1000000) → mj_W 1 111 3 2 [some (.ref 0), some (.int (nI p)), some (.int (nI g)), some (.int (nI k + 1)), o4, o5, o6] [] (mj_u (mj_mm Z X') 3 (nI k).toNatClampNeg x) 0 K := by
      intro x hx
      rw [ck, mj_mm_wo _ _ _ _ (by decide), nI_1]
      refine ih _ (fun c hc => by rw [mj_u_ne _ _ _ hc]; exact h1 c hc) (fun a ha => ?_) _ _ _
      rw [mj_u_at]
      by_cases e : a = k
      · rw [if_pos ⟨rfl, e⟩, hx, e]
      · rw [if_neg (fun z => e z.2)]
        exact h2 a (by omega)
    refine t111_2 ⟨fun c => absurd c (nI_ge hk (by decide)), fun _ => ⟨fun c => ⟨vk, step _ ?_⟩, fun c => ⟨vk, step _ ?_⟩⟩⟩
    · rw [if_neg (fun z => c (by rw [z]))]
    · rw [if_pos ((nI_eq (by omega) (by omega)).mp c)]
end MOB
