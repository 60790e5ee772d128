-- THE MODEL'S METHODS, E: links, a second
section MOE
variable {Z Z3 X : mj_M} {K : mj_K} {p t l : Nat}
theorem sp133 (h3 : mj_Iv Z3) (h : mj_J Z) (hV : mj_Vw Z3 Z) (hl : l < mj_nl Z) (h16 : Z 16 l = 0) (hX : ∀ i, i < mj_np Z → X 4 i = mj_nv Z3 i) (hK : ∀ X', (∀ c, c ≠ 5 → X' c = X c) → K 0 0 (mj_mm (mj_lk (mj_nv Z3) l Z) X')) : mj_Cm 133 4 [.ref 0, .int (nI l)] (mj_mm Z X) K := by
  have hP := (mj_S_P h.1.s).1
  have hrab := mj_ra_b h.1.s hl
  have i0 : (0 : Int32).toInt = 0 := by decide
  refine e133 (sp108 h.1.s hl (t133_5 ?_))
  refine sp132 (v := mj_nv Z3) h.1 hl hX (fun X1 y1 y4 => ?_)
  refine t133_13 ?_
  obtain ⟨n1, n2⟩ := mj_ln_e (Z := Z) (v := mj_nv Z3) (l := l) (q := X 5) (q' := fun _ => 0) (mj_np Z)
  obtain ⟨o1, o2⟩ := mj_ln_ok (Z := Z) (v := mj_nv Z3) (l := l) (q := fun _ => 0) (mj_np Z)
  have elk : mj_lk (mj_nv Z3) l Z = (mj_be (mj_nv Z3) l (mj_ln Z (mj_nv Z3) l (fun _ => 0) (mj_np Z)).2 (mj_ln Z (mj_nv Z3) l (fun _ => 0) (mj_np Z)).1 Z).1 := by
    unfold mj_lk
    rw [if_pos h16]
  rw [elk] at hK
  have y4' : ∀ i, i < (mj_ln Z (mj_nv Z3) l (fun _ => 0) (mj_np Z)).1 → X1 5 i = (mj_ln Z (mj_nv Z3) l (fun _ => 0) (mj_np Z)).2 i := by
    intro i hi
    rw [y4]
    exact n2 i (by omega)
  rw [n1]
  generalize (mj_ln Z (mj_nv Z3) l (fun _ => 0) (mj_np Z)).1 = n at o1 o2 y4' hK ⊢
  generalize (mj_ln Z (mj_nv Z3) l (fun _ => 0) (mj_np Z)).2 = q at o2 y4' hK
  have hK1 := hK X1 y1
  have facts : ∀ i, i ≤ n → (mj_J (mj_be (mj_nv Z3) l q i Z).1 ∧ mj_Vw Z3 (mj_be (mj_nv Z3) l q i Z).1) ∧ (mj_be (mj_nv Z3) l q i Z).2 ≤ 120 * i := by
    intro i hi
    have e3 := (mj_n_pr hV.1)
    refine ⟨mj_be_ok h3 (by omega) i Z (fun j hj => ?_) h hV, ?_⟩
    · obtain ⟨p, hp, e1, e2⟩ := o2 j (by omega)
      exact ⟨p, by omega, e1, e2⟩
    · induction i with
      | zero => exact Nat.le_refl _
      | succ i ih =>
        have ihh := ih (by omega)
        have hJ := mj_be_ok h3 (show l < mj_nl Z3 by omega) i Z (fun j hj => by
          obtain ⟨p, hp, e1, e2⟩ := o2 j (by omega)
          exact ⟨p, by omega, e1, e2⟩) h hV
        have := mj_be1_d (l := l) (p := (q i).toNatClampNeg) (mj_nv Z3) (mj_be (mj_nv Z3) l q i Z) (mj_S_P hJ.1.1.s).1
        show (mj_be1 (mj_nv Z3) l (q i).toNatClampNeg (mj_be (mj_nv Z3) l q i Z)).2 ≤ _
        omega
  refine mj_down (P := fun i => ∀ o6 o7 o8 o9 o10 o11, mj_W 1 133 4 18 [some (.ref 0), some (.int (nI l)), some (.int (mj_ra Z l)), some (.int (nI (mj_be (mj_nv Z3) l q i Z).2)), some (.int (nI n)), some (.int (nI i)), o6, o7, o8, o9, o10, o11] [] (mj_mm (mj_be (mj_nv Z3) l q i Z).1 X1) 0 K) n ?_ ?_ none none none none none none
  · intro o6 o7 o8 o9 o10 o11
    exact t133_18 ⟨fun _ => hK1, fun c => absurd (nI_le (Nat.le_refl n) (by omega)) c⟩
  · intro i hi ih o6 o7 o8 o9 o10 o11
    obtain ⟨⟨f1, f2⟩, f3⟩ := facts i (by omega)
    obtain ⟨p, hp, e1, e2⟩ := o2 i hi
    have e : mj_be (mj_nv Z3) l q (i + 1) Z = mj_be1 (mj_nv Z3) l p (mj_be (mj_nv Z3) l q i Z) := by
      show mj_be1 (mj_nv Z3) l (q i).toNatClampNeg _ = _
      rw [e1, nI_clamp (by omega)]
    rw [e] at ih
    generalize mj_be (mj_nv Z3) l q i Z = A at f1 f2 f3 ih ⊢
    obtain ⟨A, d⟩ := A
    dsimp only at f1 f2 f3 ih ⊢
    have hn : mj_np A = mj_np Z := (mj_n_pr f2.1).1.trans (mj_n_pr hV.1).1.symm
    have hnl : mj_nl A = mj_nl Z := (mj_n_pr f2.1).2.2.1.trans (mj_n_pr hV.1).2.2.1.symm
    have hpA : p < mj_np A := by omega
    have hlA : l < mj_nl A := by omega
    have hRA := mj_S_R f1.1.s
    have ra : mj_ra A l = mj_ra Z l := by
      have h13 := (mj_pr_at f2.1 (show mj_s1 13 = true from rfl)).trans (mj_pr_at hV.1 (show mj_s1 13 = true from rfl)).symm
      have h19 := (mj_pr_at f2.1 (show mj_s1 19 = true from rfl)).trans (mj_pr_at hV.1 (show mj_s1 19 = true from rfl)).symm
      unfold mj_ra
      rw [h13, h19]
    have c5 : mj_mm A X1 5 i = nI p := by
      show X1 5 i = _
      rw [y4' i hi]
      exact e1
    have ci : (nI i).toNatClampNeg = i := nI_clamp (by omega)
    have ya := mj_qv f1.1.s hpA
    have da := mj_qc f1.1.s hpA
    have nI1 : nI i + 1 = nI (i + 1) := nI_1 i
    have skip : mj_be1 (mj_nv Z3) l p (A, d) = (A, d) → ∀ o6 o7 o8 o9 o10 o11, mj_W 1 133 4 18 [some (.ref 0), some (.int (nI l)), some (.int (mj_ra Z l)), some (.int (nI d)), some (.int (nI n)), some (.int (nI i + 1)), o6, o7, o8, o9, o10, o11] [] (mj_mm A X1) 0 K := by
      intro e
      rw [e] at ih
      rw [nI1]
      exact ih
    refine t133_18 ⟨fun c => absurd c (nI_ge hi (by omega)), fun _ => ⟨vp_in_nI (by omega) (by decide), ?_⟩⟩
    rw [ci, c5]
    simp only [mj_rP0 ya, mj_wP0 ya, eq_true (mj_vP0 ya), mj_rP1 ya, mj_wP1 ya, eq_true (mj_vP1 ya), mj_rP2 ya, mj_wP2 ya, eq_true (mj_vP2 ya), mj_rP3 ya, mj_wP3 ya, eq_true (mj_vP3 ya), mj_rP4 ya, mj_wP4 ya, eq_true (mj_vP4 ya), mj_rP5 ya, mj_wP5 ya, eq_true (mj_vP5 ya), mj_rP6 ya, mj_wP6 ya, eq_true (mj_vP6 ya), mj_rP7 ya, mj_wP7 ya, eq_true (mj_vP7 ya), da, true_and]
    refine ⟨fun c => sp112 f1.1.s hlA (t133_69 ⟨fun _ => skip ?_ _ _ _ _ _ _, fun c2 => absurd (by decide) c2⟩), fun c => ?_⟩
    · unfold mj_be1
      exact if_neg (fun z => c z.1)
    · refine sp130 (v := mj_nv Z3) f1.1 hlA hpA c e2 (fun j hj => ?_) (t133_51 ?_)
      · rw [y1 4 (by decide)]
        exact hX j (by omega)
      simp only [mj_rP0 ya, mj_wP0 ya, eq_true (mj_vP0 ya), mj_rP1 ya, mj_wP1 ya, eq_true (mj_vP1 ya), mj_rP2 ya, mj_wP2 ya, eq_true (mj_vP2 ya), mj_rP3 ya, mj_wP3 ya, eq_true (mj_vP3 ya), mj_rP4 ya, mj_wP4 ya, eq_true (mj_vP4 ya), mj_rP5 ya, mj_wP5 ya, eq_true (mj_vP5 ya), mj_rP6 ya, mj_wP6 ya, eq_true (mj_vP6 ya), mj_rP7 ya, mj_wP7 ya, eq_true (mj_vP7 ya), da, true_and]
      refine sp112 f1.1.s hlA ?_
      obtain ⟨a, b, ha, hb, hab, g1, g2, g3⟩ := mj_Vw_beh h3 f1.1 f2 hlA hpA e2 c
      have hsz := mj_sz_le (Z := A) (l := l) (p := p) (mj_nv Z3) (by omega)
      have nm := nI_toInt (show mj_sz A (mj_nv Z3) l p < 2 ^ 31 by omega)
      have nd := nI_toInt (show d < 2 ^ 31 by omega)
      have ndm := nI_toInt (show d + mj_sz A (mj_nv Z3) l p < 2 ^ 31 by omega)
      rw [g2]
      have no : ¬ (¬ mj_sz A (mj_nv Z3) l p = 0 ∧ mj_hp A l (mj_sz A (mj_nv Z3) l p) d p) → ∀ o6 o7 o8 o9 o10 o11, mj_W 1 133 4 18 [some (.ref 0), some (.int (nI l)), some (.int (mj_ra Z l)), some (.int (nI d)), some (.int (nI n)), some (.int (nI i + 1)), o6, o7, o8, o9, o10, o11] [] (mj_mm A X1) 0 K := by
        intro z
        refine skip ?_
        unfold mj_be1
        exact if_neg (fun y => z y.2)
      have cb : (mj_beh A l (A 22 p)).toNatClampNeg = b := by rw [g2, nI_clamp (by omega)]
      -- room behind, then they begin
      have room : ¬ mj_sz A (mj_nv Z3) l p = 0 → (((d + mj_sz A (mj_nv Z3) l p : Nat) : Int) ≤ (mj_ra A l).toInt ∨ (d = 0 ∧ 0 < (mj_ra A l).toInt)) → mj_Cm 115 3 [.ref 0, .int (nI b)] (mj_mm A X1) (mj_k 1 133 4 98 [some (.ref 0), some (.int (nI l)), some (.int (mj_ra Z l)), some (.int (nI d)), some (.int (nI n)), some (.int (nI i)), some (.int (nI p)), some (.int (nI (mj_sz A (mj_nv Z3) l p))), some (.int (nI b)), o9, o10, o11] [] 0 (some .int) K) := by
        intro c0 hrate
        refine sp115 f1.1.s hb (t133_98 ⟨fun c2 => no (fun z => ?_) _ _ _ _ _ _, fun c2 => ?_⟩)
        · have := z.2.2
          rw [cb] at this
          exact (mj_pl_ge f1.1 hb (by omega)).mpr this c2
        · have ch : mj_hp A l (mj_sz A (mj_nv Z3) l p) d p := ⟨hrate, by rw [cb]; exact (mj_pl_ge f1.1 hb (by omega)).mp c2⟩
          obtain ⟨m1, m2⟩ := mj_sz_ms c hpA c0
          have e : mj_be1 (mj_nv Z3) l p (A, d) = (mj_bk l (A 22 p) (nI b) (fun q => decide (mj_ms A p q)) A, d + mj_sz A (mj_nv Z3) l p) := by
            unfold mj_be1
            rw [if_pos ⟨c, c0, ch⟩]
            dsimp only
            rw [g2]
          rw [e] at ih
          dsimp only at ih
          have vr := mj_r10 f1.1.s (f1.1.a p hpA).2.1
          have add := mj_on_bk (Z := A) (l := l) (p := p) (r := A 22 p) (b := nI b) (S := fun _ => false) hpA rfl
          rw [mj_bk_0 (fun q hq => rfl)] at add
          simp only [mj_rP0 ya, mj_wP0 ya, eq_true (mj_vP0 ya), mj_rP1 ya, mj_wP1 ya, eq_true (mj_vP1 ya), mj_rP2 ya, mj_wP2 ya, eq_true (mj_vP2 ya), mj_rP3 ya, mj_wP3 ya, eq_true (mj_vP3 ya), mj_rP4 ya, mj_wP4 ya, eq_true (mj_vP4 ya), mj_rP5 ya, mj_wP5 ya, eq_true (mj_vP5 ya), mj_rP6 ya, mj_wP6 ya, eq_true (mj_vP6 ya), mj_rP7 ya, mj_wP7 ya, eq_true (mj_vP7 ya), da, true_and]
          refine sp131 f1.1.s hlA hpA vr (t133_130 ?_)
          rw [add]
          have main : mj_W 1 133 4 133 [some (.ref 0), some (.int (nI l)), some (.int (mj_ra Z l)), some (.int (nI d)), some (.int (nI n)), some (.int (nI i)), some (.int (nI p)), some (.int (nI (mj_sz A (mj_nv Z3) l p))), some (.int (nI b)), some (.int (A 22 p)), some (.int (A 25 p)), some (.int (nI 0))] [] (mj_mm (mj_bk l (A 22 p) (nI b) (fun q => decide (q = p ∨ (q < 0 ∧ mj_ms A p q))) A) X1) 0 K := by
            have done : ∀ k, (∀ q, q < mj_np A → (decide (q = p ∨ (q < k ∧ mj_ms A p q)) = decide (mj_ms A p q))) → mj_W 1 133 4 18 [some (.ref 0), some (.int (nI l)), some (.int (mj_ra Z l)), some (.int (nI d + nI (mj_sz A (mj_nv Z3) l p))), some (.int (nI n)), some (.int (nI i + 1)), some (.int (nI p)), some (.int (nI (mj_sz A (mj_nv Z3) l p))), some (.int (nI b)), some (.int (A 22 p)), some (.int (A 25 p)), some (.int (nI k))] [] (mj_mm (mj_bk l (A 22 p) (nI b) (fun q => decide (q = p ∨ (q < k ∧ mj_ms A p q))) A) X1) 0 K := by
              intro k hk
              rw [mj_bk_c hk, nI_1, nI_add]
              exact ih _ _ _ _ _ _
            refine mj_down (P := fun k => mj_W 1 133 4 133 [some (.ref 0), some (.int (nI l)), some (.int (mj_ra Z l)), some (.int (nI d)), some (.int (nI n)), some (.int (nI i)), some (.int (nI p)), some (.int (nI (mj_sz A (mj_nv Z3) l p))), some (.int (nI b)), some (.int (A 22 p)), some (.int (A 25 p)), some (.int (nI k))] [] (mj_mm (mj_bk l (A 22 p) (nI b) (fun q => decide (q = p ∨ (q < k ∧ mj_ms A p q))) A) X1) 0 K) (mj_np A) ?_ ?_
            · have hpr := mj_bk_pr l (A 22 p) (nI b) (fun q => decide (q = p ∨ (q < mj_np A ∧ mj_ms A p q))) A
              refine t133_133 ⟨fun _ => done _ (fun q hq => decide_eq_decide.mpr ⟨fun z => z.elim (fun y => ?_) (fun y => y.2), fun z => Or.inr ⟨hq, z⟩⟩), fun c => absurd (mj_pe (mj_S_pr hpr f1.1.s) (mj_n_pr hpr).1.symm) c⟩
              rw [y]
              by_cases g : A 25 p = -1
              · exact Or.inl ⟨g, rfl⟩
              · exact Or.inr ⟨g, rfl, c⟩
            · intro k hk ihk
              have hpr := mj_bk_pr l (A 22 p) (nI b) (fun q => decide (q = p ∨ (q < k ∧ mj_ms A p q))) A
              have hS := mj_S_pr hpr f1.1.s
              have yk := mj_qv f1.1.s hk
              have dk := mj_qc f1.1.s hk
              have b25 : mj_bk l (A 22 p) (nI b) (fun q => decide (q = p ∨ (q < k ∧ mj_ms A p q))) A 25 = A 25 := mj_bk_o (by decide)
              have hkk : ¬ k = p → ¬ (k < mj_np A ∧ decide (k = p ∨ (k < k ∧ mj_ms A p k)) = true) := fun y z => (of_decide_eq_true z.2).elim y (fun w => absurd w.1 (Nat.lt_irrefl _))
              have b21 : ¬ k = p → mj_bk l (A 22 p) (nI b) (fun q => decide (q = p ∨ (q < k ∧ mj_ms A p q))) A 21 k = A 21 k := fun y => by rw [mj_bk_21, if_neg (hkk y)]
              have b22 : ¬ k = p → mj_bk l (A 22 p) (nI b) (fun q => decide (q = p ∨ (q < k ∧ mj_ms A p q))) A 22 k = A 22 k := fun y => by rw [mj_bk_22, if_neg (hkk y)]
              have b21p : mj_bk l (A 22 p) (nI b) (fun q => decide (q = p ∨ (q < k ∧ mj_ms A p q))) A 21 p = 1 := by rw [mj_bk_21, if_pos ⟨hpA, decide_eq_true (Or.inl rfl)⟩]
              have add := fun (y : ¬ k = p) => mj_on_bk (Z := A) (l := l) (p := k) (r := A 22 p) (b := nI b) (S := fun q => decide (q = p ∨ (q < k ∧ mj_ms A p q))) hk (decide_eq_false (fun z => z.elim y (fun w => absurd w.1 (Nat.lt_irrefl _))))
              have next : (k = p ∨ ¬ mj_ms A p k) → mj_W 1 133 4 133 [some (.ref 0), some (.int (nI l)), some (.int (mj_ra Z l)), some (.int (nI d)), some (.int (nI n)), some (.int (nI i)), some (.int (nI p)), some (.int (nI (mj_sz A (mj_nv Z3) l p))), some (.int (nI b)), some (.int (A 22 p)), some (.int (A 25 p)), some (.int (nI k + 1))] [] (mj_mm (mj_bk l (A 22 p) (nI b) (fun q => decide (q = p ∨ (q < k ∧ mj_ms A p q))) A) X1) 0 K := by
                intro y
                have eS : ∀ q, q < mj_np A → decide (q = p ∨ (q < k + 1 ∧ mj_ms A p q)) = decide (q = p ∨ (q < k ∧ mj_ms A p q)) := fun q hq => decide_eq_decide.mpr ⟨fun z => z.elim Or.inl (fun w => by
                  by_cases g : q = k
                  · subst g
                    exact y.elim Or.inl (fun v => absurd w.2 v)
                  · exact Or.inr ⟨by omega, w.2⟩), fun z => z.elim Or.inl (fun w => Or.inr ⟨by omega, w.2⟩)⟩
                rw [mj_bk_c eS] at ihk
                rw [nI_1]
                exact ihk
              have take : ¬ k = p → mj_ms A p k → mj_W 1 133 4 133 [some (.ref 0), some (.int (nI l)), some (.int (mj_ra Z l)), some (.int (nI d)), some (.int (nI n)), some (.int (nI i)), some (.int (nI p)), some (.int (nI (mj_sz A (mj_nv Z3) l p))), some (.int (nI b)), some (.int (A 22 p)), some (.int (A 25 p)), some (.int (nI k + 1))] [] (mj_mm (mj_on l (A 22 p) (nI b) k (mj_bk l (A 22 p) (nI b) (fun q => decide (q = p ∨ (q < k ∧ mj_ms A p q))) A)) X1) 0 K := by
                intro y m
                have eS : ∀ q, q < mj_np A → decide (q = p ∨ (q < k + 1 ∧ mj_ms A p q)) = (decide (q = p ∨ (q < k ∧ mj_ms A p q)) || decide (q = k)) := fun q hq => by
                  by_cases g : q = k
                  · subst g
                    rw [decide_eq_true (show q = p ∨ (q < q + 1 ∧ mj_ms A p q) from Or.inr ⟨by omega, m⟩), decide_eq_true (show q = q from rfl), Bool.or_true]
                  · rw [decide_eq_false g, Bool.or_false]
                    exact decide_eq_decide.mpr ⟨fun z => z.elim Or.inl (fun w => Or.inr ⟨by omega, w.2⟩), fun z => z.elim Or.inl (fun w => Or.inr ⟨by omega, w.2⟩)⟩
                rw [add y, ← mj_bk_c eS, nI_1]
                exact ihk
              have hnpT : k < mj_np (mj_bk l (A 22 p) (nI b) (fun q => decide (q = p ∨ (q < k ∧ mj_ms A p q))) A) := by rw [(mj_n_pr hpr).1]; exact hk
              have hlT : l < mj_nl (mj_bk l (A 22 p) (nI b) (fun q => decide (q = p ∨ (q < k ∧ mj_ms A p q))) A) := by rw [(mj_n_pr hpr).2.2.1]; exact hlA
              have dn := done k
              generalize hT : mj_bk l (A 22 p) (nI b) (fun q => decide (q = p ∨ (q < k ∧ mj_ms A p q))) A = T at hS b25 b21 b22 b21p next take hnpT hlT dn ⊢
              refine t133_133 ⟨fun c => (mj_ps hS hnpT c).elim, fun _ => ⟨fun c3 => dn (fun q hq => decide_eq_decide.mpr ⟨fun z => z.elim (fun y => Or.inl ⟨c3, y⟩) (fun y => y.2), fun z => z.elim (fun y => Or.inl y.2) (fun y => absurd c3 y.1)⟩), fun c3 => ?_⟩⟩
              simp only [mj_rP0 yk, mj_wP0 yk, eq_true (mj_vP0 yk), mj_rP1 yk, mj_wP1 yk, eq_true (mj_vP1 yk), mj_rP2 yk, mj_wP2 yk, eq_true (mj_vP2 yk), mj_rP3 yk, mj_wP3 yk, eq_true (mj_vP3 yk), mj_rP4 yk, mj_wP4 yk, eq_true (mj_vP4 yk), mj_rP5 yk, mj_wP5 yk, eq_true (mj_vP5 yk), mj_rP6 yk, mj_wP6 yk, eq_true (mj_vP6 yk), mj_rP7 yk, mj_wP7 yk, eq_true (mj_vP7 yk), dk, true_and]
              rw [b25]
              refine ⟨fun c4 => next (Or.inr (fun z => z.elim (fun y => c3 y.1) (fun y => c4 y.2.1))), fun c4 => ⟨fun c5 => ?_, fun c5 => ⟨fun c6 => ?_, fun c6 => ?_⟩⟩⟩
              · by_cases y : k = p
                · exact next (Or.inl y)
                · rw [b21 y] at c5
                  exact next (Or.inr (fun z => z.elim (fun y => c3 y.1) (fun y => c5 y.2.2)))
              · by_cases y : k = p
                · exact next (Or.inl y)
                · rw [b21 y] at c5
                  rw [b22 y] at c6
                  exact absurd (m2 k hk (Or.inr ⟨c3, c4, c5⟩)).2 c6
              · have y : ¬ k = p := by
                  intro y
                  rw [y, b21p] at c5
                  exact absurd c5 (by decide)
                rw [b21 y] at c5
                refine sp131 hS hlT hnpT (by rw [c6]; exact vr) (t133_195 ?_)
                rw [c6]
                exact take y (Or.inr ⟨c3, c4, c5⟩)
          have eS0 : ∀ q, q < mj_np A → decide (q = p ∨ (q < 0 ∧ mj_ms A p q)) = ((fun _ => false : Nat → Bool) q || decide (q = p)) := fun q hq => by
            rw [Bool.false_or]
            exact decide_eq_decide.mpr ⟨fun z => z.elim id (fun w => absurd w.1 (Nat.not_lt_zero _)), Or.inl⟩
          rw [mj_bk_c eS0] at main
          exact main
      have rp : ¬ mj_sz A (mj_nv Z3) l p = 0 → ¬ (mj_ra Z l) ≤ 0 → 0 < (mj_ra A l).toInt := by
        intro _ z
        rw [mj_le, i0] at z
        rw [ra]; omega
      refine t133_69 ⟨fun c2 => no (fun z => z.1 ?_) _ _ _ _ _ _, fun c2 => ⟨fun c3 => no (fun z => ?_) _ _ _ _ _ _, fun c3 => ⟨fun c4 => ?_, fun c4 => ⟨fun c5 => no (fun z => ?_) _ _ _ _ _ _, fun c5 => ?_⟩⟩⟩⟩
      · rw [mj_le, nm, i0] at c2
        omega
      · rw [mj_le, i0] at c3
        have h0 : ¬ mj_sz A (mj_nv Z3) l p = 0 := z.1
        have hh := z.2.1
        rw [ra] at hh
        omega
      · rw [mj_le, nm, i0] at c2
        rw [nI_add, mj_le, ndm, ← ra] at c4
        exact room (by omega) (Or.inl c4)
      · rw [nI_add, mj_le, ndm, ← ra] at c4
        have hh := z.2.1
        have d0 : ¬ d = 0 := fun y => c5 (by rw [y]; rfl)
        omega
      · have d0 : d = 0 := (nI_eq (by omega) (by omega)).mp (show nI d = nI 0 from c5)
        rw [mj_le, nm, i0] at c2
        have c0 : ¬ mj_sz A (mj_nv Z3) l p = 0 := by omega
        exact room c0 (Or.inr ⟨d0, rp c0 c3⟩)
theorem sp117 (h : mj_Iv Z) (hp : p < mj_np Z) (c1 : Z 21 p = 1) (c2 : Z 26 p = Z 0 5) (hK : K 0 0 (mj_mm (mj_oA p (mj_a0 p Z)) X)) : mj_Cm 117 3 [.ref 0, .int (nI p), .int (Z 22 p)] (mj_mm Z X) K := by
  have ya := mj_qv h.s hp
  have da := mj_qc h.s hp
  have vr := mj_r10 h.s (h.a p hp).2.1
  have e : mj_mm (mj_a0 p Z) X = mj_mm (mj_u (mj_u Z 21 p 0) 5 (Z 22 p).toNatClampNeg (Z 5 (Z 22 p).toNatClampNeg + 1)) X := by
    unfold mj_a0
    rw [mj_uc _ _ _ (show 4 ≠ 5 by decide), mj_mm_4]
  refine e117 ?_
  simp only [mj_rP0 ya, mj_wP0 ya, eq_true (mj_vP0 ya), mj_rP1 ya, mj_wP1 ya, eq_true (mj_vP1 ya), mj_rP2 ya, mj_wP2 ya, eq_true (mj_vP2 ya), mj_rP3 ya, mj_wP3 ya, eq_true (mj_vP3 ya), mj_rP4 ya, mj_wP4 ya, eq_true (mj_vP4 ya), mj_rP5 ya, mj_wP5 ya, eq_true (mj_vP5 ya), mj_rP6 ya, mj_wP6 ya, eq_true (mj_vP6 ya), mj_rP7 ya, mj_wP7 ya, eq_true (mj_vP7 ya), mj_rR0 vr, mj_wR0 vr, eq_true (mj_vR0 vr), mj_rR1 vr, mj_wR1 vr, eq_true (mj_vR1 vr), mj_rR2 vr, mj_wR2 vr, eq_true (mj_vR2 vr), mj_rR3 vr, mj_wR3 vr, eq_true (mj_vR3 vr), mj_rR4 vr, mj_wR4 vr, eq_true (mj_vR4 vr), da, true_and, mj_rS1236, mj_wS1236, mj_rS1237, mj_wS1237, mj_rS1238, mj_wS1238, mj_rS1239, mj_wS1239, mj_rS1240, mj_wS1240, mj_rS1241, mj_wS1241]
  show mj_Cm 116 2 [.ref 0, .int (nI p)] (mj_mm (mj_u (mj_u (mj_u (mj_u Z 22 p (Z 22 p)) 21 p 0) 26 p (Z 0 5)) 5 (Z 22 p).toNatClampNeg (Z 5 (Z 22 p).toNatClampNeg + 1)) X) _
  rw [mj_u_id (Z := Z) (c := 22) rfl, mj_u_id (Z := mj_u Z 21 p 0) (c := 26) (i := p) (v := Z 0 5) c2, ← e]
  refine sp116 (mj_a0_Iv h hp c1) (by rw [(mj_n_pr (mj_a0_pr p Z)).1]; exact hp) (t117_65 ?_)
  exact hK
theorem mj_psA (h : mj_Iv Z) (hz : mj_Zb Z) (ho : mj_Oa 0 Z) {o2 o3 o4 : Option Value} (hK : mj_W 1 134 5 73 [some (.ref 0), some (.int (nI 0)), o2, o3, o4] [] (mj_mm (mj_arr Z) X) 0 K) : mj_W 1 134 5 14 [some (.ref 0), some (.int (nI 0)), o2, o3, o4] [] (mj_mm Z X) 0 K := by
  refine mj_down (P := fun k => mj_W 1 134 5 14 [some (.ref 0), some (.int (nI k)), o2, o3, o4] [] (mj_mm (mj_lo mj_a1 k Z) X) 0 K) (mj_np Z) ?_ ?_
  · obtain ⟨⟨k1, -, -, -⟩, k5⟩ := mj_arr_k h hz ho (mj_np Z) (Nat.le_refl _)
    exact t134_14 ⟨fun _ => hK, fun c => absurd (mj_pe k1.s (mj_n_pr k5).1.symm) c⟩
  · intro k hk ih
    obtain ⟨⟨k1, k2, k3, k4⟩, k5⟩ := mj_arr_k h hz ho k (by omega)
    have ih' : mj_W 1 134 5 14 [some (.ref 0), some (.int (nI (k + 1))), o2, o3, o4] [] (mj_mm (mj_a1 k (mj_lo mj_a1 k Z)) X) 0 K := ih
    generalize mj_lo mj_a1 k Z = A at k1 k2 k3 k4 k5 ih' ⊢
    have hp : k < mj_np A := by rw [(mj_n_pr k5).1]; exact hk
    have ya := mj_qv k1.s hp
    have da := mj_qc k1.s hp
    rw [← nI_1] at ih'
    unfold mj_a1 at ih'
    refine t134_14 ⟨fun c => (mj_ps k1.s hp c).elim, fun _ => ?_⟩
    simp only [mj_rP0 ya, mj_wP0 ya, eq_true (mj_vP0 ya), mj_rP1 ya, mj_wP1 ya, eq_true (mj_vP1 ya), mj_rP2 ya, mj_wP2 ya, eq_true (mj_vP2 ya), mj_rP3 ya, mj_wP3 ya, eq_true (mj_vP3 ya), mj_rP4 ya, mj_wP4 ya, eq_true (mj_vP4 ya), mj_rP5 ya, mj_wP5 ya, eq_true (mj_vP5 ya), mj_rP6 ya, mj_wP6 ya, eq_true (mj_vP6 ya), mj_rP7 ya, mj_wP7 ya, eq_true (mj_vP7 ya), da, true_and, mj_rS1236, mj_wS1236, mj_rS1237, mj_wS1237, mj_rS1238, mj_wS1238, mj_rS1239, mj_wS1239, mj_rS1240, mj_wS1240, mj_rS1241, mj_wS1241]
    refine ⟨fun c => ?_, fun c => ⟨fun c2 => ?_, fun c2 => ?_⟩⟩
    · rw [if_neg (fun z => c z.1)] at ih'
      exact ih'
    · rw [if_neg (fun z => c2 z.2)] at ih'
      exact ih'
    · rw [if_pos ⟨c, c2⟩] at ih'
      exact sp117 k1 hp c c2 (t134_65 ih')
theorem mj_psT (h : mj_J Z) {o2 o3 o4 : Option Value} (hK : mj_W 1 134 5 114 [some (.ref 0), some (.int (nI 0)), o2, o3, o4] [] (mj_mm (mj_srv Z) X) 0 K) : mj_W 1 134 5 73 [some (.ref 0), some (.int (nI 0)), o2, o3, o4] [] (mj_mm Z X) 0 K := by
  have i0 : (0 : Int32).toInt = 0 := by decide
  refine mj_down (P := fun k => mj_W 1 134 5 73 [some (.ref 0), some (.int (nI k)), o2, o3, o4] [] (mj_mm (mj_lo mj_sv k Z) X) 0 K) (mj_nt Z) ?_ ?_
  · obtain ⟨k1, k5⟩ := mj_srv_k h (mj_nt Z) (Nat.le_refl _)
    exact t134_73 ⟨fun _ => hK, fun c => absurd (mj_te k1.1.s (mj_n_pr k5).2.2.2.symm) c⟩
  · intro k hk ih
    obtain ⟨k1, k5⟩ := mj_srv_k h k (by omega)
    have ih' : mj_W 1 134 5 73 [some (.ref 0), some (.int (nI (k + 1))), o2, o3, o4] [] (mj_mm (mj_sv k (mj_lo mj_sv k Z)) X) 0 K := ih
    generalize mj_lo mj_sv k Z = A at k1 k5 ih' ⊢
    have ht : k < mj_nt A := by rw [(mj_n_pr k5).2.2.2]; exact hk
    have vt := mj_qt k1.1.s ht
    have ct := mj_qtc k1.1.s ht
    rw [← nI_1] at ih'
    unfold mj_sv at ih'
    refine t134_73 ⟨fun c => (mj_ts k1.1.s ht c).elim, fun _ => ?_⟩
    simp only [mj_rT0 vt, mj_wT0 vt, eq_true (mj_vT0 vt), mj_rT1 vt, mj_wT1 vt, eq_true (mj_vT1 vt), mj_rT2 vt, mj_wT2 vt, eq_true (mj_vT2 vt), mj_rT3 vt, mj_wT3 vt, eq_true (mj_vT3 vt), mj_rT4 vt, mj_wT4 vt, eq_true (mj_vT4 vt), mj_rT5 vt, mj_wT5 vt, eq_true (mj_vT5 vt), ct, true_and]
    refine ⟨fun c => ?_, fun c => ?_⟩
    · rw [if_neg (fun z => by rw [mj_lt] at z; rw [mj_le] at c; omega)] at ih'
      exact ih'
    · rw [if_pos (by rw [mj_le] at c; rw [mj_lt]; omega)] at ih'
      exact sp127 k1 ht (t134_106 ih')
theorem mj_psN (h : mj_J Z) {o2 o3 o4 : Option Value} (hK : ∀ X', (∀ c, c ≠ 3 → c ≠ 4 → X' c = X c) → (∀ i, i < mj_np Z → X' 4 i = mj_nv Z i) → mj_W 1 134 5 191 [some (.ref 0), some (.int (nI 0)), o2, o3, o4] [] (mj_mm (mj_kno Z) X') 0 K) : mj_W 1 134 5 114 [some (.ref 0), some (.int (nI 0)), o2, o3, o4] [] (mj_mm Z X) 0 K := by
  refine mj_down (P := fun k => ∀ X', (∀ c, c ≠ 3 → c ≠ 4 → X' c = X c) → (∀ i, i < k → X' 4 i = mj_nv Z i) → mj_W 1 134 5 114 [some (.ref 0), some (.int (nI k)), o2, o3, o4] [] (mj_mm (mj_lo mj_kn k Z) X') 0 K) (mj_np Z) ?_ ?_ X (fun _ _ _ => rfl) (fun i hi => absurd hi (Nat.not_lt_zero i))
  · intro X' x1 x2
    obtain ⟨k1, k2⟩ := mj_kno_k h (mj_np Z) (Nat.le_refl _)
    exact t134_114 ⟨fun _ => hK X' x1 x2, fun c => absurd (mj_pe k1.1.s (mj_n_pr k2).1.symm) c⟩
  · intro k hk ih X' x1 x2
    obtain ⟨k1, k2⟩ := mj_kno_k h k (by omega)
    obtain ⟨m1, m2⟩ := mj_kn_l Z k
    have ih' : ∀ X', (∀ c, c ≠ 3 → c ≠ 4 → X' c = X c) → (∀ i, i < k + 1 → X' 4 i = mj_nv Z i) → mj_W 1 134 5 114 [some (.ref 0), some (.int (nI (k + 1))), o2, o3, o4] [] (mj_mm (mj_kn k (mj_lo mj_kn k Z)) X') 0 K := ih
    generalize mj_lo mj_kn k Z = A at k1 k2 m1 m2 ih' ⊢
    have hpA : k < mj_np A := by rw [(mj_n_pr k2).1]; exact hk
    have hL := mj_S_L k1.1.s
    have e1 : mj_nl1 A k = mj_nl1 Z k := by
      unfold mj_nl1
      rw [m1 21 (by decide), m1 22 (by decide), m1 23 (by decide), m1 24 (by decide), m2 k, if_neg (show ¬ (k < k ∧ _) from fun z => absurd z.1 (Nat.lt_irrefl _)), mj_nx_pr (mj_s12 k2)]
    have e2 : mj_cld A (mj_nl1 A k) ↔ mj_cld Z (mj_nl1 Z k) := by
      rw [e1]
      unfold mj_cld
      rw [m1 16 (by decide)]
    have ya := mj_qv k1.1.s hpA
    have da := mj_qc k1.1.s hpA
    rw [← nI_1] at ih'
    refine t134_114 ⟨fun c => (mj_ps k1.1.s hpA c).elim, fun _ => ?_⟩
    refine sp113 k1.1 hpA (fun X2 y1 => ?_)
    refine t134_136 ⟨ya, ya, ?_⟩
    rw [da, mj_mm_wo _ _ _ _ (by decide)]
    have e4 : ∀ x, mj_mm A (mj_u X2 4 k x) 4 k = x := by
      intro x
      show mj_u X2 4 k x 4 k = x
      rw [mj_u_at, if_pos ⟨rfl, rfl⟩]
    rw [e4]
    have fr : ∀ x, (∀ c, c ≠ 3 → c ≠ 4 → mj_u X2 4 k x c = X c) := fun x c h1 h2 => by rw [mj_u_ne _ _ _ h2, y1 c h1, x1 c h1 h2]
    have hq : ∀ x : Int32, x = mj_nv Z k → ∀ i, i < k + 1 → mj_u X2 4 k x 4 i = mj_nv Z i := by
      intro x hx i hi
      rw [mj_u_at]
      by_cases e : i = k
      · subst e
        rw [if_pos ⟨rfl, rfl⟩, hx]
      · rw [if_neg (fun z => e z.2), y1 4 (by decide)]
        exact x2 i (by omega)
    have no : ¬ mj_cld A (mj_nl1 A k) → mj_W 1 134 5 114 [some (.ref 0), some (.int (nI k + 1)), o2, o3, o4] [] (mj_mm A (mj_u X2 4 k (mj_nl1 A k))) 0 K := by
      intro c
      have := ih' (mj_u X2 4 k (mj_nl1 A k)) (fr _) (hq _ (by
        unfold mj_nv
        rw [if_neg (fun z => c (e2.mpr z)), e1]))
      unfold mj_kn at this
      rw [if_neg c] at this
      exact this
    refine ⟨fun c => no (fun z => z.1 c), fun c => ?_⟩
    rcases mj_nl1_c k1.1 hpA with w | ⟨l, w1, w2, -⟩
    · exact absurd w c
    · have hx := mj_ql k1.1.s w1
      have hc := mj_qlc k1.1.s w1
      have b16 := (k1.1.s.2.2.2.2.2.1 l w1).1
      have no' := no
      have ecl : mj_cld A (mj_nl1 A k) ↔ ¬ A 16 l = 0 := by
        rw [w2]
        exact ⟨fun z => by have := z.2; rw [hc] at this; exact this, fun z => ⟨mj_nI_m1 (by omega), by rw [hc]; exact z⟩⟩
      rw [w2] at no ⊢
      simp only [mj_rL0 hx, mj_wL0 hx, eq_true (mj_vL0 hx), mj_rL1 hx, mj_wL1 hx, eq_true (mj_vL1 hx), mj_rL2 hx, mj_wL2 hx, eq_true (mj_vL2 hx), mj_rL3 hx, mj_wL3 hx, eq_true (mj_vL3 hx), mj_rL4 hx, mj_wL4 hx, eq_true (mj_vL4 hx), mj_rL5 hx, mj_wL5 hx, eq_true (mj_vL5 hx), mj_rL6 hx, mj_wL6 hx, eq_true (mj_vL6 hx), mj_rL7 hx, mj_wL7 hx, eq_true (mj_vL7 hx), mj_rL8 hx, mj_wL8 hx, eq_true (mj_vL8 hx), mj_rL9 hx, mj_wL9 hx, eq_true (mj_vL9 hx), mj_rL10 hx, mj_wL10 hx, eq_true (mj_vL10 hx), mj_rP0 ya, mj_wP0 ya, eq_true (mj_vP0 ya), mj_rP1 ya, mj_wP1 ya, eq_true (mj_vP1 ya), mj_rP2 ya, mj_wP2 ya, eq_true (mj_vP2 ya), mj_rP3 ya, mj_wP3 ya, eq_true (mj_vP3 ya), mj_rP4 ya, mj_wP4 ya, eq_true (mj_vP4 ya), mj_rP5 ya, mj_wP5 ya, eq_true (mj_vP5 ya), mj_rP6 ya, mj_wP6 ya, eq_true (mj_vP6 ya), mj_rP7 ya, mj_wP7 ya, eq_true (mj_vP7 ya), hc, da, true_and]
      refine ⟨fun c2 => no (fun z => c2 ?_), fun c2 => ?_⟩
      · rw [mj_bit1 b16]
        rw [w2] at ecl
        exact ecl.mp z
      · rw [mj_bit1 b16] at c2
        have z := ecl.mpr c2
        rw [mj_mm_wo _ _ _ _ (by decide)]
        have := ih' (mj_u (mj_u X2 4 k (nI l)) 4 k (-1)) (fun c h1 h2 => by rw [mj_u_ne _ _ _ h2]; exact fr _ c h1 h2) (fun i hi => by
          rw [mj_u_at]
          by_cases e : i = k
          · subst e
            rw [if_pos ⟨rfl, rfl⟩]
            unfold mj_nv
            rw [if_pos (e2.mp z)]
          · rw [if_neg (fun z => e z.2), mj_u_at, if_neg (fun z => e z.2), y1 4 (by decide)]
            exact x2 i (by omega))
        unfold mj_kn at this
        rw [if_pos z] at this
        exact this
theorem mj_psL (h : mj_J Z) {o2 o3 o4 : Option Value} (hX : ∀ i, i < mj_np Z → X 4 i = mj_nv Z i) (hK : ∀ X', (∀ c, c ≠ 5 → X' c = X c) → mj_W 1 134 5 227 [some (.ref 0), some (.int (nI 0)), o2, o3, o4] [] (mj_mm (mj_lo (mj_lk (mj_nv Z)) (mj_nl Z) (mj_kno Z)) X') 0 K) : mj_W 1 134 5 191 [some (.ref 0), some (.int (nI 0)), o2, o3, o4] [] (mj_mm (mj_kno Z) X) 0 K := by
  refine mj_down (P := fun k => ∀ X', (∀ c, c ≠ 5 → X' c = X c) → mj_W 1 134 5 191 [some (.ref 0), some (.int (nI k)), o2, o3, o4] [] (mj_mm (mj_lo (mj_lk (mj_nv Z)) k (mj_kno Z)) X') 0 K) (mj_nl Z) ?_ ?_ X (fun _ _ => rfl)
  · intro X' x1
    obtain ⟨k1, k2⟩ := mj_lks_ok h (mj_nl Z) (by omega)
    exact t134_191 ⟨fun _ => hK X' x1, fun c => absurd (mj_lle k1.1.s (mj_n_pr k2.1).2.2.1.symm) c⟩
  · intro k hk ih X' x1
    obtain ⟨k1, k2⟩ := mj_lks_ok h k (by omega)
    have ih' : ∀ X', (∀ c, c ≠ 5 → X' c = X c) → mj_W 1 134 5 191 [some (.ref 0), some (.int (nI (k + 1))), o2, o3, o4] [] (mj_mm (mj_lk (mj_nv Z) k (mj_lo (mj_lk (mj_nv Z)) k (mj_kno Z))) X') 0 K := ih
    generalize mj_lo (mj_lk (mj_nv Z)) k (mj_kno Z) = A at k1 k2 ih' ⊢
    have kL := (mj_n_pr k2.1).2.2.1
    have kP := (mj_n_pr k2.1).1
    have hkA : k < mj_nl A := by omega
    have hx := mj_ql k1.1.s hkA
    have hc := mj_qlc k1.1.s hkA
    rw [← nI_1] at ih'
    refine t134_191 ⟨fun c => (mj_lls k1.1.s hkA c).elim, fun _ => ?_⟩
    simp only [mj_rL0 hx, mj_wL0 hx, eq_true (mj_vL0 hx), mj_rL1 hx, mj_wL1 hx, eq_true (mj_vL1 hx), mj_rL2 hx, mj_wL2 hx, eq_true (mj_vL2 hx), mj_rL3 hx, mj_wL3 hx, eq_true (mj_vL3 hx), mj_rL4 hx, mj_wL4 hx, eq_true (mj_vL4 hx), mj_rL5 hx, mj_wL5 hx, eq_true (mj_vL5 hx), mj_rL6 hx, mj_wL6 hx, eq_true (mj_vL6 hx), mj_rL7 hx, mj_wL7 hx, eq_true (mj_vL7 hx), mj_rL8 hx, mj_wL8 hx, eq_true (mj_vL8 hx), mj_rL9 hx, mj_wL9 hx, eq_true (mj_vL9 hx), mj_rL10 hx, mj_wL10 hx, eq_true (mj_vL10 hx), hc, true_and]
    refine ⟨fun c => ?_, fun c => ?_⟩
    · have e : mj_lk (mj_nv Z) k A = A := by
        unfold mj_lk
        exact if_neg c
      rw [e] at ih'
      exact ih' X' x1
    · refine sp133 h.1 k1 k2 hkA c (fun i hi => ?_) (fun X2 w1 => ?_)
      · rw [x1 4 (by decide)]
        exact hX i (by omega)
      · exact t134_219 (ih' X2 (fun c hc => by rw [w1 c hc, x1 c hc]))
theorem mj_psR (h : mj_J Z) (hK : K 0 0 (mj_mm (mj_lo mj_alr (mj_nr Z) Z) X)) : ∀ o2 o3 o4, mj_W 1 134 5 227 [some (.ref 0), some (.int (nI 0)), o2, o3, o4] [] (mj_mm Z X) 0 K := by
  refine mj_down (P := fun k => ∀ o2 o3 o4, mj_W 1 134 5 227 [some (.ref 0), some (.int (nI k)), o2, o3, o4] [] (mj_mm (mj_lo mj_alr k Z) X) 0 K) (mj_nr Z) ?_ ?_
  · intro o2 o3 o4
    obtain ⟨k1, k2⟩ := mj_alr_k h (mj_nr Z) (Nat.le_refl _)
    exact t134_227 ⟨fun _ => hK, fun c => absurd (mj_rre k1.1.s (mj_n_pr k2).2.1.symm) c⟩
  · intro k hk ih o2 o3 o4
    obtain ⟨k1, k2⟩ := mj_alr_k h k (by omega)
    have ih' : ∀ o2 o3 o4, mj_W 1 134 5 227 [some (.ref 0), some (.int (nI (k + 1))), o2, o3, o4] [] (mj_mm (mj_alr k (mj_lo mj_alr k Z)) X) 0 K := ih
    generalize mj_lo mj_alr k Z = A at k1 k2 ih' ⊢
    have hkA : k < mj_nr A := by rw [(mj_n_pr k2).2.1]; exact hk
    have vr := mj_qr k1.1.s hkA
    have cr := mj_qrc k1.1.s hkA
    obtain ⟨l1, l2⟩ := k1.1.s.2.2.2.2.1 k hkA
    have ca := k1.1.c k hkA
    have cle : mj_ct A k 0 ≤ 120 := Nat.le_trans (mj_cb_le _ _) (mj_S_P k1.1.s).1
    have n0 := nI_toInt (show mj_ct A k 0 < 2 ^ 31 by omega)
    have i10 : (10 : Int32).toInt = 10 := by decide
    have i9 : (9 : Int32).toInt = 9 := by decide
    have i7 : (7 : Int32).toInt = 7 := by decide
    have t10 : (10 * nI (mj_ct A k 0) : Int32).toInt = 10 * (mj_ct A k 0 : Int) := by rw [fb_mulI (by rw [i10]; omega) (by rw [i10]; omega), i10, n0]
    have t9 : (9 * A 3 k : Int32).toInt = 9 * (A 3 k).toInt := by rw [fb_mulI (by rw [i9]; omega) (by rw [i9]; omega), i9]
    have t7 : (7 * A 3 k : Int32).toInt = 7 * (A 3 k).toInt := by rw [fb_mulI (by rw [i7]; omega) (by rw [i7]; omega), i7]
    unfold mj_alr at ih'
    rw [← nI_1] at ih'
    have f0 : A 2 k = 0 → ∀ o2 o3 o4, mj_W 1 134 5 227 [some (.ref 0), some (.int (nI k + 1)), o2, o3, o4] [] (mj_mm (mj_u A 7 k 0) X) 0 K := by
      intro c
      rw [if_pos c] at ih'
      rw [mj_u_id (ca.2 c)]
      exact ih'
    have f1 : ¬ A 2 k = 0 → (9 * (A 3 k).toInt ≤ 10 * (mj_ct A k 0 : Int) ∨ (A 7 k = 1 ∧ 7 * (A 3 k).toInt < 10 * (mj_ct A k 0 : Int))) → ∀ o2 o3 o4, mj_W 1 134 5 227 [some (.ref 0), some (.int (nI k + 1)), o2, o3, o4] [] (mj_mm (mj_u A 7 k 1) X) 0 K := by
      intro c c2
      rw [if_neg c, if_pos c2] at ih'
      exact ih'
    have f2 : ¬ A 2 k = 0 → ¬ (9 * (A 3 k).toInt ≤ 10 * (mj_ct A k 0 : Int) ∨ (A 7 k = 1 ∧ 7 * (A 3 k).toInt < 10 * (mj_ct A k 0 : Int))) → ∀ o2 o3 o4, mj_W 1 134 5 227 [some (.ref 0), some (.int (nI k + 1)), o2, o3, o4] [] (mj_mm (mj_u A 7 k 0) X) 0 K := by
      intro c c2
      rw [if_neg c, if_neg c2] at ih'
      exact ih'
    refine t134_227 ⟨fun c => (mj_rrs k1.1.s hkA c).elim, fun _ => sp114 k1.1.s hkA (t134_247 ?_)⟩
    simp only [mj_rR0 vr, mj_wR0 vr, eq_true (mj_vR0 vr), mj_rR1 vr, mj_wR1 vr, eq_true (mj_vR1 vr), mj_rR2 vr, mj_wR2 vr, eq_true (mj_vR2 vr), mj_rR3 vr, mj_wR3 vr, eq_true (mj_vR3 vr), mj_rR4 vr, mj_wR4 vr, eq_true (mj_vR4 vr), cr, true_and]
    refine ⟨fun c => ⟨fun c2 => f0 c2 _ _ _, fun c2 => f1 c2 (Or.inl ?_) _ _ _⟩, fun c => ⟨fun c2 => ⟨fun c3 => f0 c3 _ _ _, fun c3 => f2 c3 (fun z => ?_) _ _ _⟩, fun c2 => ⟨fun c3 => ⟨fun c4 => f0 c4 _ _ _, fun c4 => f2 c4 (fun z => ?_) _ _ _⟩, fun c3 => ⟨fun c4 => f0 c4 _ _ _, fun c4 => f1 c4 (Or.inr ⟨c2, ?_⟩) _ _ _⟩⟩⟩⟩
    · rw [mj_le, t9, t10] at c
      exact c
    · rw [mj_le, t9, t10] at c
      exact z.elim c (fun y => c2 y.1)
    · rw [mj_le, t9, t10] at c
      rw [mj_le, t7, t10] at c3
      exact z.elim c (fun y => by have := y.2; omega)
    · rw [mj_le, t7, t10] at c3
      omega
/-- a second passes -/
theorem sp134 (h : mj_J Z) (hb : (Z 0 5).toInt < 1000000) (hK : ∀ X', (∀ c, c ≠ 3 → c ≠ 4 → c ≠ 5 → X' c = X c) → K 0 0 (mj_mm (mj_sec Z) X')) : mj_Cm 134 5 [.ref 0] (mj_mm Z X) K := by
  obtain ⟨t1, t2, t3, t4, t5⟩ := mj_tick_ok h hb
  obtain ⟨a1, a2, a3, a4, a5⟩ := mj_arr_ok t1 t2 t3
  obtain ⟨s1, s2⟩ := mj_sec3_ok h hb
  have hnl : mj_nl (mj_sec3 Z) = mj_nl Z := (mj_n_pr s2).2.2.1
  obtain ⟨k1, k2⟩ := mj_lks_ok s1 (mj_nl (mj_sec3 Z)) (Nat.le_refl _)
  refine e134 ?_
  simp only [mj_rS1236, mj_wS1236, mj_rS1237, mj_wS1237, mj_rS1238, mj_wS1238, mj_rS1239, mj_wS1239, mj_rS1240, mj_wS1240, mj_rS1241, mj_wS1241]
  show mj_W 1 134 5 14 [some (.ref 0), some (.int (nI 0)), none, none, none] [] (mj_mm (mj_tick Z) X) 0 K
  refine mj_psA t1 t2 t3 (mj_psT ⟨a1, a2, a3⟩ ?_)
  show mj_W 1 134 5 114 [some (.ref 0), some (.int (nI 0)), none, none, none] [] (mj_mm (mj_sec3 Z) X) 0 K
  refine mj_psN s1 (fun X1 x1 x2 => mj_psL s1 x2 (fun X2 y1 => mj_psR k1 ?_ _ _ _))
  have er : mj_nr (mj_lo (mj_lk (mj_nv (mj_sec3 Z))) (mj_nl (mj_sec3 Z)) (mj_kno (mj_sec3 Z))) = mj_nr Z := by rw [(mj_n_pr k2.1).2.1, (mj_n_pr s2).2.1]
  have := hK X2 (fun c h1 h2 h3 => by rw [y1 c h3, x1 c h1 h2])
  rw [er, hnl]
  rw [mj_sec_def] at this
  exact this
end MOE
