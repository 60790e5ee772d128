-- THE STATION'S METHODS, E: a second
section STE
variable {Z Z3 Y : mj_M} {K : mj_K} {p l : Nat}
theorem mj_sz_rd {v : Nat → Int32} (hg : ¬ Z 25 p = -1) (h0 : ¬ mj_sz Z v l p = 0) : ∀ q, q < mj_np Z → mj_mb Z p q → mj_rd Z v l p q := by
  unfold mj_sz at h0
  rw [if_neg hg] at h0
  intro q hq hm
  by_cases c : mj_cb (fun q => decide (mj_mb Z p q ∧ ¬ mj_rd Z v l p q)) (mj_np Z) = 0
  · have := of_decide_eq_false (mj_cb_pos _ c q hq)
    by_cases z : mj_rd Z v l p q
    · exact z
    · exact absurd ⟨hm, z⟩ this
  · rw [if_neg c] at h0
    exact absurd rfl h0
theorem mj_sz_le (v : Nat → Int32) (hP : mj_np Z ≤ 120) : mj_sz Z v l p ≤ 120 := by
  unfold mj_sz
  split
  · omega
  · split
    · exact Nat.le_trans (mj_cb_le _ _) hP
    · omega
theorem mj_rb_pr {Z' : mj_M} (h : mj_pr mj_s1 Z' = mj_pr mj_s1 Z) (c k : Int32) (l : Nat) (a : Int32) : mj_rb Z' c k l a = mj_rb Z c k l a := by
  have h1 : mj_rb (mj_pr mj_s1 Z') c k l a = mj_rb Z c k l a := by rw [h]; rfl
  exact h1
theorem sp59 (h3 : mj_Iv Z3) (h : mj_J Z) (hV : mj_Vw Z3 Z) (hl : l < mj_nl Z) (hp : p < mj_np Z) (hv : mj_nv Z3 p = nI l) (hw : Z 21 p = 0) {d : Nat} (hd : d < 2 ^ 19) (hY : Y 0 9 = nI d) (hY2 : ∀ i, i < mj_np Z → Y 38 i = mj_nv Z3 i)
    (hK : ∀ Y', (∀ c, c ≠ 0 → Y' c = Y c) → (∀ j, j ≠ 9 → Y' 0 j = Y 0 j) → Y' 0 9 = nI (mj_be1 (mj_nv Z3) l p (Z, d)).2 → K 0 0 (mj_cc (mj_be1 (mj_nv Z3) l p (Z, d)).1 Y')) : mj_Cm 59 4 [.ref 0, .int (nI p), .int (nI l)] (mj_cc Z Y) K := by
  have hc := mj_qc h.1.s hp
  have hP := (mj_S_P h.1.s).1
  have hR := mj_S_R h.1.s
  have hsz := mj_sz_le (Z := Z) (l := l) (p := p) (mj_nv Z3) hP
  obtain ⟨a, b, ha, hb, hab, e1, e2, e3⟩ := mj_Vw_beh h3 h.1 hV hl hp hv hw
  have no : ¬ (¬ mj_sz Z (mj_nv Z3) l p = 0 ∧ mj_hp Z l (mj_sz Z (mj_nv Z3) l p) d p) → K 0 0 (mj_cc Z Y) := by
    intro c
    have e : mj_be1 (mj_nv Z3) l p (Z, d) = (Z, d) := by
      unfold mj_be1
      exact if_neg (fun z => c z.2)
    rw [e] at hK
    exact hK Y (fun _ _ => rfl) (fun _ _ => rfl) hY
  refine e59 (sp60 h.1 hp hw hY2 ?_)
  refine t59_6 ⟨fun c => no (fun z => z.1 ?_), fun c => ?_⟩
  · exact (nI_eq (by omega) (by omega)).mp (show nI _ = nI 0 from c)
  · have c0 : ¬ mj_sz Z (mj_nv Z3) l p = 0 := fun z => c (by rw [z]; rfl)
    refine sp61 h.1 hl hp (by omega) (by omega) c0 hY hb e3 e2 ?_
    refine t59_18 ⟨fun c2 => ⟨mj_qv h.1.s hp, ?_⟩, fun c2 => no (fun z => mj_bi0.mp c2 z.2)⟩
    have ch := mj_bi1.mp c2
    rw [hc]
    obtain ⟨m1, m2⟩ := mj_sz_ms hw hp c0
    have e : mj_be1 (mj_nv Z3) l p (Z, d) = (mj_bk l (Z 22 p) (nI b) (fun q => decide (mj_ms Z p q)) Z, d + mj_sz Z (mj_nv Z3) l p) := by
      unfold mj_be1
      rw [if_pos ⟨hw, c0, ch⟩]
      dsimp only
      rw [e2]
    rw [e] at hK
    dsimp only at hK
    refine ⟨fun c3 => ?_, fun c3 => ?_⟩
    · have c3' : ¬ Z 25 p = -1 := c3
      have hrd := mj_sz_rd (v := mj_nv Z3) c3' c0
      have main : ∀ Y', (∀ c, c ≠ 0 → Y' c = Y c) → (∀ j, j ≠ 9 → Y' 0 j = Y 0 j) → Y' 0 9 = nI (d + mj_cb (fun q => decide (q < 0 ∧ mj_ms Z p q)) (mj_np Z)) → mj_W 0 59 4 49 [some (.ref 0), some (.int (nI p)), some (.int (nI l)), some (.int (nI (mj_sz Z (mj_nv Z3) l p))), some (.int (Z 25 p)), some (.int (nI 0))] [] (mj_cc (mj_bk l (Z 22 p) (nI b) (fun q => decide (q < 0 ∧ mj_ms Z p q)) Z) Y') 0 K := by
        refine mj_down (P := fun k => ∀ Y', (∀ c, c ≠ 0 → Y' c = Y c) → (∀ j, j ≠ 9 → Y' 0 j = Y 0 j) → Y' 0 9 = nI (d + mj_cb (fun q => decide (q < k ∧ mj_ms Z p q)) (mj_np Z)) → mj_W 0 59 4 49 [some (.ref 0), some (.int (nI p)), some (.int (nI l)), some (.int (nI (mj_sz Z (mj_nv Z3) l p))), some (.int (Z 25 p)), some (.int (nI k))] [] (mj_cc (mj_bk l (Z 22 p) (nI b) (fun q => decide (q < k ∧ mj_ms Z p q)) Z) Y') 0 K) (mj_np Z) ?_ ?_
        · intro Y' y1 y2 y3
          have eS : ∀ q, q < mj_np Z → decide (q < mj_np Z ∧ mj_ms Z p q) = decide (mj_ms Z p q) := fun q hq => by
            congr 1
            exact propext ⟨fun z => z.2, fun z => ⟨hq, z⟩⟩
          rw [mj_bk_c eS]
          rw [mj_cb_c _ eS, m1] at y3
          have hpr := mj_bk_pr l (Z 22 p) (nI b) (fun q => decide (mj_ms Z p q)) Z
          exact t59_49 ⟨fun _ => hK Y' y1 y2 y3, fun c => absurd (mj_pe (mj_S_pr hpr h.1.s) (mj_n_pr hpr).1.symm) c⟩
        · intro k hk ih Y' y1 y2 y3
          have hpr := mj_bk_pr l (Z 22 p) (nI b) (fun q => decide (q < k ∧ mj_ms Z p q)) Z
          have hle : mj_cb (fun q => decide (q < k ∧ mj_ms Z p q)) (mj_np Z) ≤ mj_sz Z (mj_nv Z3) l p := by
            rw [← m1]
            exact mj_cb_mono (fun i hi => decide_eq_true (of_decide_eq_true hi).2) _
          have hJ : mj_J (mj_bk l (Z 22 p) (nI b) (fun q => decide (q < k ∧ mj_ms Z p q)) Z) := by
            rw [e1]
            refine mj_bk_J h hl ha hb hab (fun q hq hs => ?_) ?_
            · obtain ⟨x1, x2⟩ := m2 q hq (of_decide_eq_true hs).2
              exact ⟨by rw [x2, e1], x1⟩
            · have := ch.2
              rw [e2, nI_clamp (by omega)] at this
              rcases this with t | t
              · exact Or.inl t
              · exact Or.inr (by omega)
          have b25 : mj_bk l (Z 22 p) (nI b) (fun q => decide (q < k ∧ mj_ms Z p q)) Z 25 = Z 25 := mj_bk_o (by decide)
          have b24 : mj_bk l (Z 22 p) (nI b) (fun q => decide (q < k ∧ mj_ms Z p q)) Z 24 = Z 24 := mj_bk_o (by decide)
          have b40 : mj_bk l (Z 22 p) (nI b) (fun q => decide (q < k ∧ mj_ms Z p q)) Z 40 = Z 40 := mj_bk_o (by decide)
          have hkk : ¬ (k < mj_np Z ∧ decide (k < k ∧ mj_ms Z p k) = true) := fun z => absurd (of_decide_eq_true z.2).1 (Nat.lt_irrefl _)
          have b21 : mj_bk l (Z 22 p) (nI b) (fun q => decide (q < k ∧ mj_ms Z p q)) Z 21 k = Z 21 k := by rw [mj_bk_21, if_neg hkk]
          have b22 : mj_bk l (Z 22 p) (nI b) (fun q => decide (q < k ∧ mj_ms Z p q)) Z 22 k = Z 22 k := by rw [mj_bk_22, if_neg hkk]
          have add := mj_on_bk (Z := Z) (l := l) (p := k) (r := Z 22 p) (b := nI b) (S := fun q => decide (q < k ∧ mj_ms Z p q)) hk (decide_eq_false (fun z => absurd z.1 (Nat.lt_irrefl _)))
          have hnpX : k < mj_np (mj_bk l (Z 22 p) (nI b) (fun q => decide (q < k ∧ mj_ms Z p q)) Z) := by rw [(mj_n_pr hpr).1]; exact hk
          have hlX : l < mj_nl (mj_bk l (Z 22 p) (nI b) (fun q => decide (q < k ∧ mj_ms Z p q)) Z) := by rw [(mj_n_pr hpr).2.2.1]; exact hl
          have hbX : b < mj_nr (mj_bk l (Z 22 p) (nI b) (fun q => decide (q < k ∧ mj_ms Z p q)) Z) := by rw [(mj_n_pr hpr).2.1]; exact hb
          have hrbX := mj_rb_pr hpr (Z 24 k) (Z 40 k) l (Z 22 k)
          have cad := mj_cb_add (p := k) (S := fun q => decide (q < k ∧ mj_ms Z p q)) (decide_eq_false (fun z => absurd z.1 (Nat.lt_irrefl _))) (mj_np Z) hk
          have skip : ¬ mj_ms Z p k → mj_W 0 59 4 49 [some (.ref 0), some (.int (nI p)), some (.int (nI l)), some (.int (nI (mj_sz Z (mj_nv Z3) l p))), some (.int (Z 25 p)), some (.int (nI k + 1))] [] (mj_cc (mj_bk l (Z 22 p) (nI b) (fun q => decide (q < k ∧ mj_ms Z p q)) Z) Y') 0 K := by
            intro c
            have eS : ∀ q, q < mj_np Z → decide (q < k + 1 ∧ mj_ms Z p q) = decide (q < k ∧ mj_ms Z p q) := fun q hq => by
              congr 1
              refine propext ⟨fun z => ⟨?_, z.2⟩, fun z => ⟨by omega, z.2⟩⟩
              by_cases e : q = k
              · subst e; exact absurd z.2 c
              · omega
            rw [mj_bk_c eS, mj_cb_c _ eS] at ih
            rw [nI_1]
            exact ih Y' y1 y2 y3
          have take : mj_ms Z p k → ∀ Y', (∀ c, c ≠ 0 → Y' c = Y c) → (∀ j, j ≠ 9 → Y' 0 j = Y 0 j) → Y' 0 9 = nI (d + (mj_cb (fun q => decide (q < k ∧ mj_ms Z p q)) (mj_np Z) + 1)) → mj_W 0 59 4 49 [some (.ref 0), some (.int (nI p)), some (.int (nI l)), some (.int (nI (mj_sz Z (mj_nv Z3) l p))), some (.int (Z 25 p)), some (.int (nI k + 1))] [] (mj_cc (mj_on l (Z 22 p) (nI b) k (mj_bk l (Z 22 p) (nI b) (fun q => decide (q < k ∧ mj_ms Z p q)) Z)) Y') 0 K := by
            intro c Y' y1 y2 y3
            have eS : ∀ q, q < mj_np Z → decide (q < k + 1 ∧ mj_ms Z p q) = (decide (q < k ∧ mj_ms Z p q) || decide (q = k)) := fun q hq => by
              by_cases e : q = k
              · subst e
                rw [decide_eq_true (show q < q + 1 ∧ mj_ms Z p q from ⟨by omega, c⟩), decide_eq_true (show q = q from rfl), Bool.or_true]
              · rw [decide_eq_false e, Bool.or_false]
                congr 1
                exact propext ⟨fun z => ⟨by omega, z.2⟩, fun z => ⟨by omega, z.2⟩⟩
            rw [add, ← mj_bk_c eS, nI_1]
            refine ih Y' y1 y2 ?_
            rw [mj_cb_c _ eS, cad]
            exact y3
          generalize mj_bk l (Z 22 p) (nI b) (fun q => decide (q < k ∧ mj_ms Z p q)) Z = X at hpr hJ b25 b24 b40 b21 b22 hnpX hlX hbX hrbX skip take ⊢
          have hck := mj_qc h.1.s hk
          refine t59_49 ⟨fun c => (mj_ps hJ.1.s hnpX c).elim, fun _ => ⟨mj_qv h.1.s hk, ?_⟩⟩
          rw [hck]
          refine ⟨fun c4 => skip (fun z => ?_), fun c4 => ⟨mj_b20 hJ.1.s, fun c5 => skip (fun z => ?_), fun c5 => ?_⟩⟩
          · have c4' : ¬ X 25 k = Z 25 p := c4
            rw [b25] at c4'
            rcases z with z | z
            · exact c3' z.1
            · exact c4' z.2.1
          · rw [mj_q20 hJ.1.s hnpX, b21] at c5
            rcases z with z | z
            · exact c3' z.1
            · exact c5 z.2.2
          · rw [mj_q20 hJ.1.s hnpX, b21] at c5
            have c4' : X 25 k = Z 25 p := c4
            rw [b25] at c4'
            obtain ⟨r1, r2, r3⟩ := hrd k hk ⟨c4', Or.inl c5⟩
            obtain ⟨a', b', ha', hb', hab', f1, f2, f3⟩ := mj_Vw_beh h3 h.1 hV hl hk r2 r1
            have eb : nI b' = nI b := by rw [← f2, r3, e2]
            have rX : mj_rb X (X 24 k) (X 40 k) l (X 22 k) = nI b := by
              rw [b24, b40, b22, hrbX, f3, eb]
            refine sp62 hJ.1 hlX hnpX hbX rX ?_
            refine t59_95 ?_
            rw [b22, r3]
            refine take (Or.inr ⟨c3', c4', c5⟩) _ (fun c hc => by rw [mj_u_ne _ _ _ hc]; exact y1 c hc) (fun j hj => by rw [mj_u_at, if_neg (fun z => hj z.2)]; exact y2 j hj) ?_
            rw [mj_u_at, if_pos ⟨rfl, rfl⟩, y3, nI_1]
            congr 1
      have m0 := main Y (fun _ _ => rfl) (fun _ _ => rfl) (by
        rw [hY, mj_cb_0 _ (fun j hj => decide_eq_false (fun z => absurd z.1 (Nat.not_lt_zero _)))]
        rfl)
      rw [mj_bk_0 (fun q hq => decide_eq_false (fun z => absurd z.1 (Nat.not_lt_zero _)))] at m0
      exact m0
    · have c3' : Z 25 p = -1 := c3
      refine sp62 h.1 hl hp hb e3 ?_
      refine t59_45 ?_
      have eS : ∀ q, q < mj_np Z → ((fun _ => false : Nat → Bool) q || decide (q = p)) = decide (mj_ms Z p q) := fun q hq => by
        rw [Bool.false_or]
        congr 1
        exact propext ⟨fun z => Or.inl ⟨c3', z⟩, fun z => z.elim (fun y => y.2) (fun y => absurd c3' y.1)⟩
      have add := mj_on_bk (Z := Z) (l := l) (p := p) (r := Z 22 p) (b := nI b) (S := fun _ => false) hp rfl
      rw [mj_bk_0 (fun q hq => rfl), mj_bk_c eS] at add
      rw [add]
      refine hK _ (fun c hc => mj_u_ne _ _ _ hc) (fun j hj => by rw [mj_u_at, if_neg (fun z => hj z.2)]) ?_
      rw [mj_u_at, if_pos ⟨rfl, rfl⟩, hY, nI_1]
      have : mj_sz Z (mj_nv Z3) l p = 1 := by unfold mj_sz; rw [if_pos c3']
      rw [this]
end STE
