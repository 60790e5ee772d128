-- THE LAW'S METHODS, L: copies, and what is foretold on them
section LWM
variable {Z Z' X M : mj_M} {K : mj_K} {p l r t a b i : Nat}
/-- k places of row s laid into row d -/
def mz_cp (M : mj_M) (s d k : Nat) : mj_M := fun c i => if c = d ∧ i < k then M s i else M c i
theorem mz_cp_0 {s d : Nat} : mz_cp M s d 0 = M := by
  funext c i
  unfold mz_cp
  rw [if_neg (fun z => absurd z.2 (Nat.not_lt_zero i))]
theorem mz_cp_s {s d k : Nat} (h : s ≠ d) : mj_u (mz_cp M s d k) d k (mz_cp M s d k s k) = mz_cp M s d (k + 1) := by
  funext c i
  rw [mj_u_at]
  unfold mz_cp
  rw [if_neg (show ¬ (s = d ∧ k < k) from fun z => h z.1)]
  by_cases e : c = d ∧ i = k
  · rw [if_pos e, if_pos ⟨e.1, by omega⟩, e.2]
  · rw [if_neg e]
    by_cases e2 : c = d ∧ i < k
    · rw [if_pos e2, if_pos ⟨e2.1, by omega⟩]
    · rw [if_neg e2, if_neg (fun z => by
        by_cases e3 : i = k
        · exact e ⟨z.1, e3⟩
        · exact e2 ⟨z.1, by omega⟩)]
theorem sp104a {n : Nat} (hn : n ≤ 64) (hK : K 0 0 (mz_cp M 0 5 n)) : mj_Cm 104 1 [.ref 0, .ref 5, .int (nI n)] M K := by
  refine e104a ?_
  have main := mj_down (P := fun k => mj_W 8 104 1 2 [some (.ref 0), some (.ref 5), some (.int (nI n)), some (.int (nI k))] [] (mz_cp M 0 5 k) 0 K) n ?_ ?_
  · rw [mz_cp_0] at main
    exact main
  · exact t104_2a ⟨fun _ => hK, fun c => absurd (nI_le (Nat.le_refl n) (by omega)) c⟩
  · intro k hk ih
    have ck : (nI k).toNatClampNeg = k := nI_clamp (by omega)
    refine t104_2a ⟨fun c => absurd c (nI_ge hk (by omega)), fun _ => ⟨vp_in_nI (by omega) (by decide), ?_⟩⟩
    rw [ck, mz_cp_s (by decide), nI_1]
    exact ih
theorem sp104b {n : Nat} (hn : n ≤ 55) (hK : K 0 0 (mz_cp M 1 6 n)) : mj_Cm 104 1 [.ref 1, .ref 6, .int (nI n)] M K := by
  refine e104b ?_
  have main := mj_down (P := fun k => mj_W 8 104 1 2 [some (.ref 1), some (.ref 6), some (.int (nI n)), some (.int (nI k))] [] (mz_cp M 1 6 k) 0 K) n ?_ ?_
  · rw [mz_cp_0] at main
    exact main
  · exact t104_2b ⟨fun _ => hK, fun c => absurd (nI_le (Nat.le_refl n) (by omega)) c⟩
  · intro k hk ih
    have ck : (nI k).toNatClampNeg = k := nI_clamp (by omega)
    refine t104_2b ⟨fun c => absurd c (nI_ge hk (by omega)), fun _ => ⟨vp_in_nI (by omega) (by decide), ?_⟩⟩
    rw [ck, mz_cp_s (by decide), nI_1]
    exact ih
theorem sp104c {n : Nat} (hn : n ≤ 30) (hK : K 0 0 (mz_cp M 2 7 n)) : mj_Cm 104 1 [.ref 2, .ref 7, .int (nI n)] M K := by
  refine e104c ?_
  have main := mj_down (P := fun k => mj_W 8 104 1 2 [some (.ref 2), some (.ref 7), some (.int (nI n)), some (.int (nI k))] [] (mz_cp M 2 7 k) 0 K) n ?_ ?_
  · rw [mz_cp_0] at main
    exact main
  · exact t104_2c ⟨fun _ => hK, fun c => absurd (nI_le (Nat.le_refl n) (by omega)) c⟩
  · intro k hk ih
    have ck : (nI k).toNatClampNeg = k := nI_clamp (by omega)
    refine t104_2c ⟨fun c => absurd c (nI_ge hk (by omega)), fun _ => ⟨vp_in_nI (by omega) (by decide), ?_⟩⟩
    rw [ck, mz_cp_s (by decide), nI_1]
    exact ih
theorem sp104d {n : Nat} (hn : n ≤ 18) (hK : K 0 0 (mz_cp M 3 8 n)) : mj_Cm 104 1 [.ref 3, .ref 8, .int (nI n)] M K := by
  refine e104d ?_
  have main := mj_down (P := fun k => mj_W 8 104 1 2 [some (.ref 3), some (.ref 8), some (.int (nI n)), some (.int (nI k))] [] (mz_cp M 3 8 k) 0 K) n ?_ ?_
  · rw [mz_cp_0] at main
    exact main
  · exact t104_2d ⟨fun _ => hK, fun c => absurd (nI_le (Nat.le_refl n) (by omega)) c⟩
  · intro k hk ih
    have ck : (nI k).toNatClampNeg = k := nI_clamp (by omega)
    refine t104_2d ⟨fun c => absurd c (nI_ge hk (by omega)), fun _ => ⟨vp_in_nI (by omega) (by decide), ?_⟩⟩
    rw [ck, mz_cp_s (by decide), nI_1]
    exact ih
theorem sp104e {n : Nat} (hn : n ≤ 12) (hK : K 0 0 (mz_cp M 4 9 n)) : mj_Cm 104 1 [.ref 4, .ref 9, .int (nI n)] M K := by
  refine e104e ?_
  have main := mj_down (P := fun k => mj_W 8 104 1 2 [some (.ref 4), some (.ref 9), some (.int (nI n)), some (.int (nI k))] [] (mz_cp M 4 9 k) 0 K) n ?_ ?_
  · rw [mz_cp_0] at main
    exact main
  · exact t104_2e ⟨fun _ => hK, fun c => absurd (nI_le (Nat.le_refl n) (by omega)) c⟩
  · intro k hk ih
    have ck : (nI k).toNatClampNeg = k := nI_clamp (by omega)
    refine t104_2e ⟨fun c => absurd c (nI_ge hk (by omega)), fun _ => ⟨vp_in_nI (by omega) (by decide), ?_⟩⟩
    rw [ck, mz_cp_s (by decide), nI_1]
    exact ih
/-- how a second station is laid beside the first -/
def mz_W2 (M L : mj_M) : mj_M := mj_mg M 5 5 L
theorem mz_W2_v {L : mj_M} {c : Nat} (h : c < 5) : mj_v (mz_W2 M L) 5 c = L c := by
  unfold mj_v mz_W2 mj_mg
  rw [if_pos ⟨by omega, by omega⟩, show 5 + c - 5 = c by omega]
theorem mz_ag1 {L : mj_M} : mz_ag (mj_Sh 1) (mj_v (mz_W2 M L) 5) L := by
  intro k d hk
  have hl := (List.getElem?_eq_some_iff.mp hk).1
  have h5 : k < 5 := hl
  have e : mj_v (mz_W2 M L) 5 k = L k := mz_W2_v h5
  rcases d with o | ⟨t, n⟩
  · exact e
  · intro i _
    rw [e]
theorem mz_W2_mg {L L' : mj_M} : mj_mg (mz_W2 M L) 5 5 L' = mz_W2 M L' := by
  funext q
  unfold mz_W2 mj_mg
  by_cases e : 5 ≤ q ∧ q < 5 + 5
  · rw [if_pos e, if_pos e]
  · rw [if_neg e, if_neg e, if_neg e]
theorem mz_W2_lo {L : mj_M} {c : Nat} (h : c < 5) : mz_W2 M L c = M c := by
  unfold mz_W2 mj_mg
  rw [if_neg (by omega)]
abbrev mz_FS (x5 x6 : Int32) (o12 o13 : Option Value) : List (Option Value) := [some (.ref 0), some (.ref 1), some (.ref 2), some (.ref 3), some (.ref 4), some (.int x5), some (.int x6), some (.ref 5), some (.ref 6), some (.ref 7), some (.ref 8), some (.ref 9), o12, o13]
/-- the copies are made -/
theorem mz_copies (X : mj_M) {x5 x6 : Int32} (hK : ∀ (A : mj_M) o12 o13, (∀ c, c < 5 → A c = mz Z X c) → mj_W 8 105 5 71 (mz_FS x5 x6 o12 o13) [] (mz_W2 A (mz Z (fun _ _ => 0))) 5 K) : mj_Cm 105 5 [.ref 0, .ref 1, .ref 2, .ref 3, .ref 4, .int x5, .int x6] (mz Z X) K := by
  refine e105 ⟨Nat.le_of_ble_eq_true rfl, Nat.le_of_ble_eq_true rfl, Nat.le_of_ble_eq_true rfl, Nat.le_of_ble_eq_true rfl, Nat.le_of_ble_eq_true rfl, Nat.le_of_ble_eq_true rfl, ?_⟩
  rw [show (64 : Int32) = nI 64 from rfl]
  refine sp104a (Nat.le_refl _) (t105_38 ⟨Nat.le_of_ble_eq_true rfl, ?_⟩)
  rw [show (55 : Int32) = nI 55 from rfl]
  refine sp104b (Nat.le_refl _) (t105_46 ⟨Nat.le_of_ble_eq_true rfl, ?_⟩)
  rw [show (30 : Int32) = nI 30 from rfl]
  refine sp104c (Nat.le_refl _) (t105_54 ⟨Nat.le_of_ble_eq_true rfl, ?_⟩)
  rw [show (18 : Int32) = nI 18 from rfl]
  refine sp104d (Nat.le_refl _) (t105_62 ⟨Nat.le_of_ble_eq_true rfl, ?_⟩)
  rw [show (6 : Int32) = nI 6 from rfl]
  refine sp104e (Nat.le_of_ble_eq_true rfl) ?_
  generalize hM : mz_cp (mz_cp (mz_cp (mz_cp (mz_cp (mj_z0 (mj_z0 (mj_z0 (mj_z0 (mj_z0 (mz Z X) 5) 6) 7) 8) 9) 0 5 64) 1 6 55) 2 7 30) 3 8 18) 4 9 6 = M9
  have lo : ∀ c, c < 5 → M9 c = mz Z X c := by
    intro c hc
    rw [← hM]
    funext i
    unfold mz_cp mj_z0
    rw [if_neg (by omega), if_neg (by omega), if_neg (by omega), if_neg (by omega), if_neg (by omega), if_neg (by omega), if_neg (by omega), if_neg (by omega), if_neg (by omega), if_neg (by omega)]
  have rd : ∀ s i n, (s = 0 ∧ n = 64) ∨ (s = 1 ∧ n = 55) ∨ (s = 2 ∧ n = 30) ∨ (s = 3 ∧ n = 18) → i < n → M9 (5 + s) i = mz Z X s i := by
    intro s i n h hi
    rw [← hM]
    rcases h with ⟨rfl, rfl⟩ | ⟨rfl, rfl⟩ | ⟨rfl, rfl⟩ | ⟨rfl, rfl⟩ <;> (unfold mz_cp mj_z0; simp [hi])
  have rm : ∀ i, i < 12 → M9 9 i = mz Z (fun _ _ => 0) 4 i := by
    intro i hi
    rw [← hM]
    show (if 9 = 9 ∧ i < 6 then _ else _) = mz_m Z (fun _ _ => 0) i
    by_cases h6 : i < 6
    · rw [if_pos ⟨rfl, h6⟩]
      have e : mz_cp (mz_cp (mz_cp (mz_cp (mj_z0 (mj_z0 (mj_z0 (mj_z0 (mj_z0 (mz Z X) 5) 6) 7) 8) 9) 0 5 64) 1 6 55) 2 7 30) 3 8 18 4 i = mz_m Z X i := by
        unfold mz_cp mj_z0
        simp
        rfl
      rw [e]
      unfold mz_m
      by_cases e0 : i = 0
      · rw [if_pos e0, if_pos e0]
      · rw [if_neg e0, if_neg e0]
        by_cases e1 : i = 1
        · rw [if_pos e1, if_pos e1]
        · rw [if_neg e1, if_neg e1]
          by_cases e2 : i = 2
          · rw [if_pos e2, if_pos e2]
          · rw [if_neg e2, if_neg e2]
            by_cases e3 : i = 3
            · rw [if_pos e3, if_pos e3]
            · rw [if_neg e3, if_neg e3]
              by_cases e4 : i = 4
              · rw [if_pos e4, if_pos e4]
              · rw [if_neg e4, if_neg e4, if_pos (by omega), if_pos (by omega)]
    · rw [if_neg (fun z => h6 z.2)]
      unfold mz_m
      rw [if_neg (by omega), if_neg (by omega), if_neg (by omega), if_neg (by omega), if_neg (by omega), if_neg (by omega)]
      unfold mz_cp mj_z0
      simp
  have hag : mz_ag (mj_Sh 8) M9 (mz_W2 M9 (mz Z (fun _ _ => 0))) := by
    intro k d hk
    have hl := (List.getElem?_eq_some_iff.mp hk).1
    have h10 : k < 10 := hl
    by_cases h5 : k < 5
    · have e : mz_W2 M9 (mz Z (fun _ _ => 0)) k = M9 k := mz_W2_lo h5
      rcases d with o | ⟨t, n⟩
      · exact e.symm
      · intro i _
        rw [e]
    · obtain ⟨s, rfl⟩ : ∃ s, k = 5 + s := ⟨k - 5, by omega⟩
      have e : mz_W2 M9 (mz Z (fun _ _ => 0)) (5 + s) = mz Z (fun _ _ => 0) s := mz_W2_v (M := M9) (by omega)
      have s5 : s = 0 ∨ s = 1 ∨ s = 2 ∨ s = 3 ∨ s = 4 := by omega
      rcases s5 with rfl | rfl | rfl | rfl | rfl
      · cases hk
        intro i hi
        rw [e, rd 0 i 64 (Or.inl ⟨rfl, rfl⟩) hi]; rfl
      · cases hk
        intro i hi
        rw [e, rd 1 i 55 (Or.inr (Or.inl ⟨rfl, rfl⟩)) hi]; rfl
      · cases hk
        intro i hi
        rw [e, rd 2 i 30 (Or.inr (Or.inr (Or.inl ⟨rfl, rfl⟩))) hi]; rfl
      · cases hk
        intro i hi
        rw [e, rd 3 i 18 (Or.inr (Or.inr (Or.inr ⟨rfl, rfl⟩))) hi]; rfl
      · cases hk
        intro i hi
        rw [e]
        exact rm i hi
  exact mz_W_ag hag (hK M9 none none lo)
/-- nobody inside -/
theorem mz_cl_in (hD : mj_Da Z) : mz_cl Z (mj_np Z) ↔ ¬ md_ins Z (mj_np Z) := by
  have key : ∀ p, p < mj_np Z → (¬ Z 21 p ≤ 1 ↔ ¬ (Z 21 p = 0 ∨ Z 21 p = 1)) := by
    intro p hp
    rcases (hD p hp).1 with z | z | z | z <;> rw [z] <;> decide
  constructor
  · rintro h ⟨p, hp, z⟩
    exact (key p hp).mp (h p hp) z
  · intro h p hp
    rw [key p hp]
    exact fun z => h ⟨p, hp, z⟩
theorem mz_ss_I (h : mj_Ia Z) (hB : mz_B Z) {n : Nat} (hb : (Z 0 5).toInt + n ≤ 1000000) : mj_Ia (md_ss n Z) ∧ mz_B (md_ss n Z) ∧ (md_ss n Z 0 5).toInt = (Z 0 5).toInt + n ∧ mj_np (md_ss n Z) = mj_np Z ∧ mj_nr (md_ss n Z) = mj_nr Z := by
  obtain ⟨j1, j2, j3⟩ := mj_secs_I h hb n (Nat.le_refl _)
  exact ⟨j1, mz_B_pr j3 hB, j2, (mj_n_pr j3).1, (mj_n_pr j3).2.1⟩
theorem mz_n1 {n : Nat} : nI n + 1 = nI (n + 1) := nI_1 n
/-- so many seconds on the copies, for a room -/
theorem sp105r (h : mj_Ia Z) (hB : mz_B Z) (hr : r < mj_nr Z) {s : Nat} (hs : 1 ≤ s) (hs2 : s ≤ 100) (hb : (Z 0 5).toInt + s ≤ 1000000) (hK : ∀ M', (∀ c, c < 5 → M' c = mz Z X c) → K 0 (nI (mj_ct (md_ss s Z) r 0)) M') : mj_Cm 105 5 [.ref 0, .ref 1, .ref 2, .ref 3, .ref 4, .int (nI r), .int (nI s)] (mz Z X) K := by
  have hr6 := mz_r6 hB hr
  have r0 : (0 : Int32) ≤ nI r := nI_pos' (by omega)
  have r1 : ¬ nI r < 0 := nI_pos (by omega)
  refine mz_copies X (fun A o12 o13 hA => ?_)
  refine t105_71 ⟨fun _ => ⟨fun _ => t105_111 ?_, fun z => absurd r0 z⟩, fun z => absurd r0 z⟩
  have key : ∀ (d n : Nat) (X' : mj_M), d + n = s → n < s → mj_W 8 105 5 113 (mz_FS (nI r) (nI s) (some (.int (nI n))) (some (.int 1))) [] (mz_W2 A (mz (md_ss n Z) X')) (5 + n) K := by
    intro d
    induction d with
    | zero => intro n X' h1 h2; omega
    | succ d ih =>
      intro n X' h1 h2
      obtain ⟨i1, i2, i3, i4, i5⟩ := mz_ss_I (n := n) h hB (by omega)
      obtain ⟨j1, j2, j3, j4, j5⟩ := mz_ss_I (n := n + 1) h hB (by omega)
      refine t105_113 ⟨fun z => absurd z (by decide), fun _ => ⟨by omega, mz_Cm_ag mz_ag1 ?_⟩⟩
      refine sp102 i1.1 i2 (by omega) (fun X2 hX2 => ?_)
      show mj_W 8 105 5 131 _ [] (mj_mg (mz_W2 A (mz (md_ss n Z) X')) 5 5 (mz (mj_sec (md_ss n Z)) X2)) (5 + n + 1) K
      rw [mz_W2_mg, show mj_sec (md_ss n Z) = md_ss (n + 1) Z from rfl]
      refine t105_131 ⟨fun z => t105_161 ?_, fun z => ⟨fun _ => t105_161 ?_, fun w => absurd r0 w⟩⟩
      · rw [mz_n1, nI_leI (by omega) (by omega)] at z
        have e : n + 1 = s := by omega
        rw [mz_n1]
        refine t105_113 ⟨fun _ => ⟨fun w => absurd w r1, fun _ => ⟨by omega, mz_Cm_ag mz_ag1 ?_⟩⟩, fun w => absurd rfl w⟩
        refine sp95 j1.1.1.s j2 (by omega) ?_
        show mj_W 8 105 5 181 _ _ (mj_mg (mz_W2 A (mz (md_ss (n + 1) Z) X2)) 5 5 (mz (md_ss (n + 1) Z) X2)) _ K
        rw [mz_W2_mg]
        refine t105_181 (t105_200 ⟨by omega, ?_⟩)
        rw [e]
        exact hK _ (fun c hc => by rw [mz_W2_lo hc]; exact hA c hc)
      · rw [mz_n1, nI_leI (by omega) (by omega)] at z
        rw [mz_n1]
        have := ih (n + 1) X2 (by omega) (by omega)
        rw [show 5 + (n + 1) = 5 + n + 1 by omega] at this
        exact this
  exact key s 0 _ (by omega) (by omega)
theorem mz_csv_u {B : mj_M} {v w : Int32} (h1 : md_csv B v) (h2 : md_csv B w) : v = w := by
  rcases h1 with ⟨n, n1, n2, n3, n4⟩ | ⟨e, g⟩
  · rcases h2 with ⟨m, m1, m2, m3, m4⟩ | ⟨e, g⟩
    · have : n = m := by
        rcases Nat.lt_trichotomy n m with z | z | z
        · exact absurd (m4 n z) n3
        · exact z
        · exact absurd (n4 m z) m3
      rw [n2, m2, this]
    · exact absurd (g n n1) n3
  · rcases h2 with ⟨m, m1, m2, m3, m4⟩ | ⟨e', g'⟩
    · exact absurd (g m m1) m3
    · rw [e, e']
/-- how long it takes to clear, on the copies -/
theorem sp105c (h : mj_Ia Z) (hB : mz_B Z) (hb : (Z 0 5).toInt + 100 ≤ 1000000) (hK : ∀ v M', md_csv (md_ord Z) v → (∀ c, c < 5 → M' c = mz Z X c) → K 0 v M') : mj_Cm 105 5 [.ref 0, .ref 1, .ref 2, .ref 3, .ref 4, .int (-1), .int 100] (mz Z X) K := by
  obtain ⟨o1, o2, -, o4⟩ := md_on_I h (mj_np Z) (Nat.le_refl _)
  have oB := mz_B_on hB (mj_np Z)
  have ob : (md_ord Z 0 5).toInt = (Z 0 5).toInt := by
    have : md_ord Z 0 = Z 0 := o4
    rw [this]
  have n0 : ¬ (0 : Int32) ≤ -1 := by decide
  have l0 : (-1 : Int32) < 0 := by decide
  refine mz_copies X (fun A o12 o13 hA => ?_)
  refine t105_71 ⟨fun z => absurd z n0, fun _ => ⟨Nat.le_of_ble_eq_true rfl, mz_Cm_ag mz_ag1 ?_⟩⟩
  refine sp103 h hB (fun X1 hX1 => ?_)
  show mj_W 8 105 5 90 _ _ (mj_mg (mz_W2 A (mz Z (fun _ _ => 0))) 5 5 (mz (md_ord Z) X1)) 5 K
  rw [mz_W2_mg]
  have oI : mj_Ia (md_ord Z) := o1
  have oB' : mz_B (md_ord Z) := oB
  generalize md_ord Z = B at hK oI oB' ob ⊢
  have hIn : ∀ n, n ≤ 100 → (mz_cl (md_ss n B) (mj_np (md_ss n B)) ↔ ¬ md_in B n) := fun n hn => by
    obtain ⟨i1, -⟩ := mz_ss_I (n := n) oI oB' (by omega)
    exact mz_cl_in i1.1.1.a
  have key : ∀ (d n : Nat) (X' : mj_M), d + n = 100 → (∀ m, m ≤ n → md_in B m) → n < 100 → mj_W 8 105 5 113 (mz_FS (-1) 100 (some (.int (nI n))) (some (.int 1))) [] (mz_W2 A (mz (md_ss n B) X')) (5 + n) K := by
    intro d
    induction d with
    | zero => intro n X' h1 hm h2; omega
    | succ d ih =>
      intro n X' h1 hm h2
      obtain ⟨i1, i2, i3, i4, i5⟩ := mz_ss_I (n := n) oI oB' (by omega)
      obtain ⟨j1, j2, j3, j4, j5⟩ := mz_ss_I (n := n + 1) oI oB' (by omega)
      refine t105_113 ⟨fun z => absurd z (by decide), fun _ => ⟨by omega, mz_Cm_ag mz_ag1 ?_⟩⟩
      refine sp102 i1.1 i2 (by omega) (fun X2 hX2 => ?_)
      show mj_W 8 105 5 131 _ [] (mj_mg (mz_W2 A (mz (md_ss n B) X')) 5 5 (mz (mj_sec (md_ss n B)) X2)) (5 + n + 1) K
      rw [mz_W2_mg, show mj_sec (md_ss n B) = md_ss (n + 1) B from rfl]
      have fin : (mz_cl (md_ss (n + 1) B) (mj_np (md_ss (n + 1) B)) ∨ n + 1 = 100) → mj_W 8 105 5 113 (mz_FS (-1) 100 (some (.int (nI (n + 1)))) (some (.int 0))) [] (mz_W2 A (mz (md_ss (n + 1) B) X2)) (5 + n + 1) K := by
        intro hend
        refine t105_113 ⟨fun _ => ⟨fun _ => ⟨by omega, mz_Cm_ag mz_ag1 ?_⟩, fun z => absurd l0 z⟩, fun w => absurd rfl w⟩
        refine sp106 j1.1.1.s j2 ?_
        show mj_W 8 105 5 191 _ _ (mj_mg (mz_W2 A (mz (md_ss (n + 1) B) X2)) 5 5 (mz (md_ss (n + 1) B) X2)) _ K
        rw [mz_W2_mg]
        by_cases c : mz_cl (md_ss (n + 1) B) (mj_np (md_ss (n + 1) B))
        · rw [if_pos c]
          refine t105_191 ⟨fun z => absurd z (by decide), fun _ => t105_200 ⟨by omega, ?_⟩⟩
          refine hK _ _ (Or.inl ⟨n + 1, by omega, rfl, (hIn (n + 1) (by omega)).mp c, fun m hm2 => hm m (by omega)⟩) (fun c hc => by rw [mz_W2_lo hc]; exact hA c hc)
        · have nin : md_in B (n + 1) := Classical.not_not.mp (fun z => c ((hIn (n + 1) (by omega)).mpr z))
          rw [if_neg c]
          refine t105_191 ⟨fun _ => t105_200 ⟨by omega, ?_⟩, fun z => absurd rfl z⟩
          have e100 : n + 1 = 100 := hend.resolve_left c
          refine hK _ _ (Or.inr ⟨rfl, fun m hm2 => ?_⟩) (fun c hc => by rw [mz_W2_lo hc]; exact hA c hc)
          by_cases e : m = n + 1
          · rw [e]; exact nin
          · exact hm m (by omega)
      refine t105_131 ⟨fun z => t105_161 ?_, fun z => ⟨fun w => absurd w n0, fun _ => ⟨by omega, mz_Cm_ag mz_ag1 ?_⟩⟩⟩
      · rw [mz_n1, show (100 : Int32) = nI 100 from rfl, nI_leI (by omega) (by omega)] at z
        rw [mz_n1]
        exact fin (Or.inr (by omega))
      · refine sp106 j1.1.1.s j2 ?_
        show mj_W 8 105 5 153 _ _ (mj_mg (mz_W2 A (mz (md_ss (n + 1) B) X2)) 5 5 (mz (md_ss (n + 1) B) X2)) _ K
        rw [mz_W2_mg, mz_n1]
        rw [mz_n1, show (100 : Int32) = nI 100 from rfl, nI_leI (by omega) (by omega)] at z
        by_cases c : mz_cl (md_ss (n + 1) B) (mj_np (md_ss (n + 1) B))
        · rw [if_pos c]
          refine t105_153 ⟨fun _ => t105_161 ?_, fun y => absurd y (by decide)⟩
          exact fin (Or.inl c)
        · have nin : md_in B (n + 1) := Classical.not_not.mp (fun z => c ((hIn (n + 1) (by omega)).mpr z))
          rw [if_neg c]
          refine t105_153 ⟨fun y => absurd rfl y, fun _ => t105_161 ?_⟩
          have := ih (n + 1) X2 (by omega) (fun m hm2 => by
            by_cases e : m = n + 1
            · rw [e]; exact nin
            · exact hm m (by omega)) (by omega)
          rw [show 5 + (n + 1) = 5 + n + 1 by omega] at this
          exact this
  refine t105_90 ⟨fun z => absurd z n0, fun _ => ⟨Nat.le_of_ble_eq_true rfl, mz_Cm_ag mz_ag1 ?_⟩⟩
  refine sp106 oI.1.1.s oB' ?_
  show mj_W 8 105 5 103 _ _ (mj_mg (mz_W2 A (mz B X1)) 5 5 (mz B X1)) _ K
  rw [mz_W2_mg]
  by_cases c : mz_cl B (mj_np B)
  · rw [if_pos c]
    refine t105_103 ⟨fun _ => t105_111 ?_, fun y => absurd y (by decide)⟩
    refine t105_113 ⟨fun _ => ⟨fun _ => ⟨Nat.le_of_ble_eq_true rfl, mz_Cm_ag mz_ag1 ?_⟩, fun z => absurd l0 z⟩, fun w => absurd rfl w⟩
    refine sp106 oI.1.1.s oB' ?_
    show mj_W 8 105 5 191 _ _ (mj_mg (mz_W2 A (mz B X1)) 5 5 (mz B X1)) _ K
    rw [mz_W2_mg, if_pos c]
    refine t105_191 ⟨fun z => absurd z (by decide), fun _ => t105_200 ⟨Nat.le_of_ble_eq_true rfl, ?_⟩⟩
    exact hK _ _ (Or.inl ⟨0, by omega, rfl, (hIn 0 (by omega)).mp c, fun m hm2 => absurd hm2 (Nat.not_lt_zero m)⟩) (fun c hc => by rw [mz_W2_lo hc]; exact hA c hc)
  · have nin : md_in B 0 := Classical.not_not.mp (fun z => c ((hIn 0 (by omega)).mpr z))
    rw [if_neg c]
    refine t105_103 ⟨fun y => absurd rfl y, fun _ => t105_111 ?_⟩
    exact key 100 0 X1 rfl (fun m hm2 => by
      have : m = 0 := by omega
      rw [this]; exact nin) (by omega)
end LWM
