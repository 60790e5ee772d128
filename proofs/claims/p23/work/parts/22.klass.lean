-- a station's memory as the state, and what it keeps beside it
def mj_same (c : Nat) : Bool := (2 ≤ c && c ≤ 7) || (9 ≤ c && c ≤ 19) || (21 ≤ c && c ≤ 23) || (25 ≤ c && c ≤ 27) || (29 ≤ c && c ≤ 34)
def mj_cc (Z Y : mj_M) : mj_M := fun c => bif mj_same c then Z c else match c with
  | 24 => fun i => Z 24 i + 2 * Z 40 i
  | 0 => fun i => if i = 5 then Z 0 5 else Y 0 i
  | 1 => fun i => if i = 0 then Z 1 0 else Y 1 i
  | 8 => fun i => if i = 0 then Z 8 0 else if i = 1 then Z 8 1 else Y 8 i
  | 20 => fun i => if i = 0 then Z 20 0 else Y 20 i
  | 28 => fun i => if i = 0 then Z 28 0 else Y 28 i
  | c => Y c
theorem mj_cc_same (Z Y : mj_M) {c : Nat} (h : mj_same c = true) : mj_cc Z Y c = Z c := by
  unfold mj_cc; rw [h]; rfl
theorem mj_same_not {c : Nat} (h : mj_same c = true) : c ≠ 24 ∧ c ≠ 40 ∧ c ≠ 0 ∧ c ≠ 1 ∧ c ≠ 8 ∧ c ≠ 20 ∧ c ≠ 28 := by
  refine ⟨?_, ?_, ?_, ?_, ?_, ?_, ?_⟩ <;> (rintro rfl; exact absurd h (by decide))
theorem mj_cc_w {Z Y : mj_M} {c i : Nat} {v : Int32} (h : mj_same c = true) : mj_u (mj_cc Z Y) c i v = mj_cc (mj_u Z c i v) Y := by
  obtain ⟨n1, n2, n3, n4, n5, n6, n7⟩ := mj_same_not h
  funext c'
  by_cases e : c' = c
  · subst e
    rw [mj_u_same, mj_cc_same _ _ h, mj_cc_same _ _ h, mj_u_same]
  · rw [mj_u_ne _ _ _ e]
    unfold mj_cc
    cases hs : mj_same c' with
    | true => simp only [cond_true]; rw [mj_u_ne _ _ _ e]
    | false =>
      simp only [cond_false]
      split
      · rw [mj_u_ne _ _ _ (fun e => n1 e.symm), mj_u_ne _ _ _ (fun e => n2 e.symm)]
      · rw [mj_u_ne _ _ _ (fun e => n3 e.symm)]
      · rw [mj_u_ne _ _ _ (fun e => n4 e.symm)]
      · rw [mj_u_ne _ _ _ (fun e => n5 e.symm)]
      · rw [mj_u_ne _ _ _ (fun e => n6 e.symm)]
      · rw [mj_u_ne _ _ _ (fun e => n7 e.symm)]
      · rfl
def mj_der (c : Nat) : Bool := !mj_same c && !(c == 24) && !(c == 0) && !(c == 1) && !(c == 8) && !(c == 20) && !(c == 28)
theorem mj_cc_der (Z Y : mj_M) {c : Nat} (h : mj_der c = true) : mj_cc Z Y c = Y c := by
  unfold mj_der at h
  simp only [Bool.and_eq_true, Bool.not_eq_true', beq_eq_false_iff_ne, ne_eq] at h
  obtain ⟨⟨⟨⟨⟨⟨h1, h2⟩, h3⟩, h4⟩, h5⟩, h6⟩, h7⟩ := h
  unfold mj_cc
  rw [h1]
  simp only [cond_false]
  all_goals (split <;> first | (exact absurd rfl (by assumption)) | rfl)
theorem mj_cc_wd {Z Y : mj_M} {c i : Nat} {v : Int32} (h : mj_der c = true) : mj_u (mj_cc Z Y) c i v = mj_cc Z (mj_u Y c i v) := by
  funext c'
  by_cases e : c' = c
  · subst e
    rw [mj_u_same, mj_cc_der _ _ h, mj_cc_der _ _ h, mj_u_same]
  · rw [mj_u_ne _ _ _ e]
    have h0 := h
    unfold mj_der at h0
    simp only [Bool.and_eq_true, Bool.not_eq_true', beq_eq_false_iff_ne, ne_eq] at h0
    obtain ⟨⟨⟨⟨⟨⟨h1, h2⟩, h3⟩, h4⟩, h5⟩, h6⟩, h7⟩ := h0
    unfold mj_cc
    cases hs : mj_same c' with
    | true => rfl
    | false =>
      simp only [cond_false]
      split
      · rfl
      · rw [mj_u_ne _ _ _ (fun e => h3 e.symm)]
      · rw [mj_u_ne _ _ _ (fun e => h4 e.symm)]
      · rw [mj_u_ne _ _ _ (fun e => h5 e.symm)]
      · rw [mj_u_ne _ _ _ (fun e => h6 e.symm)]
      · rw [mj_u_ne _ _ _ (fun e => h7 e.symm)]
      · rw [mj_u_ne _ _ _ e]
theorem mj_cc_05 {Z Y : mj_M} : mj_cc Z Y 0 5 = Z 0 5 := rfl
theorem mj_cc_08 {Z Y : mj_M} : mj_cc Z Y 0 8 = Y 0 8 := rfl
theorem mj_cc_09 {Z Y : mj_M} : mj_cc Z Y 0 9 = Y 0 9 := rfl
theorem mj_cc_10 {Z Y : mj_M} : mj_cc Z Y 1 0 = Z 1 0 := rfl
theorem mj_cc_80 {Z Y : mj_M} : mj_cc Z Y 8 0 = Z 8 0 := rfl
theorem mj_cc_81 {Z Y : mj_M} : mj_cc Z Y 8 1 = Z 8 1 := rfl
theorem mj_cc_200 {Z Y : mj_M} : mj_cc Z Y 20 0 = Z 20 0 := rfl
theorem mj_cc_280 {Z Y : mj_M} : mj_cc Z Y 28 0 = Z 28 0 := rfl
theorem mj_cc_24 {Z Y : mj_M} {i : Nat} : mj_cc Z Y 24 i = Z 24 i + 2 * Z 40 i := rfl
theorem mj_ccx {Z Y : mj_M} (c : Nat) (f g : Nat → Int32) (h : mj_cc Z Y c = f) (M' : mj_M) (i : Nat) (v : Int32) (h1 : M' c = upd f i v) (h2 : ∀ c', c' ≠ c → M' c' = mj_cc Z Y c') : mj_u (mj_cc Z Y) c i v = M' := by
  funext c'
  by_cases e : c' = c
  · subst e
    rw [mj_u_same, h1, h]
  · rw [mj_u_ne _ _ _ e, h2 c' e]
theorem mj_cc_ne {Z Z' Y Y' : mj_M} {c : Nat} (hz : mj_same c = true → Z c = Z' c) (h24 : c = 24 → ∀ i, Z 24 i = Z' 24 i ∧ Z 40 i = Z' 40 i) (h05 : c = 0 → Z 0 5 = Z' 0 5) (h10 : c = 1 → Z 1 0 = Z' 1 0) (h80 : c = 8 → Z 8 0 = Z' 8 0 ∧ Z 8 1 = Z' 8 1) (h200 : c = 20 → Z 20 0 = Z' 20 0) (h280 : c = 28 → Z 28 0 = Z' 28 0) (hy : Y c = Y' c) : mj_cc Z Y c = mj_cc Z' Y' c := by
  unfold mj_cc
  cases hs : mj_same c with
  | true => simp only [cond_true]; exact hz hs
  | false =>
    simp only [cond_false]
    split
    · funext i; rw [(h24 rfl i).1, (h24 rfl i).2]
    · funext i; rw [h05 rfl, hy]
    · funext i; rw [h10 rfl, hy]
    · funext i; rw [(h80 rfl).1, (h80 rfl).2, hy]
    · funext i; rw [h200 rfl, hy]
    · funext i; rw [h280 rfl, hy]
    · exact hy
theorem mj_cc_ws {Z Y : mj_M} {c j : Nat} {v : Int32} (h : (c = 0 ∧ j = 5) ∨ (c = 1 ∧ j = 0) ∨ (c = 8 ∧ j = 0) ∨ (c = 8 ∧ j = 1) ∨ (c = 20 ∧ j = 0) ∨ (c = 28 ∧ j = 0)) : mj_u (mj_cc Z Y) c j v = mj_cc (mj_u Z c j v) Y := by
  funext c'
  by_cases e : c' = c
  · subst e
    rw [mj_u_same]
    funext i
    unfold upd
    rcases h with ⟨rfl, rfl⟩ | ⟨rfl, rfl⟩ | ⟨rfl, rfl⟩ | ⟨rfl, rfl⟩ | ⟨rfl, rfl⟩ | ⟨rfl, rfl⟩
    · show _ = if i = 5 then _ else _
      by_cases e : i = 5 <;> simp [e, mj_cc, mj_same, mj_u_at]
    · show _ = if i = 0 then _ else _
      by_cases e : i = 0 <;> simp [e, mj_cc, mj_same, mj_u_at]
    · show _ = if i = 0 then _ else if i = 1 then _ else _
      by_cases e : i = 0 <;> simp [e, mj_cc, mj_same, mj_u_at]
    · show _ = if i = 0 then _ else if i = 1 then _ else _
      by_cases e : i = 1 <;> simp [e, mj_cc, mj_same, mj_u_at]
    · show _ = if i = 0 then _ else _
      by_cases e : i = 0 <;> simp [e, mj_cc, mj_same, mj_u_at]
    · show _ = if i = 0 then _ else _
      by_cases e : i = 0 <;> simp [e, mj_cc, mj_same, mj_u_at]
  · rw [mj_u_ne _ _ _ e]
    have hn : c ≠ 24 ∧ c ≠ 40 := by omega
    refine mj_cc_ne (fun _ => (mj_u_ne _ _ _ e).symm) (fun e1 i => ?_) (fun e1 => ?_) (fun e1 => ?_) (fun e1 => ?_) (fun e1 => ?_) (fun e1 => ?_) rfl
    · exact ⟨by rw [mj_u_ne _ _ _ (fun q => hn.1 q.symm)], by rw [mj_u_ne _ _ _ (fun q => hn.2 q.symm)]⟩
    all_goals (subst e1; first | exact ⟨by rw [mj_u_ne _ _ _ e], by rw [mj_u_ne _ _ _ e]⟩ | rw [mj_u_ne _ _ _ e])
theorem mj_cc_wz {Z Y : mj_M} {j : Nat} {v : Int32} (h : j ≠ 5) : mj_u (mj_cc Z Y) 0 j v = mj_cc Z (mj_u Y 0 j v) := by
  funext c'
  by_cases e : c' = 0
  · subst e
    rw [mj_u_same]
    funext i
    unfold upd
    show _ = if i = 5 then _ else _
    by_cases e : i = 5
    · subst e; rw [if_neg (fun q => h q.symm)]; rfl
    · simp [e, mj_cc, mj_same, mj_u_at]
  · rw [mj_u_ne _ _ _ e]
    exact mj_cc_ne (fun _ => rfl) (fun _ _ => ⟨rfl, rfl⟩) (fun _ => rfl) (fun _ => rfl) (fun _ => ⟨rfl, rfl⟩) (fun _ => rfl) (fun _ => rfl) (mj_u_ne _ _ _ e).symm
/-- a walker's two marks -/
theorem mj_cc_ww {Z Y : mj_M} {p : Nat} {w a b : Int32} (h : w = a + 2 * b) : mj_u (mj_cc Z Y) 24 p w = mj_cc (mj_u (mj_u Z 24 p a) 40 p b) Y := by
  funext c'
  by_cases e : c' = 24
  · subst e
    rw [mj_u_same]
    funext i
    unfold upd
    show _ = mj_u (mj_u Z 24 p a) 40 p b 24 i + 2 * mj_u (mj_u Z 24 p a) 40 p b 40 i
    rw [mj_u_at, mj_u_at, mj_u_at, mj_u_at]
    by_cases e : i = p
    · simp [e, h]
    · simp [e]; rfl
  · rw [mj_u_ne _ _ _ e]
    refine mj_cc_ne (fun hs => ?_) (fun e1 => absurd e1 e) (fun e1 => ?_) (fun e1 => ?_) (fun e1 => ?_) (fun e1 => ?_) (fun e1 => ?_) rfl
    · have := (mj_same_not hs).2.1
      rw [mj_u_ne _ _ _ this, mj_u_ne _ _ _ e]
    all_goals (subst e1; simp only [mj_u_at]; simp)
theorem mj_u_id {Z : mj_M} {c i : Nat} {v : Int32} (h : Z c i = v) : mj_u Z c i v = Z := by
  funext c' i'
  rw [mj_u_at]
  split
  · rename_i e; rw [e.1, e.2, h]
  · rfl
theorem mj_bits (a b : Int32) (ha : a = 0 ∨ a = 1) (hb : b = 0 ∨ b = 1) : (a + 2 * b) &&& 1 = a ∧ ((a + 2 * b) &&& 2 = 0 ↔ b = 0) ∧ ((a + 2 * b) ||| 2 = a + 2 * 1) := by
  rcases ha with rfl | rfl <;> rcases hb with rfl | rfl <;> decide
