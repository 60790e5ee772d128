-- the words, out of the tables
theorem mj_memp {ws : List Cond} (ps : List Nat) (h : ws = ps.filterMap (fun i => lw_tbl[i]?)) {w : Cond} (hw : w ∈ ws) : w ∈ lw_tbl := by
  rw [h] at hw
  obtain ⟨i, -, hi⟩ := List.mem_filterMap.mp hw
  first | exact List.mem_of_getElem? hi | exact List.getElem?_mem hi
set_option maxRecDepth 100000 in
theorem mj_wI : mj_kV.map (fun k => Cond.instanceMethod (mj_y k)) = mj_pI.filterMap (fun i => lw_tbl[i]?) := by decide +kernel
set_option maxRecDepth 100000 in
theorem mj_wE : mj_kV.map (fun k => Cond.selects (mj_o k) (mj_y k) (mj_y k)) = mj_pE.filterMap (fun i => lw_tbl[i]?) := by decide +kernel
set_option maxRecDepth 100000 in
theorem mj_wS : mj_kS.map (fun k => Cond.static (mj_y k)) = mj_pS.filterMap (fun i => lw_tbl[i]?) := by decide +kernel
set_option maxRecDepth 100000 in
theorem mj_wN : (List.range 8).map (fun x => Cond.initialized (mj_R x)) = mj_pN.filterMap (fun i => lw_tbl[i]?) := by decide +kernel
set_option maxRecDepth 100000 in
theorem mj_wF : mj_FL.map (fun e => Cond.fieldLink (mj_R e.1) e.2.1 ((mj_q e.2.2.1).2.1 e.2.2.2).1 ((mj_q e.2.2.1).2.1 e.2.2.2).2.1 ((mj_q e.2.2.1).2.1 e.2.2.2).2.2.1) = mj_pFL.filterMap (fun i => lw_tbl[i]?) := by decide +kernel
set_option maxRecDepth 100000 in
theorem mj_wM : mj_ML.map (fun e => Cond.methodLink (mj_R e.1) e.2.1 (mj_y e.2.2)) = mj_pML.filterMap (fun i => lw_tbl[i]?) := by decide +kernel
set_option maxRecDepth 100000 in
theorem mj_wL : [u_ws RX0 TX0 13, u_ws RX1 TX1 8, u_ws RX2 TX2 7, u_ws RX3 TX3 10, u_ws RX4 TX4 7, u_ws RX5 TX5 2, u_ws RX6 TX6 2] = [mj_pL0, mj_pL1, mj_pL2, mj_pL3, mj_pL4, mj_pL5, mj_pL6].map (fun ps => ps.filterMap (fun i => lw_tbl[i]?)) := by decide +kernel
theorem mj_inC {k : Nat} (h : k < mj_N) : Cond.code (mj_y k) (mj_c k) (mj_n k) (mj_r k) ∈ mj_G := by
  obtain ⟨i, hi⟩ := mj_pcAll k h
  exact mj_inG (List.mem_of_getElem? hi) rfl
theorem mj_inI {k : Nat} (h : k ∈ mj_kV) : Cond.instanceMethod (mj_y k) ∈ mj_G := mj_inG (mj_memp mj_pI mj_wI (List.mem_map.mpr ⟨k, h, rfl⟩)) rfl
theorem mj_inE {k : Nat} (h : k ∈ mj_kV) : Cond.selects (mj_o k) (mj_y k) (mj_y k) ∈ mj_G := mj_inG (mj_memp mj_pE mj_wE (List.mem_map.mpr ⟨k, h, rfl⟩)) rfl
theorem mj_inS {k : Nat} (h : k ∈ mj_kS) : Cond.static (mj_y k) ∈ mj_G := mj_inG (mj_memp mj_pS mj_wS (List.mem_map.mpr ⟨k, h, rfl⟩)) rfl
theorem mj_inN {x : Nat} (h : x < 8) : Cond.initialized (mj_R x) ∈ mj_G := mj_inG (mj_memp mj_pN mj_wN (List.mem_map.mpr ⟨x, List.mem_range.mpr h, rfl⟩)) rfl
theorem mj_inF {e : Nat × Nat × Nat × Nat} (h : e ∈ mj_FL) : Cond.fieldLink (mj_R e.1) e.2.1 ((mj_q e.2.2.1).2.1 e.2.2.2).1 ((mj_q e.2.2.1).2.1 e.2.2.2).2.1 ((mj_q e.2.2.1).2.1 e.2.2.2).2.2.1 ∈ mj_G := mj_inG (mj_memp mj_pFL mj_wF (List.mem_map.mpr ⟨e, h, rfl⟩)) rfl
theorem mj_inM {e : Nat × Nat × Nat} (h : e ∈ mj_ML) : Cond.methodLink (mj_R e.1) e.2.1 (mj_y e.2.2) ∈ mj_G := mj_inG (mj_memp mj_pML mj_wM (List.mem_map.mpr ⟨e, h, rfl⟩)) rfl
theorem mj_goodL (C : String) (T : u_T) (N : Nat) : ∀ w ∈ u_ws C T N, goodWord w = true := by
  intro w hw
  obtain ⟨k, -, rfl⟩ := List.mem_map.mp hw
  unfold u_lay
  split <;> rfl
theorem mj_inL {ci : Nat} (h : ci < 7) : ∀ w ∈ u_ws (mj_q ci).1 (mj_q ci).2.1 (mj_q ci).2.2, w ∈ mj_G := by
  intro w hw
  have hg := mj_goodL _ _ _ w hw
  refine mj_inG ?_ hg
  have key : ∀ (i : Nat) (ws : List Cond) (ps : List Nat), ([u_ws RX0 TX0 13, u_ws RX1 TX1 8, u_ws RX2 TX2 7, u_ws RX3 TX3 10, u_ws RX4 TX4 7, u_ws RX5 TX5 2, u_ws RX6 TX6 2] : List (List Cond))[i]? = some ws → [mj_pL0, mj_pL1, mj_pL2, mj_pL3, mj_pL4, mj_pL5, mj_pL6][i]? = some ps → ws = ps.filterMap (fun i => lw_tbl[i]?) := by
    intro i ws ps h1 h2
    rw [mj_wL, List.getElem?_map, h2] at h1
    exact (Option.some.inj h1).symm
  match ci, h with
  | 0, _ => exact mj_memp _ (key 0 _ _ rfl rfl) hw
  | 1, _ => exact mj_memp _ (key 1 _ _ rfl rfl) hw
  | 2, _ => exact mj_memp _ (key 2 _ _ rfl rfl) hw
  | 3, _ => exact mj_memp _ (key 3 _ _ rfl rfl) hw
  | 4, _ => exact mj_memp _ (key 4 _ _ rfl rfl) hw
  | 5, _ => exact mj_memp _ (key 5 _ _ rfl rfl) hw
  | 6, _ => exact mj_memp _ (key 6 _ _ rfl rfl) hw
theorem mj_cl_q {ci : Nat} (h : ci < 7) : mj_cl[ci]? = some (mj_q ci) := by
  match ci, h with
  | 0, _ => rfl
  | 1, _ => rfl
  | 2, _ => rfl
  | 3, _ => rfl
  | 4, _ => rfl
  | 5, _ => rfl
  | 6, _ => rfl
theorem mj_tyok {ci : Nat} (h : ci < 7) : ∀ k, k < (mj_q ci).2.2 → parseFieldDescriptor ((mj_q ci).2.1 k).2.2.1 = some (mj_ty0 ci k) := by
  match ci, h with
  | 0, _ => exact tyX0_ok
  | 1, _ => exact tyX1_ok
  | 2, _ => exact tyX2_ok
  | 3, _ => exact tyX3_ok
  | 4, _ => exact tyX4_ok
  | 5, _ => exact tyX5_ok
  | 6, _ => exact tyX6_ok
theorem mj_nm {ci : Nat} (h : ci < 7) : ∀ a, a < (mj_q ci).2.2 → ∀ b, b < (mj_q ci).2.2 → a ≠ b → ((mj_q ci).2.1 a).2.1 ≠ ((mj_q ci).2.1 b).2.1 := by
  match ci, h with
  | 0, _ => exact nmX0
  | 1, _ => exact nmX1
  | 2, _ => exact nmX2
  | 3, _ => exact nmX3
  | 4, _ => exact nmX4
  | 5, _ => exact nmX5
  | 6, _ => exact nmX6
/-- what a program decides of each method: its class, its place, its arguments -/
def mj_yok (k : Nat) : Bool := decide (plainName (mj_y k).cls = true) && decide ((mj_y k).cls = mj_o k) && decide ((mj_y k).cls ≠ "java/lang/invoke/MethodHandle") && decide ((mj_y k).cls ≠ "java/lang/invoke/VarHandle") && decide ((parseMethodDescriptor (mj_y k).desc).map (fun d => d.parameters.length) = some (mj_ar k)) && decide (mj_oc k < 8) && decide (mj_n k ≤ 21) && decide (mj_r k = none ∨ mj_r k = some .int ∨ mj_r k = some .boolean)
set_option maxRecDepth 100000 in
theorem mj_yall : (List.range mj_N).all mj_yok = true := by decide +kernel
theorem mj_yof {k : Nat} (h : k < mj_N) : plainName (mj_y k).cls = true ∧ (mj_y k).cls = mj_o k ∧ (mj_y k).cls ≠ "java/lang/invoke/MethodHandle" ∧ (mj_y k).cls ≠ "java/lang/invoke/VarHandle" ∧ (parseMethodDescriptor (mj_y k).desc).map (fun d => d.parameters.length) = some (mj_ar k) ∧ mj_oc k < 8 ∧ mj_n k ≤ 21 ∧ (mj_r k = none ∨ mj_r k = some .int ∨ mj_r k = some .boolean) := by
  have h1 := List.all_eq_true.mp mj_yall k (List.mem_range.mpr h)
  simp only [mj_yok, Bool.and_eq_true, decide_eq_true_eq] at h1
  obtain ⟨⟨⟨⟨⟨⟨⟨a, b⟩, c⟩, d⟩, e⟩, f⟩, g⟩, i⟩ := h1
  exact ⟨a, b, c, d, e, f, g, i⟩
