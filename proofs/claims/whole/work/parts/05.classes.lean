/-! ===== the classes' tables: types, names apart, words among the good ones ===== -/
theorem mG_at {k : Nat} {w : Cond} (h : lw_tbl[k]? = some w) (hg : goodWord w = true) : w ∈ mG := List.mem_filter.mpr ⟨List.mem_of_getElem? h, hg⟩
set_option maxRecDepth 20000 in
theorem m_in0 : ∀ w ∈ u_ws RX0 TX0 9, w ∈ mG := by
  have h : (u_ws RX0 TX0 9).all (fun w => decide (w ∈ lw_tbl) && goodWord w) = true := by decide +kernel
  intro w hw
  have h1 := List.all_eq_true.mp h w hw
  simp only [Bool.and_eq_true, decide_eq_true_eq] at h1
  exact List.mem_filter.mpr h1
set_option maxRecDepth 20000 in
theorem m_in1 : ∀ w ∈ u_ws RX1 TX1 4, w ∈ mG := by
  have h : (u_ws RX1 TX1 4).all (fun w => decide (w ∈ lw_tbl) && goodWord w) = true := by decide +kernel
  intro w hw
  have h1 := List.all_eq_true.mp h w hw
  simp only [Bool.and_eq_true, decide_eq_true_eq] at h1
  exact List.mem_filter.mpr h1
set_option maxRecDepth 20000 in
theorem m_in2 : ∀ w ∈ u_ws RX2 TX2 3, w ∈ mG := by
  have h : (u_ws RX2 TX2 3).all (fun w => decide (w ∈ lw_tbl) && goodWord w) = true := by decide +kernel
  intro w hw
  have h1 := List.all_eq_true.mp h w hw
  simp only [Bool.and_eq_true, decide_eq_true_eq] at h1
  exact List.mem_filter.mpr h1
set_option maxRecDepth 20000 in
theorem m_in3 : ∀ w ∈ u_ws RX3 TX3 7, w ∈ mG := by
  have h : (u_ws RX3 TX3 7).all (fun w => decide (w ∈ lw_tbl) && goodWord w) = true := by decide +kernel
  intro w hw
  have h1 := List.all_eq_true.mp h w hw
  simp only [Bool.and_eq_true, decide_eq_true_eq] at h1
  exact List.mem_filter.mpr h1
set_option maxRecDepth 20000 in
theorem m_in4 : ∀ w ∈ u_ws RX4 TX4 1, w ∈ mG := by
  have h : (u_ws RX4 TX4 1).all (fun w => decide (w ∈ lw_tbl) && goodWord w) = true := by decide +kernel
  intro w hw
  have h1 := List.all_eq_true.mp h w hw
  simp only [Bool.and_eq_true, decide_eq_true_eq] at h1
  exact List.mem_filter.mpr h1
set_option maxRecDepth 20000 in
theorem m_in5 : ∀ w ∈ u_ws RX5 TX5 17, w ∈ mG := by
  have h : (u_ws RX5 TX5 17).all (fun w => decide (w ∈ lw_tbl) && goodWord w) = true := by decide +kernel
  intro w hw
  have h1 := List.all_eq_true.mp h w hw
  simp only [Bool.and_eq_true, decide_eq_true_eq] at h1
  exact List.mem_filter.mpr h1
set_option maxRecDepth 20000 in
theorem m_in6 : ∀ w ∈ u_ws RX6 TX6 14, w ∈ mG := by
  have h : (u_ws RX6 TX6 14).all (fun w => decide (w ∈ lw_tbl) && goodWord w) = true := by decide +kernel
  intro w hw
  have h1 := List.all_eq_true.mp h w hw
  simp only [Bool.and_eq_true, decide_eq_true_eq] at h1
  exact List.mem_filter.mpr h1
set_option maxRecDepth 20000 in
theorem m_in7 : ∀ w ∈ u_ws RX7 TX7 7, w ∈ mG := by
  have h : (u_ws RX7 TX7 7).all (fun w => decide (w ∈ lw_tbl) && goodWord w) = true := by decide +kernel
  intro w hw
  have h1 := List.all_eq_true.mp h w hw
  simp only [Bool.and_eq_true, decide_eq_true_eq] at h1
  exact List.mem_filter.mpr h1
set_option maxRecDepth 20000 in
theorem m_in8 : ∀ w ∈ u_ws RX8 TX8 5, w ∈ mG := by
  have h : (u_ws RX8 TX8 5).all (fun w => decide (w ∈ lw_tbl) && goodWord w) = true := by decide +kernel
  intro w hw
  have h1 := List.all_eq_true.mp h w hw
  simp only [Bool.and_eq_true, decide_eq_true_eq] at h1
  exact List.mem_filter.mpr h1
set_option maxRecDepth 20000 in
theorem m_in9 : ∀ w ∈ u_ws RX9 TX9 5, w ∈ mG := by
  have h : (u_ws RX9 TX9 5).all (fun w => decide (w ∈ lw_tbl) && goodWord w) = true := by decide +kernel
  intro w hw
  have h1 := List.all_eq_true.mp h w hw
  simp only [Bool.and_eq_true, decide_eq_true_eq] at h1
  exact List.mem_filter.mpr h1
set_option maxRecDepth 20000 in
theorem m_in10 : ∀ w ∈ u_ws RX10 TX10 16, w ∈ mG := by
  have h : (u_ws RX10 TX10 16).all (fun w => decide (w ∈ lw_tbl) && goodWord w) = true := by decide +kernel
  intro w hw
  have h1 := List.all_eq_true.mp h w hw
  simp only [Bool.and_eq_true, decide_eq_true_eq] at h1
  exact List.mem_filter.mpr h1
set_option maxRecDepth 20000 in
theorem m_in11 : ∀ w ∈ u_ws RX11 TX11 64, w ∈ mG := by
  have h : (u_ws RX11 TX11 64).all (fun w => decide (w ∈ lw_tbl) && goodWord w) = true := by decide +kernel
  intro w hw
  have h1 := List.all_eq_true.mp h w hw
  simp only [Bool.and_eq_true, decide_eq_true_eq] at h1
  exact List.mem_filter.mpr h1
/-- what holds of each class of the table -/
def m_clsok (ci : Nat) (q : vw_C) : Prop := (∃ ty : Nat → FieldType, (∀ k, k < q.2.2 → parseFieldDescriptor (q.2.1 k).2.2.1 = some (ty k)) ∧ ∀ k, k < q.2.2 → defaultValue (ty k) = if m_ft ci k = 1 then .null else .int 0) ∧ (∀ a, a < q.2.2 → ∀ b, b < q.2.2 → a ≠ b → (q.2.1 a).2.1 ≠ (q.2.1 b).2.1) ∧ (∀ w ∈ u_ws q.1 q.2.1 q.2.2, w ∈ mG) ∧ q.2.2 = m_nf ci
theorem m_cls_all : ∀ (ci : Nat) (q : vw_C), mCL[ci]? = some q → m_clsok ci q := by
  intro ci q h
  match ci, h with
  | 0, h => cases h; exact ⟨⟨tyX0, tyX0_ok, by decide +kernel⟩, nmX0, m_in0, rfl⟩
  | 1, h => cases h; exact ⟨⟨tyX1, tyX1_ok, by decide +kernel⟩, nmX1, m_in1, rfl⟩
  | 2, h => cases h; exact ⟨⟨tyX2, tyX2_ok, by decide +kernel⟩, nmX2, m_in2, rfl⟩
  | 3, h => cases h; exact ⟨⟨tyX3, tyX3_ok, by decide +kernel⟩, nmX3, m_in3, rfl⟩
  | 4, h => cases h; exact ⟨⟨tyX4, tyX4_ok, by decide +kernel⟩, nmX4, m_in4, rfl⟩
  | 5, h => cases h; exact ⟨⟨tyX5, tyX5_ok, by decide +kernel⟩, nmX5, m_in5, rfl⟩
  | 6, h => cases h; exact ⟨⟨tyX6, tyX6_ok, by decide +kernel⟩, nmX6, m_in6, rfl⟩
  | 7, h => cases h; exact ⟨⟨tyX7, tyX7_ok, by decide +kernel⟩, nmX7, m_in7, rfl⟩
  | 8, h => cases h; exact ⟨⟨tyX8, tyX8_ok, by decide +kernel⟩, nmX8, m_in8, rfl⟩
  | 9, h => cases h; exact ⟨⟨tyX9, tyX9_ok, by decide +kernel⟩, nmX9, m_in9, rfl⟩
  | 10, h => cases h; exact ⟨⟨tyX10, tyX10_ok, by decide +kernel⟩, nmX10, m_in10, rfl⟩
  | 11, h => cases h; exact ⟨⟨tyX11, tyX11_ok, by decide +kernel⟩, nmX11, m_in11, rfl⟩
  | n + 12, h => simp [mCL] at h
