theorem qa_inT {ws : List Cond} (h : ws.all (fun w => decide (w ∈ lw_tbl) && goodWord w) = true) : ∀ w ∈ ws, w ∈ qa_T := by
  intro w hw
  have h1 := List.all_eq_true.mp h w hw
  simp only [Bool.and_eq_true, decide_eq_true_eq] at h1
  exact qa_mem h1.1 h1.2
theorem qa_inX0 : ∀ w ∈ u_ws RX0 TX0 3, w ∈ qa_T := qa_inT (by decide +kernel)
theorem qa_inX1 : ∀ w ∈ u_ws RX1 TX1 12, w ∈ qa_T := qa_inT (by decide +kernel)
theorem qa_inX2 : ∀ w ∈ u_ws RX2 TX2 6, w ∈ qa_T := qa_inT (by decide +kernel)
theorem qa_inX3 : ∀ w ∈ u_ws RX3 TX3 8, w ∈ qa_T := qa_inT (by decide +kernel)
theorem qa_inX4 : ∀ w ∈ u_ws RX4 TX4 5, w ∈ qa_T := qa_inT (by decide +kernel)
theorem qa_inX6 : ∀ w ∈ u_ws RX6 TX6 2, w ∈ qa_T := qa_inT (by decide +kernel)
theorem qa_inX7 : ∀ w ∈ u_ws RX7 TX7 6, w ∈ qa_T := qa_inT (by decide +kernel)
theorem qa_inX8 : ∀ w ∈ u_ws RX8 TX8 12, w ∈ qa_T := qa_inT (by decide +kernel)
theorem qa_inX9 : ∀ w ∈ u_ws RX9 TX9 44, w ∈ qa_T := qa_inT (by decide +kernel)
/-- what is known of the classes -/
theorem qa_clok {ci : Nat} {C : String} {T : u_T} {N : Nat} (h : qa_cl[ci]? = some (C, T, N)) : (∀ w ∈ u_ws C T N, w ∈ qa_T) ∧ (∀ k, k < N → parseFieldDescriptor (T k).2.2.1 = some (qa_ty ci k)) ∧ (∀ a, a < N → ∀ b, b < N → a ≠ b → (T a).2.1 ≠ (T b).2.1) ∧ qa_nf ci = N := by
  match ci, h with
  | 0, h => cases h; exact ⟨qa_inX0, tyX0_ok, nmX0, rfl⟩
  | 1, h => cases h; exact ⟨qa_inX1, tyX1_ok, nmX1, rfl⟩
  | 2, h => cases h; exact ⟨qa_inX2, tyX2_ok, nmX2, rfl⟩
  | 3, h => cases h; exact ⟨qa_inX3, tyX3_ok, nmX3, rfl⟩
  | 4, h => cases h; exact ⟨qa_inX4, tyX4_ok, nmX4, rfl⟩
  | 5, h => cases h; exact ⟨qa_inX6, tyX6_ok, nmX6, rfl⟩
  | 6, h => cases h; exact ⟨qa_inX7, tyX7_ok, nmX7, rfl⟩
  | 7, h => cases h; exact ⟨qa_inX8, tyX8_ok, nmX8, rfl⟩
  | 8, h => cases h; exact ⟨qa_inX9, tyX9_ok, nmX9, rfl⟩
  | n + 9, h => simp [qa_cl] at h
