/-! ===== CELLS, RETURNS, CALLS ===== -/
theorem kia_0 : (u_ws kR_0 kT_0 10).all (fun w => decide (w ∈ lw_tbl) && goodWord w) = true := by decide +kernel
theorem kia_1 : (u_ws kR_1 kT_1 8).all (fun w => decide (w ∈ lw_tbl) && goodWord w) = true := by decide +kernel
theorem kia_2 : (u_ws kR_2 kT_2 14).all (fun w => decide (w ∈ lw_tbl) && goodWord w) = true := by decide +kernel
theorem kia_3 : (u_ws kR_3 kT_3 13).all (fun w => decide (w ∈ lw_tbl) && goodWord w) = true := by decide +kernel
theorem kia_4 : (u_ws kR_4 kT_4 8).all (fun w => decide (w ∈ lw_tbl) && goodWord w) = true := by decide +kernel
theorem kia_5 : (u_ws kR_5 kT_5 8).all (fun w => decide (w ∈ lw_tbl) && goodWord w) = true := by decide +kernel
theorem kia_6 : (u_ws kR_6 kT_6 6).all (fun w => decide (w ∈ lw_tbl) && goodWord w) = true := by decide +kernel
theorem kia_7 : (u_ws kR_7 kT_7 9).all (fun w => decide (w ∈ lw_tbl) && goodWord w) = true := by decide +kernel
theorem kia_8 : (u_ws kR_8 kT_8 2).all (fun w => decide (w ∈ lw_tbl) && goodWord w) = true := by decide +kernel
theorem kia_9 : (u_ws kR_9 kT_9 8).all (fun w => decide (w ∈ lw_tbl) && goodWord w) = true := by decide +kernel
theorem kia_10 : (u_ws kR_10 kT_10 4).all (fun w => decide (w ∈ lw_tbl) && goodWord w) = true := by decide +kernel
theorem kia_11 : (u_ws kR_11 kT_11 12).all (fun w => decide (w ∈ lw_tbl) && goodWord w) = true := by decide +kernel
theorem kia_12 : (u_ws kR_12 kT_12 81).all (fun w => decide (w ∈ lw_tbl) && goodWord w) = true := by decide +kernel
theorem kin_of {ws : List Cond} (h : ws.all (fun w => decide (w ∈ lw_tbl) && goodWord w) = true) : ∀ w ∈ ws, w ∈ gW := by
  intro w hw
  have h1 := List.all_eq_true.mp h w hw
  rw [Bool.and_eq_true, decide_eq_true_eq] at h1
  exact List.mem_filter.mpr h1
theorem kin : ∀ {a : Nat} {C : String} {T : u_T} {N : Nat}, kCl[a]? = some (C, T, N) → ∀ w ∈ u_ws C T N, w ∈ gW
  | 0, _, _, _, h => by cases h; exact kin_of kia_0
  | 1, _, _, _, h => by cases h; exact kin_of kia_1
  | 2, _, _, _, h => by cases h; exact kin_of kia_2
  | 3, _, _, _, h => by cases h; exact kin_of kia_3
  | 4, _, _, _, h => by cases h; exact kin_of kia_4
  | 5, _, _, _, h => by cases h; exact kin_of kia_5
  | 6, _, _, _, h => by cases h; exact kin_of kia_6
  | 7, _, _, _, h => by cases h; exact kin_of kia_7
  | 8, _, _, _, h => by cases h; exact kin_of kia_8
  | 9, _, _, _, h => by cases h; exact kin_of kia_9
  | 10, _, _, _, h => by cases h; exact kin_of kia_10
  | 11, _, _, _, h => by cases h; exact kin_of kia_11
  | 12, _, _, _, h => by cases h; exact kin_of kia_12
  | _ + 13, _, _, _, h => by cases h
theorem kty : ∀ {a : Nat} {C : String} {T : u_T} {N : Nat}, kCl[a]? = some (C, T, N) → ∃ ty0 : Nat → FieldType, (∀ k, k < N → parseFieldDescriptor (T k).2.2.1 = some (ty0 k)) ∧ ∀ a, a < N → ∀ b, b < N → a ≠ b → (T a).2.1 ≠ (T b).2.1
  | 0, _, _, _, h => by cases h; exact ⟨ky_0, kyo_0, kn_0⟩
  | 1, _, _, _, h => by cases h; exact ⟨ky_1, kyo_1, kn_1⟩
  | 2, _, _, _, h => by cases h; exact ⟨ky_2, kyo_2, kn_2⟩
  | 3, _, _, _, h => by cases h; exact ⟨ky_3, kyo_3, kn_3⟩
  | 4, _, _, _, h => by cases h; exact ⟨ky_4, kyo_4, kn_4⟩
  | 5, _, _, _, h => by cases h; exact ⟨ky_5, kyo_5, kn_5⟩
  | 6, _, _, _, h => by cases h; exact ⟨ky_6, kyo_6, kn_6⟩
  | 7, _, _, _, h => by cases h; exact ⟨ky_7, kyo_7, kn_7⟩
  | 8, _, _, _, h => by cases h; exact ⟨ky_8, kyo_8, kn_8⟩
  | 9, _, _, _, h => by cases h; exact ⟨ky_9, kyo_9, kn_9⟩
  | 10, _, _, _, h => by cases h; exact ⟨ky_10, kyo_10, kn_10⟩
  | 11, _, _, _, h => by cases h; exact ⟨ky_11, kyo_11, kn_11⟩
  | 12, _, _, _, h => by cases h; exact ⟨ky_12, kyo_12, kn_12⟩
  | _ + 13, _, _, _, h => by cases h
