/-! ===== SMALL METHODS ===== -/
theorem i32_lits : (Int32.toInt 1 = 1) ∧ (Int32.toInt 2 = 2) ∧ (Int32.toInt (-1) = -1) ∧ (Int32.toInt 6 = 6) ∧ (Int32.toInt 16 = 16) ∧ (Int32.toInt 900 = 900) ∧ (Int32.toInt 720720 = 720720) := by decide
theorem r_E_ended (h : HP) : Run 0 j_E_ended [.ref 0] h (some (.int (h.1 54 8))) h := by
  refine Run.of rfl ?_
  repeat refine W1 rfl ?_
  exact ⟨rfl, rfl⟩
theorem r_M_ended (h : HP) : Run 0 j_M_ended [.ref 65] h (some (.int (h.1 65 74))) h := by
  refine Run.of rfl ?_
  repeat refine W1 rfl ?_
  exact ⟨rfl, rfl⟩
theorem r_E_isPerson (h : HP) (p : Int32) : Run 0 j_E_isPerson [.ref 0, .int p] h (some (.int (if 0 ≤ p ∧ p < h.1 7 1 then 1 else 0))) h := by
  refine Run.of rfl ?_
  repeat' (first | refine W1 rfl ?_ | (refine ⟨Or.inl rfl, ?_, rfl⟩; (first | rfl | (refine congrArg (fun x => some (Value.int x)) ?_; split <;> first | rfl | (exfalso; simp only [Int32.le_iff_toInt_le, Int32.lt_iff_toInt_lt, ← Int32.toInt_inj, Int32.toInt_zero, i32_lits] at *; omega)))) | (refine ⟨Or.inr rfl, ?_, rfl⟩; (first | rfl | (refine congrArg (fun x => some (Value.int x)) ?_; split <;> first | rfl | (exfalso; simp only [Int32.le_iff_toInt_le, Int32.lt_iff_toInt_lt, ← Int32.toInt_inj, Int32.toInt_zero, i32_lits] at *; omega)))) | (refine ⟨?_, rfl⟩; (first | rfl | (refine congrArg (fun x => some (Value.int x)) ?_; split <;> first | rfl | (exfalso; simp only [Int32.le_iff_toInt_le, Int32.lt_iff_toInt_lt, ← Int32.toInt_inj, Int32.toInt_zero, i32_lits] at *; omega)))) | refine ⟨fun _ => ?_, fun _ => ?_⟩)
theorem r_E_isKind (h : HP) (p : Int32) : Run 0 j_E_isKind [.ref 0, .int p] h (some (.int (if 0 ≤ p ∧ p < h.1 7 2 then 1 else 0))) h := by
  refine Run.of rfl ?_
  repeat' (first | refine W1 rfl ?_ | (refine ⟨Or.inl rfl, ?_, rfl⟩; (first | rfl | (refine congrArg (fun x => some (Value.int x)) ?_; split <;> first | rfl | (exfalso; simp only [Int32.le_iff_toInt_le, Int32.lt_iff_toInt_lt, ← Int32.toInt_inj, Int32.toInt_zero, i32_lits] at *; omega)))) | (refine ⟨Or.inr rfl, ?_, rfl⟩; (first | rfl | (refine congrArg (fun x => some (Value.int x)) ?_; split <;> first | rfl | (exfalso; simp only [Int32.le_iff_toInt_le, Int32.lt_iff_toInt_lt, ← Int32.toInt_inj, Int32.toInt_zero, i32_lits] at *; omega)))) | (refine ⟨?_, rfl⟩; (first | rfl | (refine congrArg (fun x => some (Value.int x)) ?_; split <;> first | rfl | (exfalso; simp only [Int32.le_iff_toInt_le, Int32.lt_iff_toInt_lt, ← Int32.toInt_inj, Int32.toInt_zero, i32_lits] at *; omega)))) | refine ⟨fun _ => ?_, fun _ => ?_⟩)
theorem r_E_isTurn (h : HP) (p : Int32) : Run 0 j_E_isTurn [.ref 0, .int p] h (some (.int (if 0 ≤ p ∧ p < h.1 36 1 then 1 else 0))) h := by
  refine Run.of rfl ?_
  repeat' (first | refine W1 rfl ?_ | (refine ⟨Or.inl rfl, ?_, rfl⟩; (first | rfl | (refine congrArg (fun x => some (Value.int x)) ?_; split <;> first | rfl | (exfalso; simp only [Int32.le_iff_toInt_le, Int32.lt_iff_toInt_lt, ← Int32.toInt_inj, Int32.toInt_zero, i32_lits] at *; omega)))) | (refine ⟨Or.inr rfl, ?_, rfl⟩; (first | rfl | (refine congrArg (fun x => some (Value.int x)) ?_; split <;> first | rfl | (exfalso; simp only [Int32.le_iff_toInt_le, Int32.lt_iff_toInt_lt, ← Int32.toInt_inj, Int32.toInt_zero, i32_lits] at *; omega)))) | (refine ⟨?_, rfl⟩; (first | rfl | (refine congrArg (fun x => some (Value.int x)) ?_; split <;> first | rfl | (exfalso; simp only [Int32.le_iff_toInt_le, Int32.lt_iff_toInt_lt, ← Int32.toInt_inj, Int32.toInt_zero, i32_lits] at *; omega)))) | refine ⟨fun _ => ?_, fun _ => ?_⟩)
