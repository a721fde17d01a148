/-! ===== MORE SMALL METHODS ===== -/
theorem i64_i32 (x : Int32) : x.toInt64.toInt = x.toInt := Int32.toInt_toInt64 x
/-- t lies in 0 .. n - 1, asked over longs -/
theorem in_long (t n : Int32) (hn : 0 ≤ n) : ((0 : Int64) ≤ t.toInt64 ∧ t.toInt64 ≤ (n - 1).toInt64) ↔ (0 ≤ t ∧ t < n) := by
  have h1 : (n - 1).toInt = n.toInt - 1 := by
    have hl := Int32.toInt_lt n
    rw [Int32.le_iff_toInt_le] at hn
    have e : (0 : Int32).toInt = 0 := rfl
    rw [e] at hn
    rw [Int32.toInt_sub]
    have e1 : (1 : Int32).toInt = 1 := rfl
    rw [e1, Int.bmod_eq_of_le (by omega) (by omega)]
  rw [Int64.le_iff_toInt_le, Int64.le_iff_toInt_le, i64_i32, i64_i32, h1, Int32.le_iff_toInt_le, Int32.lt_iff_toInt_lt]
  have e : (0 : Int32).toInt = 0 := rfl
  have e2 : (0 : Int64).toInt = 0 := rfl
  rw [e, e2]
  omega
theorem r_M_isTurn (h : HP) (t : Int32) (hn : 0 ≤ h.1 65 55) : Run 1 j_M_isTurn [.ref 65, .int t] h (some (.int (if 0 ≤ t ∧ t < h.1 65 55 then 1 else 0))) h := by
  refine Run.of rfl ?_
  repeat refine W1 rfl ?_
  refine Cl.of (r_M_isIn h _ _ _) (by decide) ?_
  repeat refine W1 rfl ?_
  simp only [show Int32.toNatClampNeg 1 = 1 from rfl, in_long t _ hn]
  refine ⟨?_, rfl, rfl⟩
  split <;> simp
theorem r_M_isPerson (h : HP) (t : Int32) (hn : 0 ≤ h.1 88 1) : Run 1 j_M_isPerson [.ref 65, .int t] h (some (.int (if 0 ≤ t ∧ t < h.1 88 1 then 1 else 0))) h := by
  refine Run.of rfl ?_
  repeat refine W1 rfl ?_
  refine ⟨vp_in_nI (n := 1) (by decide) (by decide), ?_⟩
  repeat refine W1 rfl ?_
  refine Cl.of (r_M_isIn h _ _ _) (by decide) ?_
  repeat refine W1 rfl ?_
  simp only [show Int32.toNatClampNeg 1 = 1 from rfl, in_long t _ hn]
  refine ⟨?_, rfl, rfl⟩
  split <;> simp
theorem r_M_isKind (h : HP) (t : Int32) (hn : 0 ≤ h.1 89 1) : Run 1 j_M_isKind [.ref 65, .int t] h (some (.int (if 0 ≤ t ∧ t < h.1 89 1 then 1 else 0))) h := by
  refine Run.of rfl ?_
  repeat refine W1 rfl ?_
  refine ⟨vp_in_nI (n := 1) (by decide) (by decide), ?_⟩
  repeat refine W1 rfl ?_
  refine Cl.of (r_M_isIn h _ _ _) (by decide) ?_
  repeat refine W1 rfl ?_
  simp only [show Int32.toNatClampNeg 1 = 1 from rfl, in_long t _ hn]
  refine ⟨?_, rfl, rfl⟩
  split <;> simp
theorem r_E_octet {n : Nat} (h : HP) (k : Int32) (hn : h.1 0 11 = nI n) (hl : n ≤ 403) : Run 0 j_E_octet [.ref 0, .int k] h (some (.int (if 0 ≤ k ∧ k < h.1 0 11 then h.1 64 k.toNatClampNeg else -1))) h := by
  refine Run.of rfl ?_
  repeat refine W1 rfl ?_
  refine ⟨fun hc => ?_, fun hc => ?_⟩
  · repeat refine W1 rfl ?_
    rw [if_neg (fun z => absurd z.1 (Int32.not_le.mpr hc))]
    exact ⟨rfl, rfl⟩
  · repeat refine W1 rfl ?_
    refine ⟨fun hc2 => ?_, fun hc2 => ?_⟩
    · repeat refine W1 rfl ?_
      rw [if_neg (fun z => absurd z.2 (Int32.not_lt.mpr hc2))]
      exact ⟨rfl, rfl⟩
    · repeat refine W1 rfl ?_
      obtain ⟨j, hj, rfl⟩ := nI_of hc
      rw [hn, nI_leI (by omega) hj] at hc2
      refine ⟨vp_in_nI (by omega) (by decide), ?_⟩
      repeat refine W1 rfl ?_
      rw [hn, if_pos ⟨nI_pos' hj, nI_lt (by omega) (by omega)⟩]
      exact ⟨rfl, rfl⟩
theorem r_M_octet {n : Nat} (h : HP) (k : Int32) (hn : h.1 65 80 = nI n) (hl : n ≤ 403) : Run 0 j_M_octet [.ref 65, .int k] h (some (.int (if 0 ≤ k ∧ k < h.1 65 80 then h.1 120 k.toNatClampNeg else -1))) h := by
  refine Run.of rfl ?_
  repeat refine W1 rfl ?_
  refine ⟨fun hc => ?_, fun hc => ?_⟩
  · repeat refine W1 rfl ?_
    rw [if_neg (fun z => absurd z.1 (Int32.not_le.mpr hc))]
    exact ⟨rfl, rfl⟩
  · repeat refine W1 rfl ?_
    refine ⟨fun hc2 => ?_, fun hc2 => ?_⟩
    · repeat refine W1 rfl ?_
      rw [if_neg (fun z => absurd z.2 (Int32.not_lt.mpr hc2))]
      exact ⟨rfl, rfl⟩
    · repeat refine W1 rfl ?_
      obtain ⟨j, hj, rfl⟩ := nI_of hc
      rw [hn, nI_leI (by omega) hj] at hc2
      refine ⟨vp_in_nI (by omega) (by decide), ?_⟩
      repeat refine W1 rfl ?_
      rw [hn, if_pos ⟨nI_pos' hj, nI_lt (by omega) (by omega)⟩]
      exact ⟨rfl, rfl⟩
