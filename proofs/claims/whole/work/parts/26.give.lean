/-! ===== GIVE ===== -/
theorem r_E_give_ok {h : HP} {n t : Nat} (p : Int32) (hT : h.1 36 1 = nI n) (hn : n ≤ 200) (ht : t < n) (hp : 0 ≤ p ∧ p < h.1 7 1) (ho : ¬ h.1 46 t = -1) : Run 2 j_E_give [.ref 0, .int (nI t), .int p] h (some (.int 1)) (wI h 47 t p) := by
  have hi : vp_in (nI t) 200 := vp_in_nI (by omega) (by decide)
  refine Run.of rfl ?_
  repeat refine W1 rfl ?_
  refine Cl.of (r_E_isTurn h _) (by decide) ?_
  rw [if_pos ⟨nI_pos' (by omega), by rw [hT]; exact nI_lt ht (by omega)⟩]
  repeat refine W1 rfl ?_
  refine ⟨fun z => absurd z (by decide), fun _ => ?_⟩
  repeat refine W1 rfl ?_
  refine Cl.of (r_E_isPerson h p) (by decide) ?_
  rw [if_pos hp]
  repeat refine W1 rfl ?_
  refine ⟨fun z => absurd z (by decide), fun _ => ?_⟩
  repeat refine W1 rfl ?_
  refine ⟨hi, ?_⟩
  repeat refine W1 rfl ?_
  rw [nI_clamp (by omega)]
  refine ⟨fun _ => ?_, fun z => absurd z ho⟩
  repeat refine W1 rfl ?_
  refine ⟨hi, ?_⟩
  repeat refine W1 rfl ?_
  rw [nI_clamp (by omega)]
  exact ⟨Or.inr rfl, rfl, rfl⟩
theorem r_E_give_no {h : HP} {n : Nat} (t p : Int32) (hT : h.1 36 1 = nI n) (hn : n ≤ 200) (hb : ¬ ((0 ≤ t ∧ t < h.1 36 1) ∧ (0 ≤ p ∧ p < h.1 7 1) ∧ ¬ h.1 46 t.toNatClampNeg = -1)) : Run 2 j_E_give [.ref 0, .int t, .int p] h (some (.int 0)) h := by
  refine Run.of rfl ?_
  repeat refine W1 rfl ?_
  refine Cl.of (r_E_isTurn h _) (by decide) ?_
  repeat refine W1 rfl ?_
  refine ⟨fun _ => ?_, fun h1 => ?_⟩
  · repeat refine W1 rfl ?_
    exact ⟨Or.inl rfl, rfl, rfl⟩
  · have h1 := Classical.not_not.mp (fun z => h1 (ite10.mpr z))
    repeat refine W1 rfl ?_
    refine Cl.of (r_E_isPerson h p) (by decide) ?_
    repeat refine W1 rfl ?_
    refine ⟨fun _ => ?_, fun h2 => ?_⟩
    · repeat refine W1 rfl ?_
      exact ⟨Or.inl rfl, rfl, rfl⟩
    · have h2 := Classical.not_not.mp (fun z => h2 (ite10.mpr z))
      repeat refine W1 rfl ?_
      obtain ⟨j, hj, ej⟩ := nI_of (Int32.not_lt.mpr h1.1)
      have hlt : j < n := by
        have := h1.2
        rw [hT, ej] at this
        exact (nI_ltI hj (by omega)).mp this
      refine ⟨by rw [ej]; exact vp_in_nI (by omega) (by decide), ?_⟩
      repeat refine W1 rfl ?_
      refine ⟨fun h3 => absurd ⟨h1, h2, h3⟩ hb, fun _ => ?_⟩
      repeat refine W1 rfl ?_
      exact ⟨Or.inl rfl, rfl, rfl⟩
theorem r_M_give_ok {h : HP} {n t : Nat} (p : Int32) (hT : h.1 65 55 = nI n) (hn : n ≤ 200) (ht : t < n) (hT0 : 0 ≤ h.1 65 55) (hP0 : 0 ≤ h.1 88 1) (hp : 0 ≤ p ∧ p < h.1 88 1) (ho : ¬ h.1 111 t = -1) : Run 2 j_M_give [.ref 65, .int (nI t), .int p] h (some (.int 1)) (wI h 111 t p) := by
  have hi : vp_in (nI t) 200 := vp_in_nI (by omega) (by decide)
  refine Run.of rfl ?_
  repeat refine W1 rfl ?_
  refine Cl.of (r_M_isTurn h _ hT0) (by decide) ?_
  rw [if_pos ⟨nI_pos' (by omega), by rw [hT]; exact nI_lt ht (by omega)⟩]
  repeat refine W1 rfl ?_
  refine ⟨fun z => absurd z (by decide), fun _ => ?_⟩
  repeat refine W1 rfl ?_
  refine Cl.of (r_M_isPerson h p hP0) (by decide) ?_
  rw [if_pos hp]
  repeat refine W1 rfl ?_
  refine ⟨fun z => absurd z (by decide), fun _ => ?_⟩
  repeat refine W1 rfl ?_
  refine ⟨hi, ?_⟩
  repeat refine W1 rfl ?_
  rw [nI_clamp (by omega)]
  refine ⟨fun _ => ?_, fun z => absurd z ho⟩
  repeat refine W1 rfl ?_
  refine ⟨hi, ?_⟩
  repeat refine W1 rfl ?_
  rw [nI_clamp (by omega)]
  exact ⟨Or.inr rfl, rfl, rfl⟩
theorem r_M_give_no {h : HP} {n : Nat} (t p : Int32) (hT : h.1 65 55 = nI n) (hn : n ≤ 200) (hT0 : 0 ≤ h.1 65 55) (hP0 : 0 ≤ h.1 88 1) (hb : ¬ ((0 ≤ t ∧ t < h.1 65 55) ∧ (0 ≤ p ∧ p < h.1 88 1) ∧ ¬ h.1 111 t.toNatClampNeg = -1)) : Run 2 j_M_give [.ref 65, .int t, .int p] h (some (.int 0)) h := by
  refine Run.of rfl ?_
  repeat refine W1 rfl ?_
  refine Cl.of (r_M_isTurn h _ hT0) (by decide) ?_
  repeat refine W1 rfl ?_
  refine ⟨fun _ => ?_, fun h1 => ?_⟩
  · repeat refine W1 rfl ?_
    exact ⟨Or.inl rfl, rfl, rfl⟩
  · have h1 := Classical.not_not.mp (fun z => h1 (ite10.mpr z))
    repeat refine W1 rfl ?_
    refine Cl.of (r_M_isPerson h p hP0) (by decide) ?_
    repeat refine W1 rfl ?_
    refine ⟨fun _ => ?_, fun h2 => ?_⟩
    · repeat refine W1 rfl ?_
      exact ⟨Or.inl rfl, rfl, rfl⟩
    · have h2 := Classical.not_not.mp (fun z => h2 (ite10.mpr z))
      repeat refine W1 rfl ?_
      obtain ⟨j, hj, ej⟩ := nI_of (Int32.not_lt.mpr h1.1)
      have hlt : j < n := by
        have := h1.2
        rw [hT, ej] at this
        exact (nI_ltI hj (by omega)).mp this
      refine ⟨by rw [ej]; exact vp_in_nI (by omega) (by decide), ?_⟩
      repeat refine W1 rfl ?_
      refine ⟨fun h3 => absurd ⟨h1, h2, h3⟩ hb, fun _ => ?_⟩
      repeat refine W1 rfl ?_
      exact ⟨Or.inl rfl, rfl, rfl⟩
