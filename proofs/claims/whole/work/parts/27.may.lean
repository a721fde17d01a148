/-! ===== MAY ===== -/
theorem r_M_mayHave {h : HP} {t : Nat} (p : Int32) (ht : t < 200) : Run 0 j_M_mayHave [.ref 65, .int p, .int (nI t)] h (some (.int (if (h.1 109 t >>> (p &&& 31)) &&& 1 = 1 then 1 else 0))) h := by
  refine Run.of rfl ?_
  repeat refine W1 rfl ?_
  refine ⟨vp_in_nI ht (by decide), ?_⟩
  repeat refine W1 rfl ?_
  rw [nI_clamp (by omega)]
  refine ⟨fun hc => ?_, fun hc => ?_⟩
  · rw [if_neg hc]
    repeat refine W1 rfl ?_
    exact ⟨Or.inl rfl, rfl, rfl⟩
  · rw [if_pos hc]
    repeat refine W1 rfl ?_
    exact ⟨Or.inr rfl, rfl, rfl⟩
theorem r_E_may_ok {h : HP} {n t : Nat} (p : Int32) (hT : h.1 36 1 = nI n) (hn : n ≤ 200) (ht : t < n) (hp : 0 ≤ p ∧ p < h.1 7 1) : Run 1 j_E_may [.ref 0, .int p, .int (nI t)] h (some (.int ((h.1 39 t >>> (p &&& 31)) &&& 1))) h := by
  refine Run.of rfl ?_
  repeat refine W1 rfl ?_
  refine Cl.of (r_E_isPerson h p) (by decide) ?_
  rw [if_pos hp]
  repeat refine W1 rfl ?_
  refine ⟨fun z => absurd z (by decide), fun _ => ?_⟩
  repeat refine W1 rfl ?_
  refine Cl.of (r_E_isTurn h _) (by decide) ?_
  rw [if_pos ⟨nI_pos' (by omega), by rw [hT]; exact nI_lt ht (by omega)⟩]
  repeat refine W1 rfl ?_
  refine ⟨fun _ => ?_, fun z => absurd z (by decide)⟩
  repeat refine W1 rfl ?_
  refine ⟨vp_in_nI (by omega) (by decide), ?_⟩
  repeat refine W1 rfl ?_
  rw [nI_clamp (by omega)]
  exact ⟨rfl, rfl⟩
theorem r_E_may_no {h : HP} (p t : Int32) (hb : ¬ ((0 ≤ p ∧ p < h.1 7 1) ∧ (0 ≤ t ∧ t < h.1 36 1))) : Run 1 j_E_may [.ref 0, .int p, .int t] h (some (.int (-1))) h := by
  refine Run.of rfl ?_
  repeat refine W1 rfl ?_
  refine Cl.of (r_E_isPerson h p) (by decide) ?_
  repeat refine W1 rfl ?_
  refine ⟨fun _ => ?_, fun h1 => ?_⟩
  · repeat refine W1 rfl ?_
    exact ⟨rfl, rfl⟩
  · have h1 := Classical.not_not.mp (fun z => h1 (ite10.mpr z))
    repeat refine W1 rfl ?_
    refine Cl.of (r_E_isTurn h t) (by decide) ?_
    repeat refine W1 rfl ?_
    refine ⟨fun h2 => absurd ⟨h1, Classical.not_not.mp (fun z => h2 (ite10.mpr z))⟩ hb, fun _ => ?_⟩
    repeat refine W1 rfl ?_
    exact ⟨rfl, rfl⟩
theorem r_M_may_ok {h : HP} {n t : Nat} (p : Int32) (hT : h.1 65 55 = nI n) (hn : n ≤ 200) (ht : t < n) (hP0 : 0 ≤ h.1 88 1) (hp : 0 ≤ p ∧ p < h.1 88 1) : Run 2 j_M_may [.ref 65, .int p, .int (nI t)] h (some (.int (if (h.1 109 t >>> (p &&& 31)) &&& 1 = 1 then 1 else 0))) h := by
  have hT0 : 0 ≤ h.1 65 55 := by rw [hT]; exact nI_pos' (by omega)
  refine Run.of rfl ?_
  repeat refine W1 rfl ?_
  refine Cl.of (r_M_isPerson h p hP0) (by decide) ?_
  rw [if_pos hp]
  repeat refine W1 rfl ?_
  refine ⟨fun z => absurd z (by decide), fun _ => ?_⟩
  repeat refine W1 rfl ?_
  refine Cl.of (r_M_isTurn h _ hT0) (by decide) ?_
  rw [if_pos (show 0 ≤ nI t ∧ nI t < h.1 65 55 from ⟨nI_pos' (by omega), by rw [hT]; exact nI_lt ht (by omega)⟩)]
  repeat refine W1 rfl ?_
  refine ⟨fun _ => ?_, fun z => absurd z (by decide)⟩
  repeat refine W1 rfl ?_
  refine Cl.of (r_M_mayHave p (by omega)) (by decide) ?_
  repeat refine W1 rfl ?_
  refine ⟨fun hc => ?_, fun hc => ?_⟩
  · rw [if_neg (ite10.mp hc)]
    show Wp _ _ _ _ _ _ _
    repeat refine W1 rfl ?_
    exact ⟨rfl, rfl⟩
  · rw [if_pos (Classical.not_not.mp (fun z => hc (ite10.mpr z)))]
    show Wp _ _ _ _ _ _ _
    repeat refine W1 rfl ?_
    exact ⟨rfl, rfl⟩
theorem r_M_may_no {h : HP} (p t : Int32) (hT0 : 0 ≤ h.1 65 55) (hP0 : 0 ≤ h.1 88 1) (hb : ¬ ((0 ≤ p ∧ p < h.1 88 1) ∧ (0 ≤ t ∧ t < h.1 65 55))) : Run 2 j_M_may [.ref 65, .int p, .int t] h (some (.int (-1))) h := by
  refine Run.of rfl ?_
  repeat refine W1 rfl ?_
  refine Cl.of (r_M_isPerson h p hP0) (by decide) ?_
  repeat refine W1 rfl ?_
  refine ⟨fun _ => ?_, fun h1 => ?_⟩
  · repeat refine W1 rfl ?_
    exact ⟨rfl, rfl⟩
  · have h1 := Classical.not_not.mp (fun z => h1 (ite10.mpr z))
    repeat refine W1 rfl ?_
    refine Cl.of (r_M_isTurn h t hT0) (by decide) ?_
    repeat refine W1 rfl ?_
    refine ⟨fun h2 => absurd ⟨h1, Classical.not_not.mp (fun z => h2 (ite10.mpr z))⟩ hb, fun _ => ?_⟩
    repeat refine W1 rfl ?_
    exact ⟨rfl, rfl⟩
theorem bit01 (x : Int32) : (if x &&& 1 = 1 then (1 : Int32) else 0) = x &&& 1 := by
  obtain ⟨j, hj, e⟩ := pk_andE x (m := 1) 1 (by decide)
  rw [e]
  have : j = 0 ∨ j = 1 := by omega
  rcases this with rfl | rfl <;> decide
