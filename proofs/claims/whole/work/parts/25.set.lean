/-! ===== LAYING A TURN; SET ===== -/
theorem r_M_writes {n : Nat} {h : HP} (x : Int32) (hn : h.1 65 80 = nI n) (hl : n < 403) : Run 0 j_M_writes [.ref 65, .int x] h none (wI (wI h 120 n x) 65 80 (nI (n + 1))) := by
  refine Run.of rfl ?_
  repeat refine W1 rfl ?_
  refine ⟨by rw [hn]; exact vp_in_nI hl (by decide), ?_⟩
  repeat refine W1 rfl ?_
  have e1 : (h.1 65 80).toNatClampNeg = n := by rw [hn]; exact nI_clamp (by omega)
  have e2 : h.1 65 80 + 1 = nI (n + 1) := by rw [hn, nI_1]
  refine ⟨rfl, ?_⟩
  rw [← e2, ← e1]
  rfl
def layC (h : HP) (t : Nat) (p : Int32) : HP := wI (wI h 46 t p) 47 t p
def layM (h : HP) (t : Nat) (p : Int32) : HP := wI (wI h 110 t p) 111 t p
theorem r_Rota_lay {h : HP} {t : Nat} (p : Int32) (ht : t < 200) : Run 0 j_Rota_lay [.ref 45, .int (nI t), .int p] h none (layC h t p) := by
  have hi : vp_in (nI t) 200 := vp_in_nI ht (by decide)
  refine Run.of rfl ?_
  repeat refine W1 rfl ?_
  refine ⟨hi, ?_⟩
  repeat refine W1 rfl ?_
  refine ⟨hi, ?_⟩
  repeat refine W1 rfl ?_
  rw [nI_clamp (by omega)]
  exact ⟨rfl, rfl⟩
theorem r_M_laysFor {h : HP} {t : Nat} (p : Int32) (ht : t < 200) : Run 0 j_M_laysFor [.ref 65, .int (nI t), .int p] h none (layM h t p) := by
  have hi : vp_in (nI t) 200 := vp_in_nI ht (by decide)
  refine Run.of rfl ?_
  repeat refine W1 rfl ?_
  refine ⟨hi, ?_⟩
  repeat refine W1 rfl ?_
  refine ⟨hi, ?_⟩
  repeat refine W1 rfl ?_
  rw [nI_clamp (by omega)]
  exact ⟨rfl, rfl⟩
theorem r_E_set_ok {h : HP} {n t : Nat} (p : Int32) (hT : h.1 36 1 = nI n) (hn : n ≤ 200) (ht : t < n) (hp : p = -1 ∨ (0 ≤ p ∧ p < h.1 7 1)) : Run 2 j_E_set [.ref 0, .int (nI t), .int p] h (some (.int 1)) (layC h t p) := by
  refine Run.of rfl ?_
  repeat refine W1 rfl ?_
  refine Cl.of (r_E_isTurn h _) (by decide) ?_
  rw [if_pos ⟨nI_pos' (by omega), by rw [hT]; exact nI_lt ht (by omega)⟩]
  repeat refine W1 rfl ?_
  refine ⟨fun z => absurd z (by decide), fun _ => ?_⟩
  repeat refine W1 rfl ?_
  refine ⟨fun hc => ?_, fun hc => ?_⟩
  · repeat refine W1 rfl ?_
    refine Cl.of (r_Rota_lay p (by omega)) (by decide) ?_
    repeat refine W1 rfl ?_
    exact ⟨Or.inr rfl, rfl, rfl⟩
  · repeat refine W1 rfl ?_
    refine Cl.of (r_E_isPerson h p) (by decide) ?_
    rw [if_pos (hp.resolve_left hc)]
    repeat refine W1 rfl ?_
    refine ⟨fun _ => ?_, fun z => absurd z (by decide)⟩
    repeat refine W1 rfl ?_
    refine Cl.of (r_Rota_lay p (by omega)) (by decide) ?_
    repeat refine W1 rfl ?_
    exact ⟨Or.inr rfl, rfl, rfl⟩
theorem r_E_set_no {h : HP} (t p : Int32) (hb : ¬ ((0 ≤ t ∧ t < h.1 36 1) ∧ (p = -1 ∨ (0 ≤ p ∧ p < h.1 7 1)))) : Run 2 j_E_set [.ref 0, .int t, .int p] h (some (.int 0)) h := by
  refine Run.of rfl ?_
  repeat refine W1 rfl ?_
  refine Cl.of (r_E_isTurn h _) (by decide) ?_
  repeat refine W1 rfl ?_
  refine ⟨fun _ => ?_, fun h1 => ?_⟩
  · repeat refine W1 rfl ?_
    exact ⟨Or.inl rfl, rfl, rfl⟩
  · have h1 := Classical.not_not.mp (fun z => h1 (ite10.mpr z))
    repeat refine W1 rfl ?_
    refine ⟨fun hc => absurd ⟨h1, Or.inl hc⟩ hb, fun hc => ?_⟩
    repeat refine W1 rfl ?_
    refine Cl.of (r_E_isPerson h p) (by decide) ?_
    repeat refine W1 rfl ?_
    refine ⟨fun h2 => ?_, fun _ => ?_⟩
    · exact absurd ⟨h1, Or.inr (Classical.not_not.mp (fun z => h2 (ite10.mpr z)))⟩ hb
    · repeat refine W1 rfl ?_
      exact ⟨Or.inl rfl, rfl, rfl⟩
theorem r_M_set_ok {h : HP} {n t : Nat} (p : Int32) (hT : h.1 65 55 = nI n) (hn : n ≤ 200) (ht : t < n) (hT0 : 0 ≤ h.1 65 55) (hP0 : 0 ≤ h.1 88 1) (hp : p = -1 ∨ (0 ≤ p ∧ p < h.1 88 1)) : Run 2 j_M_set [.ref 65, .int (nI t), .int p] h (some (.int 1)) (layM h t p) := by
  refine Run.of rfl ?_
  repeat refine W1 rfl ?_
  refine Cl.of (r_M_isTurn h _ hT0) (by decide) ?_
  rw [if_pos ⟨nI_pos' (by omega), by rw [hT]; exact nI_lt ht (by omega)⟩]
  repeat refine W1 rfl ?_
  refine ⟨fun z => absurd z (by decide), fun _ => ?_⟩
  repeat refine W1 rfl ?_
  refine ⟨fun hc => ?_, fun hc => ?_⟩
  · repeat refine W1 rfl ?_
    refine Cl.of (r_M_laysFor p (by omega)) (by decide) ?_
    repeat refine W1 rfl ?_
    exact ⟨Or.inr rfl, rfl, rfl⟩
  · repeat refine W1 rfl ?_
    refine Cl.of (r_M_isPerson h p hP0) (by decide) ?_
    rw [if_pos (hp.resolve_left hc)]
    repeat refine W1 rfl ?_
    refine ⟨fun _ => ?_, fun z => absurd z (by decide)⟩
    repeat refine W1 rfl ?_
    refine Cl.of (r_M_laysFor p (by omega)) (by decide) ?_
    repeat refine W1 rfl ?_
    exact ⟨Or.inr rfl, rfl, rfl⟩
theorem r_M_set_no {h : HP} (t p : Int32) (hT0 : 0 ≤ h.1 65 55) (hP0 : 0 ≤ h.1 88 1) (hb : ¬ ((0 ≤ t ∧ t < h.1 65 55) ∧ (p = -1 ∨ (0 ≤ p ∧ p < h.1 88 1)))) : Run 2 j_M_set [.ref 65, .int t, .int p] h (some (.int 0)) h := by
  refine Run.of rfl ?_
  repeat refine W1 rfl ?_
  refine Cl.of (r_M_isTurn h _ hT0) (by decide) ?_
  repeat refine W1 rfl ?_
  refine ⟨fun _ => ?_, fun h1 => ?_⟩
  · repeat refine W1 rfl ?_
    exact ⟨Or.inl rfl, rfl, rfl⟩
  · have h1 := Classical.not_not.mp (fun z => h1 (ite10.mpr z))
    repeat refine W1 rfl ?_
    refine ⟨fun hc => absurd ⟨h1, Or.inl hc⟩ hb, fun hc => ?_⟩
    repeat refine W1 rfl ?_
    refine Cl.of (r_M_isPerson h p hP0) (by decide) ?_
    repeat refine W1 rfl ?_
    refine ⟨fun h2 => ?_, fun _ => ?_⟩
    · exact absurd ⟨h1, Or.inr (Classical.not_not.mp (fun z => h2 (ite10.mpr z)))⟩ hb
    · repeat refine W1 rfl ?_
      exact ⟨Or.inl rfl, rfl, rfl⟩
