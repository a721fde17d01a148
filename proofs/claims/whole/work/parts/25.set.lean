/-! ===== LAYING A TURN; SET ===== -/
theorem r_M_writes {n : Nat} {h : HP} (x : Int32) (hn : h.1 65 80 = nI n) (hl : n < 403) : Run 0 j_M_writes [.ref 65, .int x] h none (wI (wI h 120 n x) 65 80 (nI (n + 1))) := by
  refine Run.of rfl ?_
  repeat refine W1 rfl ?_
  refine ⟨by rw [hn]; exact vp_in_nI hl (by decide), ?_⟩
  repeat refine W1 rfl ?_
  have e1 : (h.1 65 80).toNatClampNeg = n := by rw [hn]; exact nI_clamp (by omega)
  have e2 : h.1 65 80 + 1 = nI (n + 1) := by rw [hn, nI_1]
  refine ⟨rfl, ?_⟩
  rw [← e2, ← e1]
  rfl
def layC (h : HP) (t : Nat) (p : Int32) : HP := wI (wI h 46 t p) 47 t p
def layM (h : HP) (t : Nat) (p : Int32) : HP := wI (wI h 110 t p) 111 t p
theorem r_Rota_lay {h : HP} {t : Nat} (p : Int32) (ht : t < 200) : Run 0 j_Rota_lay [.ref 45, .int (nI t), .int p] h none (layC h t p) := by
  have hi : vp_in (nI t) 200 := vp_in_nI ht (by decide)
  refine Run.of rfl ?_
  repeat refine W1 rfl ?_
  refine ⟨hi, ?_⟩
  repeat refine W1 rfl ?_
  refine ⟨hi, ?_⟩
  repeat refine W1 rfl ?_
  rw [nI_clamp (by omega)]
  exact ⟨rfl, rfl⟩
theorem r_M_laysFor {h : HP} {t : Nat} (p : Int32) (ht : t < 200) : Run 0 j_M_laysFor [.ref 65, .int (nI t), .int p] h none (layM h t p) := by
  have hi : vp_in (nI t) 200 := vp_in_nI ht (by decide)
  refine Run.of rfl ?_
  repeat refine W1 rfl ?_
  refine ⟨hi, ?_⟩
  repeat refine W1 rfl ?_
  refine ⟨hi, ?_⟩
  repeat refine W1 rfl ?_
  rw [nI_clamp (by omega)]
  exact ⟨rfl, rfl⟩
