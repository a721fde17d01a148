/-! ===== WHAT IS KEPT BETWEEN CALLS ===== -/
def keepL : List Nat := [1, 2, 7, 8, 9, 12, 13, 14, 15, 16, 36, 37, 38, 39, 40, 41, 42, 43, 44, 46, 47, 64, 66, 87, 88, 89, 90, 92, 96, 97, 98, 99, 100, 106, 107, 108, 109, 110, 111, 120]
def keep (k i : Nat) : Bool := bif keepL.contains k then true else bif Nat.beq k 0 then Nat.beq i 11 else bif Nat.beq k 17 then Nat.beq i 6 || Nat.beq i 7 else bif Nat.beq k 50 then Nat.beq i 6 || Nat.beq i 7 else bif Nat.beq k 54 then Nat.beq i 8 else bif Nat.beq k 65 then [1, 7, 8, 55, 68, 69, 74, 80].contains i else false
def keepJ (k : Nat) : Bool := Nat.beq k 91 || Nat.beq k 95
/-- nothing that is kept differs -/
def Same (h h' : HP) : Prop := (∀ k i, keep k i = true → h'.1 k i = h.1 k i) ∧ (∀ k i, keepJ k = true → h'.2 k i = h.2 k i)
theorem Same.rfl (h : HP) : Same h h := ⟨fun _ _ _ => Eq.refl _, fun _ _ _ => Eq.refl _⟩
theorem Same.trans {a b c : HP} (h1 : Same a b) (h2 : Same b c) : Same a c := ⟨fun k i hk => (h2.1 k i hk).trans (h1.1 k i hk), fun k i hk => (h2.2 k i hk).trans (h1.2 k i hk)⟩
theorem Same.ofI (h : HP) {k i : Nat} (x : Int32) (hk : keep k i = false) : Same h (wI h k i x) := by
  refine ⟨fun k' i' h' => ?_, fun _ _ _ => Eq.refl _⟩
  by_cases e : k' = k
  · subst e
    by_cases e2 : i' = i
    · subst e2
      rw [hk] at h'
      cases h'
    · exact wI_ne2 h x e2
  · rw [wI_ne h i x e]
theorem Same.ofJ (h : HP) {k i : Nat} (x : Int64) (hk : keepJ k = false) : Same h (wJ h k i x) := by
  refine ⟨fun _ _ _ => Eq.refl _, fun k' i' h' => ?_⟩
  have e : k' ≠ k := fun e => by subst e; rw [hk] at h'; cases h'
  rw [wJ_2, if_neg e]
theorem Same.addI {h0 h : HP} {k i : Nat} {x : Int32} (h1 : Same h0 h) (hk : keep k i = false) : Same h0 (wI h k i x) := h1.trans (Same.ofI h x hk)
theorem Same.addJ {h0 h : HP} {k i : Nat} {x : Int64} (h1 : Same h0 h) (hk : keepJ k = false) : Same h0 (wJ h k i x) := h1.trans (Same.ofJ h x hk)
/-- the tape -/
def TP (h : HP) : Prop := ∃ n, n ≤ 900 ∧ h.1 1 1 = nI n ∧ h.1 65 1 = nI n ∧ ∀ i, i < n → h.1 2 i = h.1 66 i ∧ ∃ b, b < 256 ∧ h.1 66 i = nI b
/-- small things: ended, fault, cut, the image -/
def SMX (h : HP) : Prop := h.1 54 8 = h.1 65 74 ∧ h.1 17 6 = h.1 65 7 ∧ h.1 17 7 = h.1 65 8 ∧ (h.1 65 68 = -1 → h.1 50 6 = -1 ∧ h.1 50 7 = -1) ∧ (¬ h.1 65 68 = -1 → h.1 50 6 = h.1 65 68 ∧ h.1 50 7 = h.1 65 69) ∧ ∃ n, n ≤ 403 ∧ h.1 0 11 = nI n ∧ h.1 65 80 = nI n ∧ ∀ i, i < n → h.1 64 i = h.1 120 i
def Inv (h : HP) : Prop := TP h ∧ SMX h ∧ ∃ s c v, RC s c v h ∧ RM s c v h ∧ OK s ∧ RO s c v
theorem TP.same {h h' : HP} (S : Same h h') (t : TP h) : TP h' := by
  obtain ⟨n, h1, h2, h3, h4⟩ := t
  refine ⟨n, h1, ?_, ?_, fun i hi => ?_⟩
  · rw [S.1 1 1 (Eq.refl _)]; exact h2
  · rw [S.1 65 1 (Eq.refl _)]; exact h3
  · rw [S.1 2 i (Eq.refl _), S.1 66 i (Eq.refl _)]; exact h4 i hi
theorem SMX.same {h h' : HP} (S : Same h h') (t : SMX h) : SMX h' := by
  obtain ⟨h1, h2, h3, h4, h5, n, h6, h7, h8, h9⟩ := t
  unfold SMX
  rw [S.1 54 8 (Eq.refl _), S.1 65 74 (Eq.refl _), S.1 17 6 (Eq.refl _), S.1 65 7 (Eq.refl _), S.1 17 7 (Eq.refl _), S.1 65 8 (Eq.refl _), S.1 65 68 (Eq.refl _), S.1 50 6 (Eq.refl _), S.1 50 7 (Eq.refl _), S.1 65 69 (Eq.refl _), S.1 0 11 (Eq.refl _), S.1 65 80 (Eq.refl _)]
  refine ⟨h1, h2, h3, h4, h5, n, h6, h7, h8, fun i hi => ?_⟩
  rw [S.1 64 i (Eq.refl _), S.1 120 i (Eq.refl _)]
  exact h9 i hi
theorem RC.same {s : ST} {c v : RT} {h h' : HP} (S : Same h h') (R : RC s c v h) : RC s c v h' := by
  unfold RC
  have e : ∀ k i, keep k i = true → h'.1 k i = h.1 k i := S.1
  refine ⟨?_, fun t ht => ?_, fun t ht => ?_, fun t ht => ?_, fun t ht => ?_, fun t ht => ?_, fun t ht => ?_⟩
  · rw [e 36 1 (Eq.refl _), e 7 1 (Eq.refl _), e 7 2 (Eq.refl _), e 7 0 (Eq.refl _), e 7 3 (Eq.refl _), e 7 4 (Eq.refl _)]; exact R.1
  · rw [e 37 t (Eq.refl _), e 38 t (Eq.refl _), e 41 t (Eq.refl _), e 39 t (Eq.refl _), e 40 t (Eq.refl _), e 42 t (Eq.refl _), e 46 t (Eq.refl _), e 47 t (Eq.refl _)]; exact R.2.1 t ht
  · rw [e 9 t (Eq.refl _), e 12 t (Eq.refl _), e 13 t (Eq.refl _), e 8 t (Eq.refl _)]; exact R.2.2.1 t ht
  · rw [e 15 t (Eq.refl _), e 14 t (Eq.refl _)]; exact R.2.2.2.1 t ht
  · rw [e 16 t (Eq.refl _)]; exact R.rst ht
  · rw [e 43 t (Eq.refl _)]; exact R.kfs ht
  · rw [e 44 t (Eq.refl _)]; exact R.dfs ht
theorem RM.same {s : ST} {c v : RT} {h h' : HP} (S : Same h h') (R : RM s c v h) : RM s c v h' := by
  unfold RM
  have e : ∀ k i, keep k i = true → h'.1 k i = h.1 k i := S.1
  refine ⟨?_, fun t ht => ?_, fun t ht => ?_, fun t ht => ?_, fun t ht => ?_⟩
  · rw [e 65 55 (Eq.refl _), e 88 1 (Eq.refl _), e 89 1 (Eq.refl _), e 87 1 (Eq.refl _), e 90 1 (Eq.refl _)]; exact R.1
  · rw [e 106 t (Eq.refl _), e 107 t (Eq.refl _), e 108 t (Eq.refl _), e 109 t (Eq.refl _), e 110 t (Eq.refl _), e 111 t (Eq.refl _)]; exact R.2.1 t ht
  · rw [e 92 _ (Eq.refl _), S.2 91 _ (Eq.refl _)]; exact R.2.2.1 t ht
  · rw [e 96 _ (Eq.refl _), S.2 95 _ (Eq.refl _)]; exact R.2.2.2.1 t ht
  · rw [e 97 _ (Eq.refl _), e 98 _ (Eq.refl _), e 99 _ (Eq.refl _), e 100 _ (Eq.refl _)]; exact R.2.2.2.2 t ht
theorem Inv.same {h h' : HP} (S : Same h h') (I : Inv h) : Inv h' := by
  obtain ⟨t, x, s, c, v, R, M, o, ro⟩ := I
  exact ⟨t.same S, x.same S, s, c, v, R.same S, M.same S, o, ro⟩
/-! numbers given to calls -/
theorem ix_cases (x : Int32) {n : Nat} (hn : n < 2 ^ 31) : (∃ j, j < n ∧ x = nI j) ∨ ¬ (0 ≤ x ∧ x < nI n) := by
  rcases pk_ix x hn with h | h | h
  · exact Or.inr (fun z => absurd h (Int32.not_lt.mpr z.1))
  · exact Or.inr (fun z => absurd h (Int32.not_le.mpr z.2))
  · exact Or.inl h
theorem ix_ok {j n : Nat} (h : j < n) (hn : n < 2 ^ 31) : 0 ≤ nI j ∧ nI j < nI n := ⟨nI_pos' (by omega), nI_lt h hn⟩
section GUARDS
variable {s : ST} {c v : RT} {h : HP}
theorem g_EP (R : RC s c v h) (o : OK s) {p : Nat} (hp : p < zP s) : Run 0 j_E_isPerson [.ref 0, .int (nI p)] h (some (.int 1)) h := by
  have := r_E_isPerson h (nI p)
  rwa [R.P, if_pos (ix_ok hp (by have := o.P; omega))] at this
theorem g_EPn (R : RC s c v h) {x : Int32} (hx : ¬ (0 ≤ x ∧ x < nI (zP s))) : Run 0 j_E_isPerson [.ref 0, .int x] h (some (.int 0)) h := by
  have := r_E_isPerson h x
  rwa [R.P, if_neg hx] at this
theorem g_EK (R : RC s c v h) (o : OK s) {p : Nat} (hp : p < zK s) : Run 0 j_E_isKind [.ref 0, .int (nI p)] h (some (.int 1)) h := by
  have := r_E_isKind h (nI p)
  rwa [R.K, if_pos (ix_ok hp (by have := o.K; omega))] at this
theorem g_EKn (R : RC s c v h) {x : Int32} (hx : ¬ (0 ≤ x ∧ x < nI (zK s))) : Run 0 j_E_isKind [.ref 0, .int x] h (some (.int 0)) h := by
  have := r_E_isKind h x
  rwa [R.K, if_neg hx] at this
theorem g_ET (R : RC s c v h) (o : OK s) {p : Nat} (hp : p < zT s) : Run 0 j_E_isTurn [.ref 0, .int (nI p)] h (some (.int 1)) h := by
  have := r_E_isTurn h (nI p)
  rwa [R.T, if_pos (ix_ok hp (by have := o.T; omega))] at this
theorem g_ETn (R : RC s c v h) {x : Int32} (hx : ¬ (0 ≤ x ∧ x < nI (zT s))) : Run 0 j_E_isTurn [.ref 0, .int x] h (some (.int 0)) h := by
  have := r_E_isTurn h x
  rwa [R.T, if_neg hx] at this
theorem g_MP (R : RM s c v h) (o : OK s) {p : Nat} (hp : p < zP s) : Run 1 j_M_isPerson [.ref 65, .int (nI p)] h (some (.int 1)) h := by
  have hP := o.P
  have := r_M_isPerson h (nI p) (by rw [R.P]; exact nI_pos' (by omega))
  rwa [R.P, if_pos (ix_ok hp (by omega))] at this
theorem g_MPn (R : RM s c v h) (o : OK s) {x : Int32} (hx : ¬ (0 ≤ x ∧ x < nI (zP s))) : Run 1 j_M_isPerson [.ref 65, .int x] h (some (.int 0)) h := by
  have hP := o.P
  have := r_M_isPerson h x (by rw [R.P]; exact nI_pos' (by omega))
  rwa [R.P, if_neg hx] at this
theorem g_MK (R : RM s c v h) (o : OK s) {p : Nat} (hp : p < zK s) : Run 1 j_M_isKind [.ref 65, .int (nI p)] h (some (.int 1)) h := by
  have hP := o.K
  have := r_M_isKind h (nI p) (by rw [R.K]; exact nI_pos' (by omega))
  rwa [R.K, if_pos (ix_ok hp (by omega))] at this
theorem g_MKn (R : RM s c v h) (o : OK s) {x : Int32} (hx : ¬ (0 ≤ x ∧ x < nI (zK s))) : Run 1 j_M_isKind [.ref 65, .int x] h (some (.int 0)) h := by
  have hP := o.K
  have := r_M_isKind h x (by rw [R.K]; exact nI_pos' (by omega))
  rwa [R.K, if_neg hx] at this
theorem g_MT (R : RM s c v h) (o : OK s) {p : Nat} (hp : p < zT s) : Run 1 j_M_isTurn [.ref 65, .int (nI p)] h (some (.int 1)) h := by
  have hP := o.T
  have := r_M_isTurn h (nI p) (by rw [R.T]; exact nI_pos' (by omega))
  rwa [R.T, if_pos (ix_ok hp (by omega))] at this
theorem g_MTn (R : RM s c v h) (o : OK s) {x : Int32} (hx : ¬ (0 ≤ x ∧ x < nI (zT s))) : Run 1 j_M_isTurn [.ref 65, .int x] h (some (.int 0)) h := by
  have hP := o.T
  have := r_M_isTurn h x (by rw [R.T]; exact nI_pos' (by omega))
  rwa [R.T, if_neg hx] at this
/-- kind or none -/
theorem k_cases (o : OK s) (x : Int32) : (∃ k, kOK s k ∧ x = kV k) ∨ (¬ x = -1 ∧ ¬ (0 ≤ x ∧ x < nI (zK s))) := by
  by_cases hx : x = -1
  · exact Or.inl ⟨none, (fun _ z => by cases z), hx⟩
  · rcases ix_cases x (n := zK s) (by have := o.K; omega) with ⟨j, hj, rfl⟩ | h
    · exact Or.inl ⟨some j, (fun k' hk' => by cases hk'; exact hj), Eq.refl _⟩
    · exact Or.inr ⟨hx, h⟩
theorem g_EKN (R : RC s c v h) (o : OK s) {k : Option Nat} (hk : kOK s k) : Run 1 j_E_isKindOrNone [.ref 0, .int (kV k)] h (some (.int 1)) h := by
  have := r_E_isKindOrNone h (kV k)
  rwa [R.K, if_pos (by
    cases k with
    | none => exact Or.inl (Eq.refl _)
    | some k => exact Or.inr (ix_ok (hk k (Eq.refl _)) (by have := o.K; omega)))] at this
theorem g_EKNn (R : RC s c v h) {x : Int32} (h1 : ¬ x = -1) (h2 : ¬ (0 ≤ x ∧ x < nI (zK s))) : Run 1 j_E_isKindOrNone [.ref 0, .int x] h (some (.int 0)) h := by
  have := r_E_isKindOrNone h x
  rwa [R.K, if_neg (fun z => z.elim h1 h2)] at this
end GUARDS
theorem op_ro {jC jM : Nat} {as : List Value} (H : ∀ {h : HP} {s : ST} {c v : RT}, TP h → SMX h → RC s c v h → RM s c v h → OK s → RO s c v → ∃ x : Int32, Run DD jC (.ref 0 :: as) h (some (.int x)) h ∧ Run DD jM (.ref 65 :: as) h (some (.int x)) h) : opI Inv jC jM as := by
  intro h I
  obtain ⟨t, x, s, c, v, R, M, o, ro⟩ := id I
  obtain ⟨y, h1, h2⟩ := H t x R M o ro
  exact ⟨y, h, h, h1, h2, I⟩
theorem op_roL {jC jM : Nat} {as : List Value} (H : ∀ {h : HP} {s : ST} {c v : RT}, TP h → SMX h → RC s c v h → RM s c v h → OK s → RO s c v → ∃ x : Int64, Run DD jC (.ref 0 :: as) h (some (.long x)) h ∧ Run DD jM (.ref 65 :: as) h (some (.long x)) h) : opL Inv jC jM as := by
  intro h I
  obtain ⟨t, x, s, c, v, R, M, o, ro⟩ := id I
  obtain ⟨y, h1, h2⟩ := H t x R M o ro
  exact ⟨y, h, h, h1, h2, I⟩
theorem Run.d {d j : Nat} {as : List Value} {h h' : HP} {v : Option Value} (hr : Run d j as h v h') (hd : d ≤ DD := by decide) : Run DD j as h v h' := hr.mono hd
theorem o_ended : op_25 Inv := op_ro fun _ x _ _ _ _ => ⟨_, (r_E_ended _).d, by rw [x.1]; exact (r_M_ended _).d⟩
theorem o_fault : op_3 Inv := fun w => op_ro fun _ x _ _ _ _ => ⟨_, (r_E_fault _ w).d, by rw [x.2.1, x.2.2.1]; exact (r_M_fault _ w).d⟩
theorem o_cut : op_21 Inv := fun w => op_ro fun {h} _ _ _ _ x _ _ _ _ => by
  refine ⟨_, (r_E_cut _ w).d, ?_⟩
  have h1 := (r_M_cut h w).d
  by_cases hc : h.1 65 68 = -1
  · rw [if_pos hc] at h1
    rw [(x.2.2.2.1 hc).1, (x.2.2.2.1 hc).2]
    rwa [show (if w = 0 then (-1 : Int32) else if w = 1 then -1 else -1) = -1 by split <;> (try split) <;> first | rfl | exact Eq.refl _]
  · rw [if_neg hc] at h1
    rw [(x.2.2.2.2.1 hc).1, (x.2.2.2.2.1 hc).2]
    exact h1
theorem o_octet : op_33 Inv := fun k => op_ro fun {h} _ _ _ _ x _ _ _ _ => by
  obtain ⟨_, _, _, _, _, n, h6, h7, h8, h9⟩ := x
  refine ⟨_, (r_E_octet h k h7 h6).d, ?_⟩
  have h1 := (r_M_octet h k h8 h6).d
  rw [h7]
  rw [h8] at h1
  by_cases hc : 0 ≤ k ∧ k < nI n
  · rw [if_pos hc] at h1 ⊢
    obtain ⟨j, hj, rfl⟩ := (ix_cases k (n := n) (by omega)).resolve_right (fun z => z hc)
    rw [nI_clamp (by omega)] at h1 ⊢
    rwa [h9 j hj]
  · rw [if_neg hc] at h1 ⊢
    exact h1
