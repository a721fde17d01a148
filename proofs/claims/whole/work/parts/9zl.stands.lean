/-! ===== THE MODEL'S HOUSE STANDS ===== -/
/-- what was read is kept -/
def RD (h h' : HP) : Prop := (∀ k i, i < mxB k → h'.1 k i = h.1 k i) ∧ (∀ k i, i < mjB k → h'.2 k i = h.2 k i) ∧ (∀ i, i < 900 → h'.1 103 i = h.1 103 i) ∧ (∀ k i, ¬ (87 ≤ k ∧ k ≤ 103) → h'.1 k i = h.1 k i) ∧ (∀ k i, k ≠ 91 → k ≠ 95 → h'.2 k i = h.2 k i)
theorem RD.rfl (h : HP) : RD h h := ⟨fun _ _ _ => Eq.refl _, fun _ _ _ => Eq.refl _, fun _ _ => Eq.refl _, fun _ _ _ => Eq.refl _, fun _ _ _ _ => Eq.refl _⟩
theorem RD.w {h h' : HP} {k i : Nat} {x : Int32} (F : RD h h') (hk : 87 ≤ k ∧ k ≤ 102) (hi : mxB k ≤ i) : RD h (wI h' k i x) := by
  obtain ⟨f1, f2, f3, f4, f5⟩ := F
  refine ⟨fun k' i' z => ?_, f2, fun i' z => ?_, fun k' i' z => ?_, f5⟩
  · rw [← f1 k' i' z]
    by_cases e : k' = k
    · subst e; rw [wI_ne2 _ _ (by omega)]
    · rw [wI_ne _ _ _ e]
  · rw [wI_ne _ _ _ (by omega)]; exact f3 i' z
  · rw [wI_ne _ _ _ (by omega)]; exact f4 k' i' z
theorem RD.c {h h' : HP} {i : Nat} {x : Int32} (F : RD h h') (hi : 900 ≤ i) : RD h (wI h' 103 i x) := by
  obtain ⟨f1, f2, f3, f4, f5⟩ := F
  refine ⟨fun k' i' z => ?_, f2, fun i' z => ?_, fun k' i' z => ?_, f5⟩
  · rw [wI_ne _ _ _ (fun e => by subst e; exact absurd z (Nat.not_lt_zero _))]; exact f1 k' i' z
  · rw [wI_ne2 _ _ (by omega)]; exact f3 i' z
  · rw [wI_ne _ _ _ (by omega)]; exact f4 k' i' z
theorem RD.j {h h' : HP} {k i : Nat} {x : Int64} (F : RD h h') (hk : k = 91 ∨ k = 95) (hi : mjB k ≤ i) : RD h (wJ h' k i x) := by
  obtain ⟨f1, f2, f3, f4, f5⟩ := F
  refine ⟨f1, fun k' i' z => ?_, f3, f4, fun k' i' z1 z2 => ?_⟩
  · rw [← f2 k' i' z]
    by_cases e : k' = k
    · subst e; rw [wJ_ne2 _ _ (by omega)]
    · rw [wJ_ne _ _ _ e]
  · rw [wJ_ne _ _ _ (by omega)]; exact f5 k' i' z1 z2
section MSD
variable {s : ST} {C : List Nat} {h h' : HP}
theorem DM.rd (D : DM s h) (G : GB s) (F : RD h h') : DM s h' := by
  obtain ⟨d1, d2, d3, d4⟩ := D
  obtain ⟨f1, f2, f3, f4, f5⟩ := F
  have hP := G.1.1
  have hK := G.1.2.1
  have hO := G.1.2.2.2.1
  refine ⟨?_, fun p hp => ?_, fun p hp => ?_, fun p hp => ?_⟩
  · rw [f1 87 0 (by decide), f1 88 0 (by decide), f1 89 0 (by decide), f1 90 0 (by decide)]; exact d1
  · rw [f2 91 p (by show p < 16; omega), f1 92 p (by show p < 16; omega), f1 93 p (by show p < 16; omega), f1 94 p (by show p < 16; omega)]; exact d2 p hp
  · rw [f2 95 p (by show p < 6; omega), f1 96 p (by show p < 6; omega)]; exact d3 p hp
  · rw [f1 97 p (by show p < 60; omega), f1 98 p (by show p < 60; omega), f1 99 p (by show p < 60; omega), f1 100 p (by show p < 60; omega), f1 101 p (by show p < 60; omega), f1 102 p (by show p < 60; omega)]; exact d4 p hp
/-- the house's half -/
def HH (s : ST) (h : HP) : Prop :=
  (∀ p, p < zP s → h.2 91 (16 + p) = lN (pN s p) ∧ h.1 92 (16 + p) = nI (pS s p)) ∧
  (∀ k, k < zK s → h.2 95 (6 + k) = lN (kN s k) ∧ h.1 96 (6 + k) = nI (kW s k)) ∧
  (∀ r, r < zO s → (oS s r = 3 → h.1 100 (60 + r) = nI (oC s r)))
def CPY (s : ST) (h : HP) (n2 n3 n4 n5 : Nat) (g : HP) : Prop := RD h g ∧ (g.1 87 1 = nI (zD s) ∧ g.1 88 1 = nI (zP s) ∧ g.1 89 1 = nI (zK s) ∧ g.1 90 1 = nI (zO s)) ∧
  (∀ p, p < n2 → g.2 91 (16 + p) = h.2 91 p ∧ g.1 92 (16 + p) = h.1 92 p ∧ g.1 93 (16 + p) = h.1 93 p ∧ g.1 94 (16 + p) = h.1 94 p) ∧
  (∀ p, p < n3 → g.2 95 (6 + p) = h.2 95 p ∧ g.1 96 (6 + p) = h.1 96 p) ∧
  (∀ r, r < n4 → g.1 97 (60 + r) = h.1 97 r ∧ g.1 98 (60 + r) = h.1 98 r ∧ g.1 99 (60 + r) = h.1 99 r ∧ g.1 100 (60 + r) = h.1 100 r ∧ g.1 101 (60 + r) = h.1 101 r ∧ g.1 102 (60 + r) = h.1 102 r) ∧
  (∀ q, q < n5 → g.1 103 (900 + q) = h.1 103 q)
def cp2 (h g : HP) (n : Nat) : HP := wI (wI (wI (wJ g 91 (16 + n) (h.2 91 n)) 92 (16 + n) (h.1 92 n)) 93 (16 + n) (h.1 93 n)) 94 (16 + n) (h.1 94 n)
theorem CPY.s2 {n : Nat} {g : HP} (X : CPY s h n 0 0 0 g) : CPY s h (n + 1) 0 0 0 (cp2 h g n) := by
  obtain ⟨R, S, a2, a3, a4, a5⟩ := X
  refine ⟨(((R.j (Or.inl rfl) (by show 16 ≤ 16 + n; omega)).w (by decide) (by show 16 ≤ 16 + n; omega)).w (by decide) (by show 16 ≤ 16 + n; omega)).w (by decide) (by show 16 ≤ 16 + n; omega), S, fun p hp => ?_, fun p hp => absurd hp (Nat.not_lt_zero _), fun p hp => absurd hp (Nat.not_lt_zero _), fun p hp => absurd hp (Nat.not_lt_zero _)⟩
  unfold cp2
  by_cases e : p = n
  · subst e
    simp [wI, wJ, va_up, upd, vp_updL]
  · have := a2 p (by omega)
    have e2 : ¬ 16 + p = 16 + n := by omega
    simp [wI, wJ, va_up, upd, vp_updL, e]
    exact this
def cp3 (h g : HP) (n : Nat) : HP := wI (wJ g 95 (6 + n) (h.2 95 n)) 96 (6 + n) (h.1 96 n)
theorem CPY.s3 {n m : Nat} {g : HP} (X : CPY s h m n 0 0 g) : CPY s h m (n + 1) 0 0 (cp3 h g n) := by
  obtain ⟨R, S, a2, a3, a4, a5⟩ := X
  refine ⟨(R.j (Or.inr rfl) (by show 6 ≤ 6 + n; omega)).w (by decide) (by show 6 ≤ 6 + n; omega), S, a2, fun p hp => ?_, fun p hp => absurd hp (Nat.not_lt_zero _), fun p hp => absurd hp (Nat.not_lt_zero _)⟩
  unfold cp3
  by_cases e : p = n
  · subst e
    simp [wI, wJ, va_up, upd, vp_updL]
  · have := a3 p (by omega)
    simp [wI, wJ, va_up, upd, vp_updL, e]
    exact this
def cp4 (h g : HP) (n : Nat) : HP := wI (wI (wI (wI (wI (wI g 97 (60 + n) (h.1 97 n)) 98 (60 + n) (h.1 98 n)) 99 (60 + n) (h.1 99 n)) 100 (60 + n) (h.1 100 n)) 101 (60 + n) (h.1 101 n)) 102 (60 + n) (h.1 102 n)
theorem CPY.s4 {n m q : Nat} {g : HP} (X : CPY s h m q n 0 g) : CPY s h m q (n + 1) 0 (cp4 h g n) := by
  obtain ⟨R, S, a2, a3, a4, a5⟩ := X
  have k : 60 ≤ 60 + n := by omega
  refine ⟨(((((R.w (by decide) k).w (by decide) k).w (by decide) k).w (by decide) k).w (by decide) k).w (by decide) k, S, a2, a3, fun p hp => ?_, fun p hp => absurd hp (Nat.not_lt_zero _)⟩
  unfold cp4
  by_cases e : p = n
  · subst e
    simp [wI, va_up, upd]
  · have := a4 p (by omega)
    simp [wI, va_up, upd, e]
    exact this
theorem CPY.s5 {n m q r : Nat} {g : HP} (X : CPY s h m q r n g) : CPY s h m q r (n + 1) (wI g 103 (900 + n) (h.1 103 n)) := by
  obtain ⟨R, S, a2, a3, a4, a5⟩ := X
  refine ⟨R.c (by omega), S, a2, a3, a4, fun p hp => ?_⟩
  by_cases e : p = n
  · subst e; rw [wI_same]
  · rw [wI_ne2 _ _ (by omega)]; exact a5 p (by omega)
end MSD
