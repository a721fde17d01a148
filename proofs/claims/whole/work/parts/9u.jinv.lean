/-! ===== WHAT HOLDS OF WHAT IS READ ===== -/
def sgm (C : List Nat) (a e : Nat) : List Nat := (C.drop a).take (e - a)
theorem sgm_app {C T : List Nat} {a e : Nat} (h : e ≤ C.length) : sgm (C ++ T) a e = sgm C a e := by
  unfold sgm
  by_cases c : a ≤ e
  · rw [List.drop_append_of_le_length (by omega), List.take_append_of_le_length (by rw [List.length_drop]; omega)]
  · rw [show e - a = 0 by omega]; rfl
theorem sgm_last (C T : List Nat) : sgm (C ++ T) C.length (C ++ T).length = T := by
  unfold sgm
  rw [List.drop_left, List.take_of_length_le (by rw [List.length_append]; omega)]
def JT (s : ST) (C : List Nat) : Prop :=
  (∀ x, x < s 0 7 → s 31 x < zO s ∧ (oS s (s 31 x) = 1 ∨ oS s (s 31 x) = 2) ∧ s 28 x = (if oS s (s 31 x) = 1 then 99 else oA s (s 31 x)) ∧ s 29 x = (if oS s (s 31 x) = 1 then oA s (s 31 x) else oB s (s 31 x)) ∧ s 26 (s 31 x) = (if x = 0 then 0 else s 30 (x - 1)) ∧ s 27 (s 31 x) = s 30 x) ∧
  (∀ r, r < zO s → (oS s r = 1 ∨ oS s r = 2) → (∃ x, x < s 0 7 ∧ s 31 x = r) ∧ s 26 r ≤ s 27 r ∧ s 27 r ≤ C.length ∧ tyC (sgm C (s 26 r) (s 27 r)) [] = some [true] ∧ (oS s r = 1 → oA s r < zK s) ∧ (oS s r = 2 → oA s r < zP s ∧ oB s r < zK s)) ∧
  (∀ f : Nat → Nat, sm (fun x => f (s 31 x)) (s 0 7) = sm (fun r => if oS s r = 1 ∨ oS s r = 2 then f r else 0) (zO s)) ∧
  C.length = (if s 0 7 = 0 then 0 else s 30 (s 0 7 - 1))
section JTS
variable {s s' : ST} {C T : List Nat}
theorem JT.same (j : JT s C) (hX : s' 0 7 = s 0 7) (hO : zO s' = zO s) (hK : zK s ≤ zK s') (hP : zP s ≤ zP s') (ha : ∀ a r, (a = 12 ∨ a = 13 ∨ a = 14 ∨ a = 26 ∨ a = 27 ∨ a = 28 ∨ a = 29 ∨ a = 30 ∨ a = 31) → s' a r = s a r) : JT s' C := by
  have h12 : ∀ r, oS s' r = oS s r := fun r => ha 12 r (by omega)
  have h13 : ∀ r, oA s' r = oA s r := fun r => ha 13 r (by omega)
  have h14 : ∀ r, oB s' r = oB s r := fun r => ha 14 r (by omega)
  have h26 : ∀ r, s' 26 r = s 26 r := fun r => ha 26 r (by omega)
  have h27 : ∀ r, s' 27 r = s 27 r := fun r => ha 27 r (by omega)
  have h28 : ∀ r, s' 28 r = s 28 r := fun r => ha 28 r (by omega)
  have h29 : ∀ r, s' 29 r = s 29 r := fun r => ha 29 r (by omega)
  have h30 : ∀ r, s' 30 r = s 30 r := fun r => ha 30 r (by omega)
  have h31 : ∀ r, s' 31 r = s 31 r := fun r => ha 31 r (by omega)
  obtain ⟨j1, j2, j3, j4⟩ := j
  refine ⟨fun x hx => ?_, fun r hr ht => ?_, fun f => ?_, ?_⟩
  · rw [h31, h12, h13, h14, h28, h29, h26, h27, h30, h30, hO]; exact j1 x (by omega)
  · rw [h12] at ht
    obtain ⟨⟨x, x1, x2⟩, a1, a2, a3, a4, a5⟩ := j2 r (by omega) ht
    refine ⟨⟨x, by omega, by rw [h31]; exact x2⟩, ?_⟩
    rw [h26, h27, h12, h13, h14]
    exact ⟨a1, a2, a3, fun z => by have := a4 z; omega, fun z => by have := a5 z; omega⟩
  · rw [hX, hO]
    simp only [h31, h12]
    exact j3 f
  · rw [hX, h30]; exact j4
theorem JT.oth (j : JT s C) (hX : s' 0 7 = s 0 7) (hO : zO s' = zO s + 1) (hK : zK s' = zK s) (hP : zP s' = zP s) (ha : ∀ a r, (a = 12 ∨ a = 13 ∨ a = 14 ∨ a = 26 ∨ a = 27) → r ≠ zO s → s' a r = s a r) (hx : ∀ a r, (a = 28 ∨ a = 29 ∨ a = 30 ∨ a = 31) → s' a r = s a r) (hn : ¬ (oS s' (zO s) = 1 ∨ oS s' (zO s) = 2)) : JT s' C := by
  have h12 : ∀ r, r ≠ zO s → oS s' r = oS s r := fun r => ha 12 r (by omega)
  have h13 : ∀ r, r ≠ zO s → oA s' r = oA s r := fun r => ha 13 r (by omega)
  have h14 : ∀ r, r ≠ zO s → oB s' r = oB s r := fun r => ha 14 r (by omega)
  have h26 : ∀ r, r ≠ zO s → s' 26 r = s 26 r := fun r => ha 26 r (by omega)
  have h27 : ∀ r, r ≠ zO s → s' 27 r = s 27 r := fun r => ha 27 r (by omega)
  have h28 : ∀ r, s' 28 r = s 28 r := fun r => hx 28 r (by omega)
  have h29 : ∀ r, s' 29 r = s 29 r := fun r => hx 29 r (by omega)
  have h30 : ∀ r, s' 30 r = s 30 r := fun r => hx 30 r (by omega)
  have h31 : ∀ r, s' 31 r = s 31 r := fun r => hx 31 r (by omega)
  obtain ⟨j1, j2, j3, j4⟩ := j
  refine ⟨fun x hx => ?_, fun r hr ht => ?_, fun f => ?_, ?_⟩
  · have k := j1 x (by omega)
    have e : s 31 x ≠ zO s := by omega
    rw [h31, h12 _ e, h13 _ e, h14 _ e, h28, h29, h26 _ e, h27 _ e, h30, h30, hO]
    exact ⟨by omega, k.2⟩
  · by_cases e : r = zO s
    · subst e; exact absurd ht hn
    · rw [h12 _ e] at ht
      obtain ⟨⟨x, x1, x2⟩, a1, a2, a3, a4, a5⟩ := j2 r (by omega) ht
      refine ⟨⟨x, by omega, by rw [h31]; exact x2⟩, ?_⟩
      rw [h26 _ e, h27 _ e, h12 _ e, h13 _ e, h14 _ e, hK, hP]
      exact ⟨a1, a2, a3, a4, a5⟩
  · rw [hX, hO]
    show _ = sm _ (zO s) + (if _ then _ else 0)
    rw [if_neg hn, Nat.add_zero]
    simp only [h31]
    rw [j3 f]
    exact sm_congr (fun r hr => by simp only [h12 r (by omega)])
  · rw [hX, h30]; exact j4
theorem JT.tst (j : JT s C) (hX : s' 0 7 = s 0 7 + 1) (hO : zO s' = zO s + 1) (hK : zK s' = zK s) (hP : zP s' = zP s)
  (ha : ∀ a r, (a = 12 ∨ a = 13 ∨ a = 14 ∨ a = 26 ∨ a = 27) → r ≠ zO s → s' a r = s a r)
  (hx : ∀ a r, (a = 28 ∨ a = 29 ∨ a = 30 ∨ a = 31) → r ≠ s 0 7 → s' a r = s a r)
  (hn : oS s' (zO s) = 1 ∨ oS s' (zO s) = 2) (e31 : s' 31 (s 0 7) = zO s) (e28 : s' 28 (s 0 7) = if oS s' (zO s) = 1 then 99 else oA s' (zO s)) (e29 : s' 29 (s 0 7) = if oS s' (zO s) = 1 then oA s' (zO s) else oB s' (zO s))
  (e26 : s' 26 (zO s) = C.length) (e27 : s' 27 (zO s) = (C ++ T).length) (e30 : s' 30 (s 0 7) = (C ++ T).length) (hty : tyC T [] = some [true])
  (b1 : oS s' (zO s) = 1 → oA s' (zO s) < zK s) (b2 : oS s' (zO s) = 2 → oA s' (zO s) < zP s ∧ oB s' (zO s) < zK s) : JT s' (C ++ T) := by
  have h12 : ∀ r, r ≠ zO s → oS s' r = oS s r := fun r => ha 12 r (by omega)
  have h13 : ∀ r, r ≠ zO s → oA s' r = oA s r := fun r => ha 13 r (by omega)
  have h14 : ∀ r, r ≠ zO s → oB s' r = oB s r := fun r => ha 14 r (by omega)
  have h26 : ∀ r, r ≠ zO s → s' 26 r = s 26 r := fun r => ha 26 r (by omega)
  have h27 : ∀ r, r ≠ zO s → s' 27 r = s 27 r := fun r => ha 27 r (by omega)
  have h28 : ∀ r, r ≠ s 0 7 → s' 28 r = s 28 r := fun r => hx 28 r (by omega)
  have h29 : ∀ r, r ≠ s 0 7 → s' 29 r = s 29 r := fun r => hx 29 r (by omega)
  have h30 : ∀ r, r ≠ s 0 7 → s' 30 r = s 30 r := fun r => hx 30 r (by omega)
  have h31 : ∀ r, r ≠ s 0 7 → s' 31 r = s 31 r := fun r => hx 31 r (by omega)
  obtain ⟨j1, j2, j3, j4⟩ := j
  have hCT : C.length ≤ (C ++ T).length := by rw [List.length_append]; omega
  refine ⟨fun x hx => ?_, fun r hr ht => ?_, fun f => ?_, ?_⟩
  · by_cases e : x = s 0 7
    · subst e
      rw [e31, e26, e27, e28, e29, e30, hO]
      refine ⟨by omega, hn, rfl, rfl, ?_, rfl⟩
      rw [j4]
      by_cases z : s 0 7 = 0
      · rw [if_pos z, if_pos z]
      · rw [if_neg z, if_neg z, h30 _ (by omega)]
    · have k := j1 x (by omega)
      have e2 : s 31 x ≠ zO s := by omega
      rw [h31 _ e, h12 _ e2, h13 _ e2, h14 _ e2, h28 _ e, h29 _ e, h26 _ e2, h27 _ e2, h30 _ e, hO]
      refine ⟨by omega, k.2.1, k.2.2.1, k.2.2.2.1, ?_, k.2.2.2.2.2⟩
      rw [k.2.2.2.2.1]
      by_cases z : x = 0
      · rw [if_pos z, if_pos z]
      · rw [if_neg z, if_neg z, h30 _ (by omega)]
  · by_cases e : r = zO s
    · subst e
      rw [e26, e27, sgm_last, hK, hP]
      exact ⟨⟨s 0 7, by omega, e31⟩, hCT, Nat.le_refl _, hty, b1, b2⟩
    · rw [h12 _ e] at ht
      obtain ⟨⟨x, x1, x2⟩, a1, a2, a3, a4, a5⟩ := j2 r (by omega) ht
      refine ⟨⟨x, by omega, by rw [h31 _ (by omega)]; exact x2⟩, ?_⟩
      rw [h26 _ e, h27 _ e, h12 _ e, h13 _ e, h14 _ e, hK, hP, sgm_app a2]
      exact ⟨a1, by omega, a3, a4, a5⟩
  · rw [hX, hO]
    show sm _ (s 0 7) + f (s' 31 (s 0 7)) = sm _ (zO s) + (if _ then _ else 0)
    rw [if_pos hn, e31, sm_congr (g := fun x => f (s 31 x)) (fun x hx => by simp only [h31 x (by omega)]), j3 f]
    rw [sm_congr (f := fun r => if oS s' r = 1 ∨ oS s' r = 2 then f r else 0) (g := fun r => if oS s r = 1 ∨ oS s r = 2 then f r else 0) (fun r hr => by simp only [h12 r (by omega)])]
  · rw [hX, if_neg (by omega), Nat.add_sub_cancel, e30]
end JTS
/-! what is asked of others -/
def JO (s : ST) : Prop :=
  (∀ i, i < 36 → kR s i ≤ zL s) ∧
  (∀ a b f, a < 6 → b < 6 → 1 ≤ f → (f ≤ kR s (a * 6 + b) ↔ ∃ r, r < zO s ∧ oS s r = 3 ∧ oA s r = a ∧ oB s r = b ∧ f ≤ oC s r)) ∧
  (∀ p q, p < 16 → q < 16 → ((pA s p).testBit q = true ↔ ∃ r, r < zO s ∧ oS s r = 4 ∧ ((oA s r = p ∧ oB s r = q) ∨ (oA s r = q ∧ oB s r = p)))) ∧
  (∀ p q, p < 16 → q < 16 → ((pB s p).testBit q = true ↔ ∃ r, r < zO s ∧ oS s r = 5 ∧ ((oA s r = p ∧ oB s r = q) ∨ (oA s r = q ∧ oB s r = p)))) ∧
  (∀ r, r < zO s → oS s r < 6 ∧ oA s r < 16 ∧ oB s r < 16 ∧ oC s r ≤ 30 ∧ (oS s r = 4 ∨ oS s r = 5 → oA s r < zP s ∧ oB s r < zP s ∧ oA s r ≠ oB s r))
theorem ex_s {m : Nat} {P P' : Nat → Prop} (h : ∀ r, r < m → (P' r ↔ P r)) : (∃ r, r < m + 1 ∧ P' r) ↔ (∃ r, r < m ∧ P r) ∨ P' m := by
  constructor
  · rintro ⟨r, h1, h2⟩
    by_cases e : r = m
    · subst e; exact Or.inr h2
    · exact Or.inl ⟨r, by omega, (h r (by omega)).mp h2⟩
  · rintro (⟨r, h1, h2⟩ | h2)
    · exact ⟨r, by omega, (h r h1).mpr h2⟩
    · exact ⟨m, by omega, h2⟩
section JOS
variable {s s' : ST}
theorem JO.same (j : JO s) (hO : zO s' = zO s) (hL : zL s' = zL s) (hP : zP s ≤ zP s') (ha : ∀ a r, (a = 9 ∨ a = 10 ∨ a = 11 ∨ a = 12 ∨ a = 13 ∨ a = 14 ∨ a = 15) → s' a r = s a r) : JO s' := by
  have h9 : ∀ r, kR s' r = kR s r := fun r => ha 9 r (by omega)
  have h10 : ∀ r, pA s' r = pA s r := fun r => ha 10 r (by omega)
  have h11 : ∀ r, pB s' r = pB s r := fun r => ha 11 r (by omega)
  have h12 : ∀ r, oS s' r = oS s r := fun r => ha 12 r (by omega)
  have h13 : ∀ r, oA s' r = oA s r := fun r => ha 13 r (by omega)
  have h14 : ∀ r, oB s' r = oB s r := fun r => ha 14 r (by omega)
  have h15 : ∀ r, oC s' r = oC s r := fun r => ha 15 r (by omega)
  obtain ⟨j1, j2, j3, j4, j5⟩ := j
  refine ⟨?_, ?_, ?_, ?_, ?_⟩
  · simp only [h9, hL]; exact j1
  · simp only [h9, h12, h13, h14, h15, hO]; exact j2
  · simp only [h10, h12, h13, h14, hO]; exact j3
  · simp only [h11, h12, h13, h14, hO]; exact j4
  · simp only [h12, h13, h14, h15, hO]
    intro r hr
    obtain ⟨a1, a2, a3, a4, a5⟩ := j5 r hr
    exact ⟨a1, a2, a3, a4, fun z => by have := a5 z; omega⟩
/-- one more of the others: what it adds -/
theorem JO.add (j : JO s) (hO : zO s' = zO s + 1) (hP : zP s' = zP s) (ha : ∀ a r, (a = 12 ∨ a = 13 ∨ a = 14 ∨ a = 15) → r ≠ zO s → s' a r = s a r)
  (n1 : ∀ i, i < 36 → kR s' i ≤ zL s')
  (n2 : ∀ a b f, a < 6 → b < 6 → 1 ≤ f → (f ≤ kR s' (a * 6 + b) ↔ f ≤ kR s (a * 6 + b) ∨ (oS s' (zO s) = 3 ∧ oA s' (zO s) = a ∧ oB s' (zO s) = b ∧ f ≤ oC s' (zO s))))
  (n3 : ∀ p q, p < 16 → q < 16 → ((pA s' p).testBit q = true ↔ (pA s p).testBit q = true ∨ (oS s' (zO s) = 4 ∧ ((oA s' (zO s) = p ∧ oB s' (zO s) = q) ∨ (oA s' (zO s) = q ∧ oB s' (zO s) = p)))))
  (n4 : ∀ p q, p < 16 → q < 16 → ((pB s' p).testBit q = true ↔ (pB s p).testBit q = true ∨ (oS s' (zO s) = 5 ∧ ((oA s' (zO s) = p ∧ oB s' (zO s) = q) ∨ (oA s' (zO s) = q ∧ oB s' (zO s) = p)))))
  (n5 : oS s' (zO s) < 6 ∧ oA s' (zO s) < 16 ∧ oB s' (zO s) < 16 ∧ oC s' (zO s) ≤ 30 ∧ (oS s' (zO s) = 4 ∨ oS s' (zO s) = 5 → oA s' (zO s) < zP s ∧ oB s' (zO s) < zP s ∧ oA s' (zO s) ≠ oB s' (zO s))) : JO s' := by
  have h12 : ∀ r, r < zO s → oS s' r = oS s r := fun r hr => ha 12 r (by omega) (by omega)
  have h13 : ∀ r, r < zO s → oA s' r = oA s r := fun r hr => ha 13 r (by omega) (by omega)
  have h14 : ∀ r, r < zO s → oB s' r = oB s r := fun r hr => ha 14 r (by omega) (by omega)
  have h15 : ∀ r, r < zO s → oC s' r = oC s r := fun r hr => ha 15 r (by omega) (by omega)
  obtain ⟨j1, j2, j3, j4, j5⟩ := j
  refine ⟨n1, fun a b f ha hb hf => ?_, fun p q hp hq => ?_, fun p q hp hq => ?_, fun r hr => ?_⟩
  · rw [n2 a b f ha hb hf, j2 a b f ha hb hf, hO]
    exact (ex_s (P := fun r => oS s r = 3 ∧ oA s r = a ∧ oB s r = b ∧ f ≤ oC s r) (P' := fun r => oS s' r = 3 ∧ oA s' r = a ∧ oB s' r = b ∧ f ≤ oC s' r) (fun r hr => by simp only [h12 r hr, h13 r hr, h14 r hr, h15 r hr])).symm
  · rw [n3 p q hp hq, j3 p q hp hq, hO]
    exact (ex_s (P := fun r => oS s r = 4 ∧ ((oA s r = p ∧ oB s r = q) ∨ (oA s r = q ∧ oB s r = p))) (P' := fun r => oS s' r = 4 ∧ ((oA s' r = p ∧ oB s' r = q) ∨ (oA s' r = q ∧ oB s' r = p))) (fun r hr => by simp only [h12 r hr, h13 r hr, h14 r hr])).symm
  · rw [n4 p q hp hq, j4 p q hp hq, hO]
    exact (ex_s (P := fun r => oS s r = 5 ∧ ((oA s r = p ∧ oB s r = q) ∨ (oA s r = q ∧ oB s r = p))) (P' := fun r => oS s' r = 5 ∧ ((oA s' r = p ∧ oB s' r = q) ∨ (oA s' r = q ∧ oB s' r = p))) (fun r hr => by simp only [h12 r hr, h13 r hr, h14 r hr])).symm
  · by_cases e : r = zO s
    · subst e; rw [hP]; exact n5
    · have hr : r < zO s := by omega
      rw [h12 r hr, h13 r hr, h14 r hr, h15 r hr, hP]; exact j5 r hr
end JOS
