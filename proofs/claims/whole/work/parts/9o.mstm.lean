/-! ===== THE MODEL READS STATEMENTS: persons, kinds ===== -/
theorem i32_c0 : Int32.toNatClampNeg 0 = 0 := rfl
def mxB (k : Nat) : Nat := if 87 ≤ k ∧ k ≤ 90 then 1 else if 92 ≤ k ∧ k ≤ 94 then 16 else if k = 96 then 6 else if 97 ≤ k ∧ k ≤ 102 then 60 else 0
def mjB (k : Nat) : Nat := if k = 91 then 16 else if k = 95 then 6 else 0
def MX (h h' : HP) : Prop := (∀ k i, k ≠ 65 → k ≠ 103 → k ≠ 104 → mxB k ≤ i → h'.1 k i = h.1 k i) ∧ (∀ i, ¬ i ∈ txL → h'.1 65 i = h.1 65 i) ∧ (∀ k i, mjB k ≤ i → h'.2 k i = h.2 k i)
/-- all but the model's own fields -/
def NE (h h' : HP) : Prop := (∀ k i, k ≠ 65 → h'.1 k i = h.1 k i) ∧ (∀ k i, h'.2 k i = h.2 k i)
theorem MX.rfl (h : HP) : MX h h := ⟨fun _ _ _ _ _ _ => Eq.refl _, fun _ _ => Eq.refl _, fun _ _ _ => Eq.refl _⟩
theorem MX.trans {a b c : HP} (h1 : MX a b) (h2 : MX b c) : MX a c := ⟨fun k i x y z w => (h2.1 k i x y z w).trans (h1.1 k i x y z w), fun i x => (h2.2.1 i x).trans (h1.2.1 i x), fun k i x => (h2.2.2 k i x).trans (h1.2.2 k i x)⟩
theorem TX.mx {h h' : HP} (F : TX h h') : MX h h' := ⟨fun k i x y z _ => F.1.1 k i (by simp; omega), F.2, fun k i _ => F.1.2 k i (by simp)⟩
theorem LX.mx {h h' : HP} (F : LX h h') : MX h h' := F.tx.mx
theorem MX.w {h h' : HP} {k i : Nat} {x : Int32} (F : MX h h') (hk : k ≠ 65) (hi : i < mxB k) : MX h (wI h' k i x) := by
  refine ⟨fun k' i' a1 a2 a3 a4 => ?_, fun i' a => ?_, fun k' i' a => ?_⟩
  · rw [← F.1 k' i' a1 a2 a3 a4]
    by_cases e : k' = k
    · subst e
      rw [wI_ne2 _ _ (by omega)]
    · rw [wI_ne _ _ _ e]
  · rw [← F.2.1 i' a, wI_ne _ _ _ (Ne.symm hk)]
  · rw [← F.2.2 k' i' a]; rfl
theorem MX.wj {h h' : HP} {k i : Nat} {x : Int64} (F : MX h h') (hi : i < mjB k) : MX h (wJ h' k i x) := by
  refine ⟨F.1, F.2.1, fun k' i' a => ?_⟩
  rw [← F.2.2 k' i' a]
  by_cases e : k' = k
  · subst e
    simp only [wJ, va_up, vp_updL, reduceIte]
    rw [if_neg (by omega)]
  · simp [wJ, va_up, e]
theorem MX.wf {h h' : HP} {i : Nat} {x : Int32} (F : MX h h') (hi : i ∈ txL) : MX h (wI h' 65 i x) := F.trans ((TX.rfl h').a hi).mx
theorem NE.rfl (h : HP) : NE h h := ⟨fun _ _ _ => Eq.refl _, fun _ _ => Eq.refl _⟩
theorem NE.trans {a b c : HP} (h1 : NE a b) (h2 : NE b c) : NE a c := ⟨fun k i x => (h2.1 k i x).trans (h1.1 k i x), fun k i => (h2.2 k i).trans (h1.2 k i)⟩
theorem LX.ne {h h' : HP} (F : LX h h') : NE h h' := ⟨fun k i x => F.1.1 k i (by simp; exact x), fun k i => F.1.2 k i (by simp)⟩
theorem NE.w {h h' : HP} {k i : Nat} {x : Int32} (F : NE h h') : NE (wI h k i x) (wI h' k i x) := by
  refine ⟨fun k' i' a => ?_, fun k' i' => F.2 k' i'⟩
  rw [wI_1, wI_1]
  by_cases e : k' = k
  · subst e
    rw [if_pos (Eq.refl _), if_pos (Eq.refl _)]
    unfold upd
    split
    · exact Eq.refl _
    · exact F.1 k' i' a
  · rw [if_neg e, if_neg e]; exact F.1 k' i' a
theorem NE.wj {h h' : HP} {k i : Nat} {x : Int64} (F : NE h h') : NE (wJ h k i x) (wJ h' k i x) := by
  refine ⟨fun k' i' a => F.1 k' i' a, fun k' i' => ?_⟩
  by_cases e : k' = k
  · subst e
    simp only [wJ, va_up, vp_updL, reduceIte]
    split
    · exact Eq.refl _
    · exact F.2 k' i'
  · simp only [wJ, va_up, if_neg e]; exact F.2 k' i'
theorem NE.wl {h h' : HP} {i : Nat} {x : Int32} (F : NE h h') : NE h (wI h' 65 i x) := ⟨fun k' i' a => by rw [wI_ne _ _ _ a]; exact F.1 k' i' a, F.2⟩
section MST
variable {b : Nat → Nat} {n i : Nat} {h h' : HP} {s : ST} {C W V : List Nat} {B d : Nat}
theorem DM.ne (D : DM s h) (F : NE h h') : DM s h' := by
  obtain ⟨d1, d2, d3, d4⟩ := D
  obtain ⟨e, eJ⟩ := F
  refine ⟨?_, fun p hp => ?_, fun p hp => ?_, fun p hp => ?_⟩
  · rw [e 87 _ (by decide), e 88 _ (by decide), e 89 _ (by decide), e 90 _ (by decide)]; exact d1
  · rw [eJ, e 92 _ (by decide), e 93 _ (by decide), e 94 _ (by decide)]; exact d2 p hp
  · rw [eJ, e 96 _ (by decide)]; exact d3 p hp
  · rw [e 97 _ (by decide), e 98 _ (by decide), e 99 _ (by decide), e 100 _ (by decide), e 101 _ (by decide), e 102 _ (by decide)]; exact d4 p hp
theorem ML.wx {k j : Nat} {x : Int32} (M : ML b n i h) (hk : 87 ≤ k) : ML b n i (wI h k j x) := by
  obtain ⟨T, A, E, hi, f0, w⟩ := M
  have e : ∀ j', (wI h k j x).1 65 j' = h.1 65 j' := fun j' => by rw [wI_ne _ _ _ (by omega)]
  refine ⟨T.o (by omega) (by omega), ?_, ?_, hi, by rw [e, e]; exact f0, fun q hq j' hj => ?_⟩
  · unfold MA; rw [e]; exact A
  · unfold ME; rw [e]; exact E
  · rw [wI_ne _ _ _ (by omega)]; exact w q hq j' hj
theorem ML.wy {k j : Nat} {x : Int64} (M : ML b n i h) : ML b n i (wJ h k j x) := M
theorem LF.wx {f p k j : Nat} {x : Int32} (L : LF f p h) (hk : 87 ≤ k) : LF f p (wI h k j x) := by
  have e : ∀ j', (wI h k j x).1 65 j' = h.1 65 j' := fun j' => by rw [wI_ne _ _ _ (by omega)]
  exact ⟨by rw [e]; exact L.1, L.2.1, by rw [e]; exact L.2.2⟩
theorem LZ.wx {o : FO} {k j : Nat} {x : Int32} (X : LZ b n o i h) (hk : 87 ≤ k) : LZ b n o i (wI h k j x) := by
  cases o with
  | none => exact ML.wx X hk
  | some e =>
    obtain ⟨f, p⟩ := e
    exact LF.wx X hk
theorem LZ.wy {o : FO} {k j : Nat} {x : Int64} (X : LZ b n o i h) : LZ b n o i (wJ h k j x) := by
  cases o with
  | none => exact X
  | some e =>
    obtain ⟨f, p⟩ := e
    exact X
theorem CM.wx {k j : Nat} {x : Int32} (c : CM C h) (h1 : k ≠ 65) (h2 : k ≠ 103) : CM C (wI h k j x) := by
  refine ⟨c.1, ?_, fun q hq => ?_⟩
  · rw [wI_ne _ _ _ (Ne.symm h1)]; exact c.2.1
  · rw [wI_ne _ _ _ (Ne.symm h2)]; exact c.2.2 q hq
theorem ckN_hi (j l u w : Nat) : ckN b n j l (min u w) = ch (ckN b n j l u) (if tV b n j ≤ w then none else some (2, ps b n j)) := by
  unfold ckN
  by_cases c : tS b n j = 4
  · rw [if_pos c, if_pos c]
    by_cases c1 : l ≤ tV b n j ∧ tV b n j ≤ u
    · rw [if_pos c1, ch_n]
      by_cases c2 : tV b n j ≤ w
      · rw [if_pos c2, if_pos (by omega)]
      · rw [if_neg c2, if_neg (by omega)]
    · rw [if_neg c1, if_neg (by omega)]; rfl
  · rw [if_neg c, if_neg c]; rfl
theorem ckN_lo (j l u : Nat) : ckN b n j l u = ch (ckN b n j 0 u) (if l ≤ tV b n j then none else some (2, ps b n j)) := by
  unfold ckN
  by_cases c : tS b n j = 4
  · rw [if_pos c, if_pos c]
    by_cases c1 : 0 ≤ tV b n j ∧ tV b n j ≤ u
    · rw [if_pos c1, ch_n]
      by_cases c2 : l ≤ tV b n j
      · rw [if_pos c2, if_pos (by omega)]
      · rw [if_neg c2, if_neg (by omega)]
    · rw [if_neg c1, if_neg (by omega)]; rfl
  · rw [if_neg c, if_neg c]; rfl
theorem m_shares {P : Nat} {f : Nat → Nat} (hP : P ≤ 16) (e : h.1 88 0 = nI P) (hf : ∀ p, p < P → h.1 92 p = nI (f p)) (hs : sm f P ≤ 1000) : Run 0 j_M_shares [.ref 65, .int 0] h (some (.int (nI (sm f P)))) h := by
  have lp : ∀ k, k ≤ P → Wp 0 j_M_shares 4 [.ref 65, .int 0, .int (nI (sm f k)), .int (nI k)] [] h (fun v2 h2 => v2 = some (.int (nI (sm f P))) ∧ h2 = h) := by
    refine up_ind ?_ (fun k hk ih => ?_)
    · show Wp 0 j_M_shares _ _ _ _ _
      repeat (first | (refine W1 rfl ?_; try refine Wp.norm (L' := [_, _, _, _]) rfl ?_) | ((first | change (_ → _) ∧ (_ → _) | change vp_in _ _ ∧ _ | change ¬ _ ∧ _); simp (disch := omega) only [nI_clamp, nI_leI, nI_ltI, nI_eq, nI_1, nI_add, nI_not_neg, nI_is_pos, nI_m1, nI_z, e, i32_c0]) | refine brT (by first | assumption | decide | omega) ?_ | refine brF (by first | assumption | decide | omega) ?_ | refine brTn (by first | assumption | decide | omega) ?_ | refine brFn (by first | assumption | decide | omega) ?_ | refine And.intro (vp_in_nI (by omega) (by decide)) ?_ | refine And.intro (vp_lit (by decide)) ?_ | refine divJ (by decide) ?_ | refine divI (by decide) ?_)
      try change _ ∧ _
      try first | exact ⟨rfl, rfl⟩ | exact ⟨Or.inr rfl, rfl, rfl⟩ | exact ⟨Or.inl rfl, rfl, rfl⟩ | exact ⟨trivial, trivial⟩ | exact ⟨rfl, trivial⟩ | exact ⟨Or.inr rfl, rfl, trivial⟩ | exact ⟨Or.inl rfl, rfl, trivial⟩
    · have hfk := hf k hk
      have e0 : (16 : Int32) * 0 + nI k = nI k := by rw [show (16 : Int32) * 0 = nI 0 from rfl, nI_add, Nat.zero_add]
      have hsm : sm f (k + 1) = sm f k + f k := rfl
      rw [hsm] at ih
      show Wp 0 j_M_shares _ _ _ _ _
      (refine W1 rfl ?_; try refine Wp.norm (L' := [_, _, _, _]) rfl ?_)
      repeat (first | refine Wp.at ih rfl rfl ?_ rfl | (refine W1 rfl ?_; try refine Wp.norm (L' := [_, _, _, _]) rfl ?_) | ((first | change (_ → _) ∧ (_ → _) | change vp_in _ _ ∧ _ | change ¬ _ ∧ _); simp (disch := omega) only [nI_clamp, nI_leI, nI_ltI, nI_eq, nI_1, nI_add, nI_not_neg, nI_is_pos, nI_m1, nI_z, e, e0, hfk, i32_c0]) | refine brT (by first | assumption | decide | omega) ?_ | refine brF (by first | assumption | decide | omega) ?_ | refine brTn (by first | assumption | decide | omega) ?_ | refine brFn (by first | assumption | decide | omega) ?_ | refine And.intro (vp_in_nI (by omega) (by decide)) ?_ | refine And.intro (vp_lit (by decide)) ?_ | refine divJ (by decide) ?_ | refine divI (by decide) ?_)
      try change _ ∧ _
      first | done | rfl | (simp (disch := omega) only [nI_1, nI_add, nI_clamp, hfk, e0] <;> first | done | rfl)
  have ih := lp 0 (Nat.zero_le _)
  refine Run.of rfl ?_
  refine Wp.norm (L' := [_, _, _, _]) rfl ?_
  repeat (first | refine Wp.at ih rfl rfl ?_ rfl | (refine W1 rfl ?_; try refine Wp.norm (L' := [_, _, _, _]) rfl ?_) | ((first | change (_ → _) ∧ (_ → _) | change vp_in _ _ ∧ _ | change ¬ _ ∧ _); simp (disch := omega) only [nI_clamp, nI_leI, nI_ltI, nI_eq, nI_1, nI_add, nI_not_neg, nI_is_pos, nI_m1, nI_z]) | refine brT (by first | assumption | decide | omega) ?_ | refine brF (by first | assumption | decide | omega) ?_ | refine brTn (by first | assumption | decide | omega) ?_ | refine brFn (by first | assumption | decide | omega) ?_ | refine And.intro (vp_in_nI (by omega) (by decide)) ?_ | refine And.intro (vp_lit (by decide)) ?_ | refine divJ (by decide) ?_ | refine divI (by decide) ?_)
  try change _ ∧ _
  first | done | rfl | (simp (disch := omega) only [nI_1, nI_add, nI_clamp] <;> first | done | rfl)
/-- a person's numbers in the model's draft -/
def pM (h : HP) (P : Nat) (y1 : Int64) (y3 y5 y7 : Int32) : HP := wI (wI (wI (wI (wJ h 91 P y1) 92 P y3) 93 P y5) 94 P y7) 88 0 (nI (P + 1))
theorem DM.prs {j : Nat} (D : DM s h) : DM (adP b n s j) (pM h (zP s) (lN (e27 (wrd b n (j + 1)) 0)) (nI (tV b n (j + 3))) (nI (tV b n (j + 5))) (nI (tV b n (j + 7)))) := by
  obtain ⟨⟨d1, d2, d3, d4⟩, d5, d6, d7⟩ := D
  refine ⟨⟨d1, rfl, d3, d4⟩, fun p hp => ?_, d6, d7⟩
  have hp : p < zP s + 1 := hp
  unfold pM
  by_cases e : p = zP s
  · subst e
    simp [wI, wJ, va_up, upd, vp_updL, adP, sU]
  · have := d5 p (by omega)
    simp [wI, wJ, va_up, upd, vp_updL, adP, sU, e]
    exact this
theorem ch_i {o c : FO} (h : o = none → c = none) : ch o c = o := by
  cases o with
  | none => exact h rfl
  | some e => rfl
theorem m_person {j : Nat} (M : ML b n (j + 1) h) (D : DM s h) (G : GM s) (hq : zQ s = sm (pS s) (zP s)) (c : CM C h) (hP : zP s < 16) : ∃ h' o, Run 5 j_M_person [.ref 65] h none h' ∧ MX h h' ∧ LZ b n o (j + 8) h' ∧ ch o (ckS b n (j + 8) 59) = ch (ckC b n (zP s) 16 j) (foP b n s j) ∧ (o = none → CM C h' ∧ DM (adP b n s j) h') := by
  have eP := D.1.2.1
  have hQ := G.1.1.2.2.1
  obtain ⟨y1, h1, r1, F1, X1, e1⟩ := m_newName (s := s) (i := j + 1) (o := none) M (fun _ => ⟨D, G⟩)
  rw [ch_n] at X1 e1
  generalize ho1 : ckW b n s (j + 1) = o1 at X1 e1
  have X1' := LZ.wy (k := 91) (j := zP s) (x := y1) X1
  obtain ⟨h2, r2, F2, X2⟩ := m_asks (q := 2) (by decide) X1'
  generalize ho2 : ch o1 (ckO b n (j + 2) 2) = o2 at X2
  obtain ⟨_, h3, r3, y3, rfl, F3, X3, e3⟩ := m_number (l := 1) (u := 9) X2 (by decide) (by decide)
  generalize ho3 : ch o2 (ckN b n (j + 3) 1 9) = o3 at X3 e3
  have X3 : LZ b n o3 (j + 4) h3 := X3
  have X3' := LZ.wx (k := 92) (j := zP s) (x := y3) X3 (by decide)
  -- the parts' sum
  have chk : ∃ h4, LX (wI h3 92 (zP s) y3) h4 ∧ LZ b n (ch o3 (if tV b n (j + 3) ≤ 16 - zQ s then none else some (2, ps b n (j + 3)))) (j + 4) h4 ∧ ∀ Q : QT, Wp 5 j_M_person 71 [.ref 65, .int (nI (zP s))] [] h4 Q → Wp 5 j_M_person 38 [.ref 65, .int (nI (zP s))] [] (wI h3 92 (zP s) y3) Q := by
    cases o3 with
    | some e =>
      obtain ⟨f, p⟩ := e
      have hne := LF.ne X3'
      refine ⟨_, LX.rfl _, X3', fun Q ih => ?_⟩
      show Wp 5 j_M_person _ _ _ _ _
      repeat (first | refine Wp.at ih rfl rfl ?_ rfl | (refine W1 rfl ?_; try refine Wp.norm (L' := [_, _]) rfl ?_) | ((first | change (_ → _) ∧ (_ → _) | change vp_in _ _ ∧ _ | change ¬ _ ∧ _); simp (disch := omega) only [nI_clamp, nI_leI, nI_ltI, nI_eq, nI_1, nI_add, nI_not_neg, nI_is_pos, nI_m1, nI_z]) | refine brT (by first | assumption | decide | omega) ?_ | refine brF (by first | assumption | decide | omega) ?_ | refine brTn (by first | assumption | decide | omega) ?_ | refine brFn (by first | assumption | decide | omega) ?_ | refine And.intro (vp_in_nI (by omega) (by decide)) ?_ | refine And.intro (vp_lit (by decide)) ?_ | refine divJ (by decide) ?_ | refine divI (by decide) ?_)
      try change _ ∧ _
      first | done | rfl | (simp (disch := omega) only [nI_1, nI_add, nI_clamp] <;> first | done | rfl)
    | none =>
      have f3 := ML.f0 X3'
      obtain ⟨ey, e9⟩ := e3 rfl
      subst ey
      have hv : tV b n (j + 3) ≤ 9 := (ckN_n (ch_none.mp ho3).2).2.2
      have rs := m_shares (h := wI h3 92 (zP s) (nI (tV b n (j + 3)))) (P := zP s) (f := pS s) (by omega) (by
        rw [wI_ne _ _ _ (by decide), F3.ne.1 88 0 (by decide), F2.ne.1 88 0 (by decide)]
        show h1.1 88 0 = _
        rw [F1.ne.1 88 0 (by decide)]; exact eP) (fun p hp => by
        rw [wI_ne2 _ _ (by omega), F3.ne.1 92 p (by decide), F2.ne.1 92 p (by decide)]
        show h1.1 92 p = _
        rw [F1.ne.1 92 p (by decide)]; exact (D.2.1 p hp).2.1) (by omega)
      rw [← hq] at rs
      have e92 : (wI h3 92 (zP s) (nI (tV b n (j + 3)))).1 92 (zP s) = nI (tV b n (j + 3)) := wI_same _ _ _ _
      have e99 : (wI h3 92 (zP s) (nI (tV b n (j + 3)))).1 65 9 = nI (ps b n (j + 3)) := e9
      generalize wI h3 92 (zP s) (nI (tV b n (j + 3))) = g at *
      rw [ch_n]
      by_cases c2 : tV b n (j + 3) ≤ 16 - zQ s
      · rw [if_pos c2]
        refine ⟨g, LX.rfl _, X3', fun Q ih => ?_⟩
        show Wp 5 j_M_person _ _ _ _ _
        repeat (first | (refine W1 rfl ?_; try refine Wp.norm (L' := [_, _]) rfl ?_) | ((first | change (_ → _) ∧ (_ → _) | change vp_in _ _ ∧ _ | change ¬ _ ∧ _); simp (disch := omega) only [nI_clamp, nI_leI, nI_ltI, nI_eq, nI_1, nI_add, nI_not_neg, nI_is_pos, nI_m1, nI_z, f3]) | refine brT (by first | assumption | decide | omega) ?_ | refine brF (by first | assumption | decide | omega) ?_ | refine brTn (by first | assumption | decide | omega) ?_ | refine brFn (by first | assumption | decide | omega) ?_ | refine And.intro (vp_in_nI (by omega) (by decide)) ?_ | refine And.intro (vp_lit (by decide)) ?_ | refine divJ (by decide) ?_ | refine divI (by decide) ?_)
        try change _ ∧ _
        refine Cl.of rs (by decide) ?_
        repeat (first | refine Wp.at ih rfl rfl ?_ rfl | (refine W1 rfl ?_; try refine Wp.norm (L' := [_, _]) rfl ?_) | ((first | change (_ → _) ∧ (_ → _) | change vp_in _ _ ∧ _ | change ¬ _ ∧ _); simp (disch := omega) only [nI_clamp, nI_leI, nI_ltI, nI_eq, nI_1, nI_add, nI_not_neg, nI_is_pos, nI_m1, nI_z, e92, show (16 : Int32) = nI 16 from rfl]) | refine brT (by first | assumption | decide | omega) ?_ | refine brF (by first | assumption | decide | omega) ?_ | refine brTn (by first | assumption | decide | omega) ?_ | refine brFn (by first | assumption | decide | omega) ?_ | refine And.intro (vp_in_nI (by omega) (by decide)) ?_ | refine And.intro (vp_lit (by decide)) ?_ | refine divJ (by decide) ?_ | refine divI (by decide) ?_)
        try change _ ∧ _
        first | done | rfl | (simp (disch := omega) only [nI_1, nI_add, nI_clamp] <;> first | done | rfl)
      · rw [if_neg c2]
        have rf := r_M_fail0 (h := g) 2 (nI (ps b n (j + 3))) f3
        refine ⟨wI (wI g 65 5 (nI 2)) 65 6 (nI (ps b n (j + 3))), ((LX.rfl _).a (by decide)).a (by decide), lf_mk (by decide), fun Q ih => ?_⟩
        show Wp 5 j_M_person _ _ _ _ _
        repeat (first | (refine W1 rfl ?_; try refine Wp.norm (L' := [_, _]) rfl ?_) | ((first | change (_ → _) ∧ (_ → _) | change vp_in _ _ ∧ _ | change ¬ _ ∧ _); simp (disch := omega) only [nI_clamp, nI_leI, nI_ltI, nI_eq, nI_1, nI_add, nI_not_neg, nI_is_pos, nI_m1, nI_z, f3]) | refine brT (by first | assumption | decide | omega) ?_ | refine brF (by first | assumption | decide | omega) ?_ | refine brTn (by first | assumption | decide | omega) ?_ | refine brFn (by first | assumption | decide | omega) ?_ | refine And.intro (vp_in_nI (by omega) (by decide)) ?_ | refine And.intro (vp_lit (by decide)) ?_ | refine divJ (by decide) ?_ | refine divI (by decide) ?_)
        try change _ ∧ _
        refine Cl.of rs (by decide) ?_
        repeat (first | (refine W1 rfl ?_; try refine Wp.norm (L' := [_, _]) rfl ?_) | ((first | change (_ → _) ∧ (_ → _) | change vp_in _ _ ∧ _ | change ¬ _ ∧ _); simp (disch := omega) only [nI_clamp, nI_leI, nI_ltI, nI_eq, nI_1, nI_add, nI_not_neg, nI_is_pos, nI_m1, nI_z, e92, show (16 : Int32) = nI 16 from rfl]) | refine brT (by first | assumption | decide | omega) ?_ | refine brF (by first | assumption | decide | omega) ?_ | refine brTn (by first | assumption | decide | omega) ?_ | refine brFn (by first | assumption | decide | omega) ?_ | refine And.intro (vp_in_nI (by omega) (by decide)) ?_ | refine And.intro (vp_lit (by decide)) ?_ | refine divJ (by decide) ?_ | refine divI (by decide) ?_)
        try change _ ∧ _
        refine Cl.ofA rf (by rw [e99]; rfl) (by decide) ?_
        repeat (first | refine Wp.at ih rfl rfl ?_ rfl | (refine W1 rfl ?_; try refine Wp.norm (L' := [_, _]) rfl ?_) | ((first | change (_ → _) ∧ (_ → _) | change vp_in _ _ ∧ _ | change ¬ _ ∧ _); simp (disch := omega) only [nI_clamp, nI_leI, nI_ltI, nI_eq, nI_1, nI_add, nI_not_neg, nI_is_pos, nI_m1, nI_z]) | refine brT (by first | assumption | decide | omega) ?_ | refine brF (by first | assumption | decide | omega) ?_ | refine brTn (by first | assumption | decide | omega) ?_ | refine brFn (by first | assumption | decide | omega) ?_ | refine And.intro (vp_in_nI (by omega) (by decide)) ?_ | refine And.intro (vp_lit (by decide)) ?_ | refine divJ (by decide) ?_ | refine divI (by decide) ?_)
        try change _ ∧ _
        first | done | rfl | (simp (disch := omega) only [nI_1, nI_add, nI_clamp] <;> first | done | rfl)
  obtain ⟨h4, F4, X4, w4⟩ := chk
  generalize ho4 : ch o3 (if tV b n (j + 3) ≤ 16 - zQ s then none else some (2, ps b n (j + 3))) = o4 at X4
  obtain ⟨h5, r5, F5, X5⟩ := m_asks (q := 3) (by decide) X4
  generalize ho5 : ch o4 (ckO b n (j + 4) 3) = o5 at X5
  obtain ⟨_, h6, r6, y6, rfl, F6, X6, e6⟩ := m_number (l := 0) (u := 199) X5 (by decide) (by decide)
  generalize ho6 : ch o5 (ckN b n (j + 4 + 1) 0 199) = o6 at X6 e6
  have X6 : LZ b n o6 (j + 6) h6 := X6
  have e6 : o6 = none → y6 = nI (tV b n (j + 5)) ∧ h6.1 65 9 = nI (ps b n (j + 5)) := e6
  have ho6 : ch o5 (ckN b n (j + 5) 0 199) = o6 := ho6
  have X6' := LZ.wx (k := 93) (j := zP s) (x := y6) X6 (by decide)
  obtain ⟨h7, r7, F7, X7⟩ := m_asks (q := 4) (by decide) X6'
  generalize ho7 : ch o6 (ckO b n (j + 6) 4) = o7 at X7
  obtain ⟨_, h8, r8, y8, rfl, F8, X8, e8⟩ := m_number (l := 0) (u := 199) X7 (by decide) (by decide)
  generalize ho8 : ch o7 (ckN b n (j + 6 + 1) 0 199) = o8 at X8 e8
  have X8 : LZ b n o8 (j + 8) h8 := X8
  have e8 : o8 = none → y8 = nI (tV b n (j + 7)) ∧ h8.1 65 9 = nI (ps b n (j + 7)) := e8
  have ho8 : ch o7 (ckN b n (j + 7) 0 199) = o8 := ho8
  have X8' := LZ.wx (k := 94) (j := zP s) (x := y8) X8 (by decide)
  have z76 : o8 = none → o6 = none := fun z => ch_none1 (ho7.trans (ch_none1 (ho8.trans z)))
  have chk2 : ∃ h9, LX (wI h8 94 (zP s) y8) h9 ∧ LZ b n (ch o8 (if tV b n (j + 5) ≤ tV b n (j + 7) then none else some (2, ps b n (j + 7)))) (j + 8) h9 ∧ ∀ Q : QT, Wp 5 j_M_person 146 [.ref 65, .int (nI (zP s))] [] h9 Q → Wp 5 j_M_person 115 [.ref 65, .int (nI (zP s))] [] (wI h8 94 (zP s) y8) Q := by
    cases o8 with
    | some e =>
      obtain ⟨f, p⟩ := e
      have hne := LF.ne X8'
      refine ⟨_, LX.rfl _, X8', fun Q ih => ?_⟩
      show Wp 5 j_M_person _ _ _ _ _
      repeat (first | refine Wp.at ih rfl rfl ?_ rfl | (refine W1 rfl ?_; try refine Wp.norm (L' := [_, _]) rfl ?_) | ((first | change (_ → _) ∧ (_ → _) | change vp_in _ _ ∧ _ | change ¬ _ ∧ _); simp (disch := omega) only [nI_clamp, nI_leI, nI_ltI, nI_eq, nI_1, nI_add, nI_not_neg, nI_is_pos, nI_m1, nI_z]) | refine brT (by first | assumption | decide | omega) ?_ | refine brF (by first | assumption | decide | omega) ?_ | refine brTn (by first | assumption | decide | omega) ?_ | refine brFn (by first | assumption | decide | omega) ?_ | refine And.intro (vp_in_nI (by omega) (by decide)) ?_ | refine And.intro (vp_lit (by decide)) ?_ | refine divJ (by decide) ?_ | refine divI (by decide) ?_)
      try change _ ∧ _
      first | done | rfl | (simp (disch := omega) only [nI_1, nI_add, nI_clamp] <;> first | done | rfl)
    | none =>
      have f3 := ML.f0 X8'
      obtain ⟨ey, e9⟩ := e8 rfl
      have z6 := z76 rfl
      obtain ⟨ey6, _⟩ := e6 z6
      subst ey
      subst ey6
      have hv7 : tV b n (j + 7) ≤ 199 := (ckN_n (ch_none.mp ho8).2).2.2
      have hv5 : tV b n (j + 5) ≤ 199 := (ckN_n (ch_none.mp (ho6.trans z6)).2).2.2
      have e94 : (wI h8 94 (zP s) (nI (tV b n (j + 7)))).1 94 (zP s) = nI (tV b n (j + 7)) := wI_same _ _ _ _
      have e93 : (wI h8 94 (zP s) (nI (tV b n (j + 7)))).1 93 (zP s) = nI (tV b n (j + 5)) := by
        rw [wI_ne _ _ _ (by decide), F8.ne.1 93 _ (by decide), F7.ne.1 93 _ (by decide), wI_same]
      have e99 : (wI h8 94 (zP s) (nI (tV b n (j + 7)))).1 65 9 = nI (ps b n (j + 7)) := e9
      generalize wI h8 94 (zP s) (nI (tV b n (j + 7))) = g at *
      rw [ch_n]
      by_cases c2 : tV b n (j + 5) ≤ tV b n (j + 7)
      · rw [if_pos c2]
        refine ⟨g, LX.rfl _, X8', fun Q ih => ?_⟩
        show Wp 5 j_M_person _ _ _ _ _
        repeat (first | refine Wp.at ih rfl rfl ?_ rfl | (refine W1 rfl ?_; try refine Wp.norm (L' := [_, _]) rfl ?_) | ((first | change (_ → _) ∧ (_ → _) | change vp_in _ _ ∧ _ | change ¬ _ ∧ _); simp (disch := omega) only [nI_clamp, nI_leI, nI_ltI, nI_eq, nI_1, nI_add, nI_not_neg, nI_is_pos, nI_m1, nI_z, f3, e94, e93]) | refine brT (by first | assumption | decide | omega) ?_ | refine brF (by first | assumption | decide | omega) ?_ | refine brTn (by first | assumption | decide | omega) ?_ | refine brFn (by first | assumption | decide | omega) ?_ | refine And.intro (vp_in_nI (by omega) (by decide)) ?_ | refine And.intro (vp_lit (by decide)) ?_ | refine divJ (by decide) ?_ | refine divI (by decide) ?_)
        try change _ ∧ _
        first | done | rfl | (simp (disch := omega) only [nI_1, nI_add, nI_clamp] <;> first | done | rfl)
      · rw [if_neg c2]
        have rf := r_M_fail0 (h := g) 2 (nI (ps b n (j + 7))) f3
        refine ⟨wI (wI g 65 5 (nI 2)) 65 6 (nI (ps b n (j + 7))), ((LX.rfl _).a (by decide)).a (by decide), lf_mk (by decide), fun Q ih => ?_⟩
        show Wp 5 j_M_person _ _ _ _ _
        repeat (first | (refine W1 rfl ?_; try refine Wp.norm (L' := [_, _]) rfl ?_) | ((first | change (_ → _) ∧ (_ → _) | change vp_in _ _ ∧ _ | change ¬ _ ∧ _); simp (disch := omega) only [nI_clamp, nI_leI, nI_ltI, nI_eq, nI_1, nI_add, nI_not_neg, nI_is_pos, nI_m1, nI_z, f3, e94, e93]) | refine brT (by first | assumption | decide | omega) ?_ | refine brF (by first | assumption | decide | omega) ?_ | refine brTn (by first | assumption | decide | omega) ?_ | refine brFn (by first | assumption | decide | omega) ?_ | refine And.intro (vp_in_nI (by omega) (by decide)) ?_ | refine And.intro (vp_lit (by decide)) ?_ | refine divJ (by decide) ?_ | refine divI (by decide) ?_)
        try change _ ∧ _
        refine Cl.ofA rf (by rw [e99]; rfl) (by decide) ?_
        repeat (first | refine Wp.at ih rfl rfl ?_ rfl | (refine W1 rfl ?_; try refine Wp.norm (L' := [_, _]) rfl ?_) | ((first | change (_ → _) ∧ (_ → _) | change vp_in _ _ ∧ _ | change ¬ _ ∧ _); simp (disch := omega) only [nI_clamp, nI_leI, nI_ltI, nI_eq, nI_1, nI_add, nI_not_neg, nI_is_pos, nI_m1, nI_z]) | refine brT (by first | assumption | decide | omega) ?_ | refine brF (by first | assumption | decide | omega) ?_ | refine brTn (by first | assumption | decide | omega) ?_ | refine brFn (by first | assumption | decide | omega) ?_ | refine And.intro (vp_in_nI (by omega) (by decide)) ?_ | refine And.intro (vp_lit (by decide)) ?_ | refine divJ (by decide) ?_ | refine divI (by decide) ?_)
        try change _ ∧ _
        first | done | rfl | (simp (disch := omega) only [nI_1, nI_add, nI_clamp] <;> first | done | rfl)
  obtain ⟨h9, F9, X9, w9⟩ := chk2
  generalize ho9 : ch o8 (if tV b n (j + 5) ≤ tV b n (j + 7) then none else some (2, ps b n (j + 7))) = o9 at X9
  have N9 : NE (wI (wI (wI (wJ h 91 (zP s) y1) 92 (zP s) y3) 93 (zP s) y6) 94 (zP s) y8) h9 := ((((((((F1.ne.wj (k := 91) (i := zP s) (x := y1)).trans F2.ne).trans F3.ne).w (k := 92) (i := zP s) (x := y3)).trans F4.ne).trans F5.ne).trans F6.ne).w (k := 93) (i := zP s) (x := y6)).trans F7.ne |>.trans F8.ne |>.w (k := 94) (i := zP s) (x := y8) |>.trans F9.ne
  have e88 : h9.1 88 0 = nI (zP s) := by
    rw [N9.1 88 0 (by decide)]
    exact eP
  have hfin : ch o9 (ckS b n (j + 8) 59) = ch (ckC b n (zP s) 16 j) (foP b n s j) := by
    have hC : ckC b n (zP s) 16 j = none := by unfold ckC; rw [if_pos hP]
    unfold foP
    rw [hC, ch_n, ch_n, ho1, ho2, ckN_hi, ← ch_assoc, ho3, ho4, ho5, ho6, ho7, ckN_lo, ← ch_assoc, ho8, ho9]
  refine ⟨wI h9 88 0 (nI (zP s + 1)), o9, ?_, ?_, LZ.wx X9 (by decide), hfin, fun z => ?_⟩
  · have ih9 : Wp 5 j_M_person 146 [.ref 65, .int (nI (zP s))] [] h9 (fun v2 h2 => v2 = none ∧ h2 = wI h9 88 0 (nI (zP s + 1))) := by
      repeat (first | (refine W1 rfl ?_; try refine Wp.norm (L' := [_, _]) rfl ?_) | ((first | change (_ → _) ∧ (_ → _) | change vp_in _ _ ∧ _ | change ¬ _ ∧ _); simp (disch := omega) only [nI_clamp, nI_leI, nI_ltI, nI_eq, nI_1, nI_add, nI_not_neg, nI_is_pos, nI_m1, nI_z, e88, i32_c0]) | refine brT (by first | assumption | decide | omega) ?_ | refine brF (by first | assumption | decide | omega) ?_ | refine brTn (by first | assumption | decide | omega) ?_ | refine brFn (by first | assumption | decide | omega) ?_ | refine And.intro (vp_in_nI (by omega) (by decide)) ?_ | refine And.intro (vp_lit (by decide)) ?_ | refine divJ (by decide) ?_ | refine divI (by decide) ?_)
      try change _ ∧ _
      try simp (disch := omega) only [e88, i32_c0, nI_1, nI_add]
      first | done | exact ⟨rfl, rfl⟩ | exact ⟨trivial, rfl⟩ | exact ⟨trivial, trivial⟩
    have ih8 := w9 _ ih9
    have ih5 : Wp 5 j_M_person 71 [.ref 65, .int (nI (zP s))] [] h4 (fun v2 h2 => v2 = none ∧ h2 = wI h9 88 0 (nI (zP s + 1))) := by
      have ih := ih8
      repeat (first | (refine W1 rfl ?_; try refine Wp.norm (L' := [_, _]) rfl ?_) | ((first | change (_ → _) ∧ (_ → _) | change vp_in _ _ ∧ _ | change ¬ _ ∧ _); simp (disch := omega) only [nI_clamp, nI_leI, nI_ltI, nI_eq, nI_1, nI_add, nI_not_neg, nI_is_pos, nI_m1, nI_z]) | refine brT (by first | assumption | decide | omega) ?_ | refine brF (by first | assumption | decide | omega) ?_ | refine brTn (by first | assumption | decide | omega) ?_ | refine brFn (by first | assumption | decide | omega) ?_ | refine And.intro (vp_in_nI (by omega) (by decide)) ?_ | refine And.intro (vp_lit (by decide)) ?_ | refine divJ (by decide) ?_ | refine divI (by decide) ?_)
      try change _ ∧ _
      refine Cl.of r5 (by decide) ?_
      repeat (first | (refine W1 rfl ?_; try refine Wp.norm (L' := [_, _]) rfl ?_) | ((first | change (_ → _) ∧ (_ → _) | change vp_in _ _ ∧ _ | change ¬ _ ∧ _); simp (disch := omega) only [nI_clamp, nI_leI, nI_ltI, nI_eq, nI_1, nI_add, nI_not_neg, nI_is_pos, nI_m1, nI_z]) | refine brT (by first | assumption | decide | omega) ?_ | refine brF (by first | assumption | decide | omega) ?_ | refine brTn (by first | assumption | decide | omega) ?_ | refine brFn (by first | assumption | decide | omega) ?_ | refine And.intro (vp_in_nI (by omega) (by decide)) ?_ | refine And.intro (vp_lit (by decide)) ?_ | refine divJ (by decide) ?_ | refine divI (by decide) ?_)
      try change _ ∧ _
      refine Cl.of r6 (by decide) ?_
      repeat (first | (refine W1 rfl ?_; try refine Wp.norm (L' := [_, _]) rfl ?_) | ((first | change (_ → _) ∧ (_ → _) | change vp_in _ _ ∧ _ | change ¬ _ ∧ _); simp (disch := omega) only [nI_clamp, nI_leI, nI_ltI, nI_eq, nI_1, nI_add, nI_not_neg, nI_is_pos, nI_m1, nI_z]) | refine brT (by first | assumption | decide | omega) ?_ | refine brF (by first | assumption | decide | omega) ?_ | refine brTn (by first | assumption | decide | omega) ?_ | refine brFn (by first | assumption | decide | omega) ?_ | refine And.intro (vp_in_nI (by omega) (by decide)) ?_ | refine And.intro (vp_lit (by decide)) ?_ | refine divJ (by decide) ?_ | refine divI (by decide) ?_)
      try change _ ∧ _
      refine Cl.of r7 (by decide) ?_
      repeat (first | (refine W1 rfl ?_; try refine Wp.norm (L' := [_, _]) rfl ?_) | ((first | change (_ → _) ∧ (_ → _) | change vp_in _ _ ∧ _ | change ¬ _ ∧ _); simp (disch := omega) only [nI_clamp, nI_leI, nI_ltI, nI_eq, nI_1, nI_add, nI_not_neg, nI_is_pos, nI_m1, nI_z]) | refine brT (by first | assumption | decide | omega) ?_ | refine brF (by first | assumption | decide | omega) ?_ | refine brTn (by first | assumption | decide | omega) ?_ | refine brFn (by first | assumption | decide | omega) ?_ | refine And.intro (vp_in_nI (by omega) (by decide)) ?_ | refine And.intro (vp_lit (by decide)) ?_ | refine divJ (by decide) ?_ | refine divI (by decide) ?_)
      try change _ ∧ _
      refine Cl.of r8 (by decide) ?_
      repeat (first | refine Wp.at ih rfl rfl ?_ rfl | (refine W1 rfl ?_; try refine Wp.norm (L' := [_, _]) rfl ?_) | ((first | change (_ → _) ∧ (_ → _) | change vp_in _ _ ∧ _ | change ¬ _ ∧ _); simp (disch := omega) only [nI_clamp, nI_leI, nI_ltI, nI_eq, nI_1, nI_add, nI_not_neg, nI_is_pos, nI_m1, nI_z]) | refine brT (by first | assumption | decide | omega) ?_ | refine brF (by first | assumption | decide | omega) ?_ | refine brTn (by first | assumption | decide | omega) ?_ | refine brFn (by first | assumption | decide | omega) ?_ | refine And.intro (vp_in_nI (by omega) (by decide)) ?_ | refine And.intro (vp_lit (by decide)) ?_ | refine divJ (by decide) ?_ | refine divI (by decide) ?_)
      try change _ ∧ _
      first | done | rfl | (simp (disch := omega) only [nI_1, nI_add, nI_clamp] <;> first | done | rfl)
    have ih := w4 _ ih5
    show Run 5 j_M_person _ _ _ _
    refine Run.of rfl ?_
    refine Wp.norm (L' := [_, _]) rfl ?_
    repeat (first | (refine W1 rfl ?_; try refine Wp.norm (L' := [_, _]) rfl ?_) | ((first | change (_ → _) ∧ (_ → _) | change vp_in _ _ ∧ _ | change ¬ _ ∧ _); simp (disch := omega) only [nI_clamp, nI_leI, nI_ltI, nI_eq, nI_1, nI_add, nI_not_neg, nI_is_pos, nI_m1, nI_z, eP, i32_c0]) | refine brT (by first | assumption | decide | omega) ?_ | refine brF (by first | assumption | decide | omega) ?_ | refine brTn (by first | assumption | decide | omega) ?_ | refine brFn (by first | assumption | decide | omega) ?_ | refine And.intro (vp_in_nI (by omega) (by decide)) ?_ | refine And.intro (vp_lit (by decide)) ?_ | refine divJ (by decide) ?_ | refine divI (by decide) ?_)
    try change _ ∧ _
    refine Cl.of r1 (by decide) ?_
    repeat (first | (refine W1 rfl ?_; try refine Wp.norm (L' := [_, _]) rfl ?_) | ((first | change (_ → _) ∧ (_ → _) | change vp_in _ _ ∧ _ | change ¬ _ ∧ _); simp (disch := omega) only [nI_clamp, nI_leI, nI_ltI, nI_eq, nI_1, nI_add, nI_not_neg, nI_is_pos, nI_m1, nI_z, eP, i32_c0]) | refine brT (by first | assumption | decide | omega) ?_ | refine brF (by first | assumption | decide | omega) ?_ | refine brTn (by first | assumption | decide | omega) ?_ | refine brFn (by first | assumption | decide | omega) ?_ | refine And.intro (vp_in_nI (by omega) (by decide)) ?_ | refine And.intro (vp_lit (by decide)) ?_ | refine divJ (by decide) ?_ | refine divI (by decide) ?_)
    try change _ ∧ _
    refine Cl.of r2 (by decide) ?_
    repeat (first | (refine W1 rfl ?_; try refine Wp.norm (L' := [_, _]) rfl ?_) | ((first | change (_ → _) ∧ (_ → _) | change vp_in _ _ ∧ _ | change ¬ _ ∧ _); simp (disch := omega) only [nI_clamp, nI_leI, nI_ltI, nI_eq, nI_1, nI_add, nI_not_neg, nI_is_pos, nI_m1, nI_z, eP, i32_c0]) | refine brT (by first | assumption | decide | omega) ?_ | refine brF (by first | assumption | decide | omega) ?_ | refine brTn (by first | assumption | decide | omega) ?_ | refine brFn (by first | assumption | decide | omega) ?_ | refine And.intro (vp_in_nI (by omega) (by decide)) ?_ | refine And.intro (vp_lit (by decide)) ?_ | refine divJ (by decide) ?_ | refine divI (by decide) ?_)
    try change _ ∧ _
    refine Cl.of r3 (by decide) ?_
    repeat (first | refine Wp.at ih rfl rfl ?_ rfl | (refine W1 rfl ?_; try refine Wp.norm (L' := [_, _]) rfl ?_) | ((first | change (_ → _) ∧ (_ → _) | change vp_in _ _ ∧ _ | change ¬ _ ∧ _); simp (disch := omega) only [nI_clamp, nI_leI, nI_ltI, nI_eq, nI_1, nI_add, nI_not_neg, nI_is_pos, nI_m1, nI_z, eP, i32_c0]) | refine brT (by first | assumption | decide | omega) ?_ | refine brF (by first | assumption | decide | omega) ?_ | refine brTn (by first | assumption | decide | omega) ?_ | refine brFn (by first | assumption | decide | omega) ?_ | refine And.intro (vp_in_nI (by omega) (by decide)) ?_ | refine And.intro (vp_lit (by decide)) ?_ | refine divJ (by decide) ?_ | refine divI (by decide) ?_)
    try change _ ∧ _
    first | done | rfl | (simp (disch := omega) only [nI_1, nI_add, nI_clamp, eP, i32_c0] <;> first | done | rfl)
  · have P16 : zP s < mxB 92 := hP
    exact (((((((((F1.mx.wj (k := 91) (i := zP s) (x := y1) hP).trans F2.mx).trans F3.mx).w (k := 92) (i := zP s) (x := y3) (by decide) hP).trans F4.mx).trans F5.mx).trans F6.mx).w (k := 93) (i := zP s) (x := y6) (by decide) hP).trans F7.mx |>.trans F8.mx |>.w (k := 94) (i := zP s) (x := y8) (by decide) hP |>.trans F9.mx).w (k := 88) (i := 0) (x := nI (zP s + 1)) (by decide) (by decide)
  · have z8 := ch_none1 (ho9.trans z)
    have z6 := z76 z8
    have z5 := ch_none1 (ho6.trans z6)
    have z4 := ch_none1 (ho5.trans z5)
    have z3 := ch_none1 (ho4.trans z4)
    have z2 := ch_none1 (ho3.trans z3)
    have z1 := ch_none1 (ho2.trans z2)
    have a1 := (e1 z1).1
    have a3 := (e3 z3).1
    have a6 := (e6 z6).1
    have a8 := (e8 z8).1
    subst a1
    subst a3
    subst a6
    subst a8
    refine ⟨?_, ?_⟩
    · have c1 := c.lx F1
      have c2 : CM C (wJ h1 91 (zP s) (lN (e27 (wrd b n (j + 1)) 0))) := c1
      have c3 := ((((c2.lx F2).lx F3).wx (k := 92) (j := zP s) (x := nI (tV b n (j + 3))) (by decide) (by decide)).lx F4).lx F5 |>.lx F6
      have c4 := (((c3.wx (k := 93) (j := zP s) (x := nI (tV b n (j + 5))) (by decide) (by decide)).lx F7).lx F8).wx (k := 94) (j := zP s) (x := nI (tV b n (j + 7))) (by decide) (by decide)
      exact (c4.lx F9).wx (by decide) (by decide)
    · exact DM.ne D.prs (N9.w (k := 88) (i := 0) (x := nI (zP s + 1)))
end MST
