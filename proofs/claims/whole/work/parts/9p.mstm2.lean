/-! ===== THE MODEL READS STATEMENTS: kinds, tested ones ===== -/
def NF (h h' : HP) : Prop := (∀ k i, k ≠ 65 → k ≠ 103 → k ≠ 104 → h'.1 k i = h.1 k i) ∧ (∀ k i, h'.2 k i = h.2 k i)
theorem NF.rfl (h : HP) : NF h h := ⟨fun _ _ _ _ _ => Eq.refl _, fun _ _ => Eq.refl _⟩
theorem NF.trans {a b c : HP} (h1 : NF a b) (h2 : NF b c) : NF a c := ⟨fun k i x y z => (h2.1 k i x y z).trans (h1.1 k i x y z), fun k i => (h2.2 k i).trans (h1.2 k i)⟩
theorem NE.nf {h h' : HP} (F : NE h h') : NF h h' := ⟨fun k i x _ _ => F.1 k i x, F.2⟩
theorem LX.nf {h h' : HP} (F : LX h h') : NF h h' := F.ne.nf
theorem TX.nf {h h' : HP} (F : TX h h') : NF h h' := ⟨fun k i x y z => F.1.1 k i (by simp; omega), fun k i => F.1.2 k i (by simp)⟩
theorem NF.w {h h' : HP} {k i : Nat} {x : Int32} (F : NF h h') : NF (wI h k i x) (wI h' k i x) := by
  refine ⟨fun k' i' a a2 a3 => ?_, fun k' i' => F.2 k' i'⟩
  rw [wI_1, wI_1]
  by_cases e : k' = k
  · subst e
    rw [if_pos (Eq.refl _), if_pos (Eq.refl _)]
    unfold upd
    split
    · exact Eq.refl _
    · exact F.1 k' i' a a2 a3
  · rw [if_neg e, if_neg e]; exact F.1 k' i' a a2 a3
section MST2
variable {b : Nat → Nat} {n i : Nat} {h h' : HP} {s : ST} {C W V : List Nat} {B d : Nat}
theorem DM.nf (D : DM s h) (F : NF h h') : DM s h' := by
  obtain ⟨d1, d2, d3, d4⟩ := D
  obtain ⟨e, eJ⟩ := F
  refine ⟨?_, fun p hp => ?_, fun p hp => ?_, fun p hp => ?_⟩
  · rw [e 87 _ (by decide) (by decide) (by decide), e 88 _ (by decide) (by decide) (by decide), e 89 _ (by decide) (by decide) (by decide), e 90 _ (by decide) (by decide) (by decide)]; exact d1
  · rw [eJ, e 92 _ (by decide) (by decide) (by decide), e 93 _ (by decide) (by decide) (by decide), e 94 _ (by decide) (by decide) (by decide)]; exact d2 p hp
  · rw [eJ, e 96 _ (by decide) (by decide) (by decide)]; exact d3 p hp
  · rw [e 97 _ (by decide) (by decide) (by decide), e 98 _ (by decide) (by decide) (by decide), e 99 _ (by decide) (by decide) (by decide), e 100 _ (by decide) (by decide) (by decide), e 101 _ (by decide) (by decide) (by decide), e 102 _ (by decide) (by decide) (by decide)]; exact d4 p hp
def kM (h : HP) (P : Nat) (y1 : Int64) (y3 : Int32) : HP := wI (wI (wJ h 95 P y1) 96 P y3) 89 0 (nI (P + 1))
theorem DM.knd {j : Nat} (D : DM s h) : DM (adK b n s j) (kM h (zK s) (lN (e27 (wrd b n (j + 1)) 0)) (nI (tV b n (j + 3)))) := by
  obtain ⟨⟨d1, d2, d3, d4⟩, d5, d6, d7⟩ := D
  refine ⟨⟨d1, d2, rfl, d4⟩, d5, fun p hp => ?_, d7⟩
  have hp : p < zK s + 1 := hp
  unfold kM
  by_cases e : p = zK s
  · subst e
    simp [wI, wJ, va_up, upd, vp_updL, adK, sU]
  · have := d6 p (by omega)
    simp [wI, wJ, va_up, upd, vp_updL, adK, sU, e]
    exact this
theorem m_kind {j : Nat} (M : ML b n (j + 1) h) (D : DM s h) (G : GM s) (c : CM C h) (hP : zK s < 6) : ∃ h' o, Run 5 j_M_kind [.ref 65] h none h' ∧ MX h h' ∧ LZ b n o (j + 4) h' ∧ ch o (ckS b n (j + 4) 59) = foK b n s j ∧ (o = none → CM C h' ∧ DM (adK b n s j) h') := by
  have eP := D.1.2.2.1
  obtain ⟨y1, h1, r1, F1, X1, e1⟩ := m_newName (s := s) (i := j + 1) (o := none) M (fun _ => ⟨D, G⟩)
  rw [ch_n] at X1 e1
  generalize ho1 : ckW b n s (j + 1) = o1 at X1 e1
  have X1' := LZ.wy (k := 95) (j := zK s) (x := y1) X1
  obtain ⟨h2, r2, F2, X2⟩ := m_asks (q := 6) (by decide) X1'
  generalize ho2 : ch o1 (ckO b n (j + 2) 6) = o2 at X2
  obtain ⟨_, h3, r3, y3, rfl, F3, X3, e3⟩ := m_number (l := 0) (u := 9) X2 (by decide) (by decide)
  generalize ho3 : ch o2 (ckN b n (j + 3) 0 9) = o3 at X3 e3
  have X3 : LZ b n o3 (j + 4) h3 := X3
  have X3' := LZ.wx (k := 96) (j := zK s) (x := y3) X3 (by decide)
  have N3 : NE (wI (wJ h 95 (zK s) y1) 96 (zK s) y3) (wI h3 96 (zK s) y3) := (((F1.ne.wj (k := 95) (i := zK s) (x := y1)).trans F2.ne).trans F3.ne).w (k := 96) (i := zK s) (x := y3)
  have e89 : (wI h3 96 (zK s) y3).1 89 0 = nI (zK s) := by
    rw [N3.1 89 0 (by decide)]
    exact eP
  have hfin : ch o3 (ckS b n (j + 4) 59) = foK b n s j := by
    have hC : ckC b n (zK s) 6 j = none := by unfold ckC; rw [if_pos hP]
    unfold foK
    rw [hC, ch_n, ho1, ho2, ho3]
  refine ⟨wI (wI h3 96 (zK s) y3) 89 0 (nI (zK s + 1)), o3, ?_, ?_, LZ.wx X3' (by decide), hfin, fun z => ?_⟩
  · show Run 5 j_M_kind _ _ _ _
    refine Run.of rfl ?_
    refine Wp.norm (L' := [_, _]) rfl ?_
    repeat (first | (refine W1 rfl ?_; try refine Wp.norm (L' := [_, _]) rfl ?_) | ((first | change (_ → _) ∧ (_ → _) | change vp_in _ _ ∧ _ | change ¬ _ ∧ _); simp (disch := omega) only [nI_clamp, nI_leI, nI_ltI, nI_eq, nI_1, nI_add, nI_not_neg, nI_is_pos, nI_m1, nI_z, eP, i32_c0]) | refine brT (by first | assumption | decide | omega) ?_ | refine brF (by first | assumption | decide | omega) ?_ | refine brTn (by first | assumption | decide | omega) ?_ | refine brFn (by first | assumption | decide | omega) ?_ | refine And.intro (vp_in_nI (by omega) (by decide)) ?_ | refine And.intro (vp_lit (by decide)) ?_ | refine divJ (by decide) ?_ | refine divI (by decide) ?_)
    try change _ ∧ _
    refine Cl.of r1 (by decide) ?_
    repeat (first | (refine W1 rfl ?_; try refine Wp.norm (L' := [_, _]) rfl ?_) | ((first | change (_ → _) ∧ (_ → _) | change vp_in _ _ ∧ _ | change ¬ _ ∧ _); simp (disch := omega) only [nI_clamp, nI_leI, nI_ltI, nI_eq, nI_1, nI_add, nI_not_neg, nI_is_pos, nI_m1, nI_z, eP, i32_c0]) | refine brT (by first | assumption | decide | omega) ?_ | refine brF (by first | assumption | decide | omega) ?_ | refine brTn (by first | assumption | decide | omega) ?_ | refine brFn (by first | assumption | decide | omega) ?_ | refine And.intro (vp_in_nI (by omega) (by decide)) ?_ | refine And.intro (vp_lit (by decide)) ?_ | refine divJ (by decide) ?_ | refine divI (by decide) ?_)
    try change _ ∧ _
    refine Cl.of r2 (by decide) ?_
    repeat (first | (refine W1 rfl ?_; try refine Wp.norm (L' := [_, _]) rfl ?_) | ((first | change (_ → _) ∧ (_ → _) | change vp_in _ _ ∧ _ | change ¬ _ ∧ _); simp (disch := omega) only [nI_clamp, nI_leI, nI_ltI, nI_eq, nI_1, nI_add, nI_not_neg, nI_is_pos, nI_m1, nI_z, eP, i32_c0]) | refine brT (by first | assumption | decide | omega) ?_ | refine brF (by first | assumption | decide | omega) ?_ | refine brTn (by first | assumption | decide | omega) ?_ | refine brFn (by first | assumption | decide | omega) ?_ | refine And.intro (vp_in_nI (by omega) (by decide)) ?_ | refine And.intro (vp_lit (by decide)) ?_ | refine divJ (by decide) ?_ | refine divI (by decide) ?_)
    try change _ ∧ _
    refine Cl.of r3 (by decide) ?_
    repeat (first | (refine W1 rfl ?_; try refine Wp.norm (L' := [_, _]) rfl ?_) | ((first | change (_ → _) ∧ (_ → _) | change vp_in _ _ ∧ _ | change ¬ _ ∧ _); simp (disch := omega) only [nI_clamp, nI_leI, nI_ltI, nI_eq, nI_1, nI_add, nI_not_neg, nI_is_pos, nI_m1, nI_z, eP, i32_c0, e89]) | refine brT (by first | assumption | decide | omega) ?_ | refine brF (by first | assumption | decide | omega) ?_ | refine brTn (by first | assumption | decide | omega) ?_ | refine brFn (by first | assumption | decide | omega) ?_ | refine And.intro (vp_in_nI (by omega) (by decide)) ?_ | refine And.intro (vp_lit (by decide)) ?_ | refine divJ (by decide) ?_ | refine divI (by decide) ?_)
    try change _ ∧ _
    try simp (disch := omega) only [e89, i32_c0, nI_1, nI_add]
    first | done | exact ⟨rfl, rfl⟩ | exact ⟨trivial, rfl⟩ | exact ⟨trivial, trivial⟩
  · exact ((((F1.mx.wj (k := 95) (i := zK s) (x := y1) hP).trans F2.mx).trans F3.mx).w (k := 96) (i := zK s) (x := y3) (by decide) hP).w (k := 89) (i := 0) (x := nI (zK s + 1)) (by decide) (by decide)
  · have z2 := ch_none1 (ho3.trans z)
    have z1 := ch_none1 (ho2.trans z2)
    have a1 := (e1 z1).1
    have a3 := (e3 z).1
    subst a1
    subst a3
    refine ⟨?_, DM.ne D.knd (N3.w (k := 89) (i := 0) (x := nI (zK s + 1)))⟩
    have c1 := c.lx F1
    have c2 : CM C (wJ h1 95 (zK s) (lN (e27 (wrd b n (j + 1)) 0))) := c1
    exact (((c2.lx F2).lx F3).wx (k := 96) (by decide) (by decide)).wx (k := 89) (by decide) (by decide)
def TDM (b : Nat → Nat) (n j : Nat) (o : FO) (C : List Nat) (s1 : ST) (r : Nat) (h h' : HP) : Prop :=
  (∃ i' C', ch o (ckO b n j 8) = none ∧ ML b n i' h' ∧ CM C' h' ∧ C'.length ≤ i' ∧ j < i' ∧ NF (wI (wI h 101 r (nI C.length)) 102 r (nI C'.length)) h' ∧ qGo b n (3, j + 1, [], 0, C, s1) (6, i', [], 0, C', s1)) ∨ ∃ f p, LF f p h' ∧ (ch o (ckO b n j 8) = some (f, p) ∨ (ch o (ckO b n j 8) = none ∧ qGo b n (3, j + 1, [], 0, C, s1) (flt f p)))
theorem LF.wf {f p j : Nat} {x : Int32} (L : LF f p h) (hj : 6 < j) : LF f p (wI h 65 j x) := ⟨by rw [wI_ne2 _ _ (by omega)]; exact L.1, L.2.1, by rw [wI_ne2 _ _ (by omega)]; exact L.2.2⟩
theorem m_tested {j r : Nat} {o : FO} (s1 : ST) (X : LZ b n o j h) (hc : o = none → CM C h ∧ C.length ≤ j + 1) (hr : r < 60) : ∃ w h', Run 7 j_M_tested [.ref 65, .int (nI r)] h w h' ∧ (w = none ∧ MX h h' ∧ TDM b n j o C s1 r h h') := by
  refine Run.ofP rfl ?_
  refine Wp.norm (L' := [_, _]) rfl ?_
  generalize hQQ : (fun (w : Option Value) (h' : HP) => w = none ∧ MX h h' ∧ TDM b n j o C s1 r h h') = QQ
  obtain ⟨h1, r1, F1, X1⟩ := m_asks (q := 8) (by decide) X
  cases hX : ch o (ckO b n j 8) with
  | some e =>
    obtain ⟨f, p⟩ := e
    rw [hX] at X1
    have X1 : LF f p h1 := X1
    have X2 : LF f p (wI (wI (wI h1 65 50 0) 65 51 0) 65 52 0) := ((X1.wf (by decide)).wf (by decide)).wf (by decide)
    have F2 : MX h (wI (wI (wI h1 65 50 0) 65 51 0) 65 52 0) := ((F1.mx.wf (by decide)).wf (by decide)).wf (by decide)
    generalize hg : wI (wI (wI h1 65 50 0) 65 51 0) 65 52 0 = g at *
    have X3 : LF f p (wI g 101 r (g.1 65 48)) := X2.wx (by decide)
    have hne := X3.ne
    show Wp 7 j_M_tested _ _ _ _ _
    repeat (first | (refine W1 rfl ?_; try refine Wp.norm (L' := [_, _]) rfl ?_) | ((first | change (_ → _) ∧ (_ → _) | change vp_in _ _ ∧ _ | change ¬ _ ∧ _); simp (disch := omega) only [nI_clamp, nI_leI, nI_ltI, nI_eq, nI_1, nI_add, nI_not_neg, nI_is_pos, nI_m1, nI_z]) | refine brT (by first | assumption | decide | omega) ?_ | refine brF (by first | assumption | decide | omega) ?_ | refine brTn (by first | assumption | decide | omega) ?_ | refine brFn (by first | assumption | decide | omega) ?_ | refine And.intro (vp_in_nI (by omega) (by decide)) ?_ | refine And.intro (vp_lit (by decide)) ?_ | refine divJ (by decide) ?_ | refine divI (by decide) ?_)
    try change _ ∧ _
    refine Cl.of r1 (by decide) ?_
    repeat (first | (refine W1 rfl ?_; try refine Wp.norm (L' := [_, _]) rfl ?_) | ((first | change (_ → _) ∧ (_ → _) | change vp_in _ _ ∧ _ | change ¬ _ ∧ _); simp (disch := omega) only [nI_clamp, nI_leI, nI_ltI, nI_eq, nI_1, nI_add, nI_not_neg, nI_is_pos, nI_m1, nI_z, hg]) | refine brT (by first | assumption | decide | omega) ?_ | refine brF (by first | assumption | decide | omega) ?_ | refine brTn (by first | assumption | decide | omega) ?_ | refine brFn (by first | assumption | decide | omega) ?_ | refine And.intro (vp_in_nI (by omega) (by decide)) ?_ | refine And.intro (vp_lit (by decide)) ?_ | refine divJ (by decide) ?_ | refine divI (by decide) ?_)
    try change _ ∧ _
    rw [← hQQ]
    exact ⟨rfl, (F2.w (k := 101) (by decide) hr).w (k := 102) (by decide) hr, Or.inr ⟨f, p, X3.wx (by decide), Or.inl hX⟩⟩
  | none =>
    rw [hX] at X1
    have X1 : ML b n (j + 1) h1 := X1
    obtain ⟨c0, hl⟩ := hc (ch_none1 hX)
    have c1 := c0.lx F1
    have e48 : h1.1 65 48 = nI C.length := c1.2.1
    have M2 : MK b n (j + 1) C [] 0 0 (wI (wI (wI (wI h1 65 50 0) 65 51 0) 65 52 0) 101 r (nI C.length)) := ⟨(((X1.wf (by decide)).wf (by decide)).wf (by decide)).wx (by decide), ⟨c1.1, c1.2.1, c1.2.2⟩, trivial, ⟨rfl, rfl, rfl⟩, by decide, by decide⟩
    have F2 : MX h (wI (wI (wI (wI h1 65 50 0) 65 51 0) 65 52 0) 101 r (nI C.length)) := (((F1.mx.wf (by decide)).wf (by decide)).wf (by decide)).w (k := 101) (by decide) hr
    have N2 : NF (wI h 101 r (nI C.length)) (wI (wI (wI (wI h1 65 50 0) 65 51 0) 65 52 0) 101 r (nI C.length)) := NF.w (F1.ne.wl.wl.wl).nf
    have f2 := M2.L.f0
    obtain ⟨w3, h3, r3, rfl, F3, X3⟩ := q_test s1 M2 hl
    have eq1 : ∀ x, x = nI C.length → wI (wI (wI (wI h1 65 50 0) 65 51 0) 65 52 0) 101 r x = wI (wI (wI (wI h1 65 50 0) 65 51 0) 65 52 0) 101 r (nI C.length) := fun x hx => by rw [hx]
    rcases X3 with ⟨i', C', M4, hi, hk, go⟩ | ⟨f, p, X, go⟩
    · have e48' : h3.1 65 48 = nI C'.length := M4.cm.2.1
      show Wp 7 j_M_tested _ _ _ _ _
      repeat (first | (refine W1 rfl ?_; try refine Wp.norm (L' := [_, _]) rfl ?_) | ((first | change (_ → _) ∧ (_ → _) | change vp_in _ _ ∧ _ | change ¬ _ ∧ _); simp (disch := omega) only [nI_clamp, nI_leI, nI_ltI, nI_eq, nI_1, nI_add, nI_not_neg, nI_is_pos, nI_m1, nI_z]) | refine brT (by first | assumption | decide | omega) ?_ | refine brF (by first | assumption | decide | omega) ?_ | refine brTn (by first | assumption | decide | omega) ?_ | refine brFn (by first | assumption | decide | omega) ?_ | refine And.intro (vp_in_nI (by omega) (by decide)) ?_ | refine And.intro (vp_lit (by decide)) ?_ | refine divJ (by decide) ?_ | refine divI (by decide) ?_)
      try change _ ∧ _
      refine Cl.of r1 (by decide) ?_
      repeat (first | (refine W1 rfl ?_; try refine Wp.norm (L' := [_, _]) rfl ?_) | ((first | change (_ → _) ∧ (_ → _) | change vp_in _ _ ∧ _ | change ¬ _ ∧ _); simp (disch := omega) only [nI_clamp, nI_leI, nI_ltI, nI_eq, nI_1, nI_add, nI_not_neg, nI_is_pos, nI_m1, nI_z, e48, wI_ne, wI_ne2, f2]) | refine brT (by first | assumption | decide | omega) ?_ | refine brF (by first | assumption | decide | omega) ?_ | refine brTn (by first | assumption | decide | omega) ?_ | refine brFn (by first | assumption | decide | omega) ?_ | refine And.intro (vp_in_nI (by omega) (by decide)) ?_ | refine And.intro (vp_lit (by decide)) ?_ | refine divJ (by decide) ?_ | refine divI (by decide) ?_)
      try change _ ∧ _
      refine Cl.of r3 (by decide) ?_
      repeat (first | (refine W1 rfl ?_; try refine Wp.norm (L' := [_, _]) rfl ?_) | ((first | change (_ → _) ∧ (_ → _) | change vp_in _ _ ∧ _ | change ¬ _ ∧ _); simp (disch := omega) only [nI_clamp, nI_leI, nI_ltI, nI_eq, nI_1, nI_add, nI_not_neg, nI_is_pos, nI_m1, nI_z, e48']) | refine brT (by first | assumption | decide | omega) ?_ | refine brF (by first | assumption | decide | omega) ?_ | refine brTn (by first | assumption | decide | omega) ?_ | refine brFn (by first | assumption | decide | omega) ?_ | refine And.intro (vp_in_nI (by omega) (by decide)) ?_ | refine And.intro (vp_lit (by decide)) ?_ | refine divJ (by decide) ?_ | refine divI (by decide) ?_)
      try change _ ∧ _
      rw [← hQQ]
      refine ⟨rfl, (F2.trans F3.mx).w (k := 102) (by decide) hr, Or.inl ⟨i', C', hX, M4.L.wx (by decide), M4.cm.wx (by decide) (by decide), by omega, by omega, ?_, go⟩⟩
      exact (N2.trans F3.nf).w
    · show Wp 7 j_M_tested _ _ _ _ _
      repeat (first | (refine W1 rfl ?_; try refine Wp.norm (L' := [_, _]) rfl ?_) | ((first | change (_ → _) ∧ (_ → _) | change vp_in _ _ ∧ _ | change ¬ _ ∧ _); simp (disch := omega) only [nI_clamp, nI_leI, nI_ltI, nI_eq, nI_1, nI_add, nI_not_neg, nI_is_pos, nI_m1, nI_z]) | refine brT (by first | assumption | decide | omega) ?_ | refine brF (by first | assumption | decide | omega) ?_ | refine brTn (by first | assumption | decide | omega) ?_ | refine brFn (by first | assumption | decide | omega) ?_ | refine And.intro (vp_in_nI (by omega) (by decide)) ?_ | refine And.intro (vp_lit (by decide)) ?_ | refine divJ (by decide) ?_ | refine divI (by decide) ?_)
      try change _ ∧ _
      refine Cl.of r1 (by decide) ?_
      repeat (first | (refine W1 rfl ?_; try refine Wp.norm (L' := [_, _]) rfl ?_) | ((first | change (_ → _) ∧ (_ → _) | change vp_in _ _ ∧ _ | change ¬ _ ∧ _); simp (disch := omega) only [nI_clamp, nI_leI, nI_ltI, nI_eq, nI_1, nI_add, nI_not_neg, nI_is_pos, nI_m1, nI_z, e48, wI_ne, wI_ne2, f2]) | refine brT (by first | assumption | decide | omega) ?_ | refine brF (by first | assumption | decide | omega) ?_ | refine brTn (by first | assumption | decide | omega) ?_ | refine brFn (by first | assumption | decide | omega) ?_ | refine And.intro (vp_in_nI (by omega) (by decide)) ?_ | refine And.intro (vp_lit (by decide)) ?_ | refine divJ (by decide) ?_ | refine divI (by decide) ?_)
      try change _ ∧ _
      refine Cl.of r3 (by decide) ?_
      repeat (first | (refine W1 rfl ?_; try refine Wp.norm (L' := [_, _]) rfl ?_) | ((first | change (_ → _) ∧ (_ → _) | change vp_in _ _ ∧ _ | change ¬ _ ∧ _); simp (disch := omega) only [nI_clamp, nI_leI, nI_ltI, nI_eq, nI_1, nI_add, nI_not_neg, nI_is_pos, nI_m1, nI_z]) | refine brT (by first | assumption | decide | omega) ?_ | refine brF (by first | assumption | decide | omega) ?_ | refine brTn (by first | assumption | decide | omega) ?_ | refine brFn (by first | assumption | decide | omega) ?_ | refine And.intro (vp_in_nI (by omega) (by decide)) ?_ | refine And.intro (vp_lit (by decide)) ?_ | refine divJ (by decide) ?_ | refine divI (by decide) ?_)
      try change _ ∧ _
      rw [← hQQ]
      exact ⟨rfl, (F2.trans F3.mx).w (k := 102) (by decide) hr, Or.inr ⟨f, p, X.1.wx (by decide), Or.inr ⟨hX, go⟩⟩⟩
end MST2
