/-! ===== THE MODEL'S HOUSE STANDS: all of it ===== -/
section MSE
variable {s : ST} {C : List Nat} {h h' : HP}
theorem m_stands (D : DM s h) (c : CM C h) (j : J s C) (hT : (LD s C (zD s)).length ≤ 200) : ∃ w h', Run 5 j_M_stands [.ref 65] h w h' ∧ (w = none ∧ TLm s C (LD s C (zD s)) h' ∧ HM s C h' ∧ HH s h' ∧ h'.1 65 68 = -1 ∧ h'.1 65 74 = -1 ∧ (∀ k i, ¬ (87 ≤ k ∧ k ≤ 103) → ¬ (106 ≤ k ∧ k ≤ 111) → ¬ (k = 65 ∧ (i = 54 ∨ i = 55 ∨ i = 68 ∨ i = 74)) → h'.1 k i = h.1 k i)) := by
  refine Run.ofP rfl ?_
  refine Wp.norm (L' := [_, _]) rfl ?_
  generalize hQQ : (fun (w : Option Value) (h' : HP) => w = none ∧ TLm s C (LD s C (zD s)) h' ∧ HM s C h' ∧ HH s h' ∧ h'.1 65 68 = -1 ∧ h'.1 65 74 = -1 ∧ (∀ k i, ¬ (87 ≤ k ∧ k ≤ 103) → ¬ (106 ≤ k ∧ k ≤ 111) → ¬ (k = 65 ∧ (i = 54 ∨ i = 55 ∨ i = 68 ∨ i = 74)) → h'.1 k i = h.1 k i)) = QQ
  have G := j.1.1.1
  have hP := G.1.1
  have hK := G.1.2.1
  have hO := G.1.2.2.2.1
  have c9 := c.1
  have last : ∀ g y, CPY s h 16 6 (zO s) C.length g → Wp 5 j_M_stands 306 [.ref 65, .int y] [] g QQ := by
    intro g y X
    obtain ⟨R, S, a2, a3, a4, a5⟩ := X
    obtain ⟨d1, d2, d3, d4⟩ := D
    have Hg : HM s C g := ⟨S, fun p hp => by
      obtain ⟨b1, b2, b3, b4⟩ := a2 p (by omega)
      have := d2 p hp
      exact ⟨by rw [b3]; exact this.2.2.1, by rw [b4]; exact this.2.2.2⟩, fun r hr => by
      obtain ⟨b1, b2, b3, b4, b5, b6⟩ := a4 r hr
      have := d4 r hr
      rw [b1, b2, b3, b5, b6]
      exact ⟨this.1, this.2.1, this.2.2.1, this.2.2.2.2⟩, fun q hq => by rw [a5 q hq]; exact c.2.2 q hq, c9⟩
    obtain ⟨w1, g1, r1, rfl, F1, T1⟩ := m_lays Hg j hT
    have H1 := Hg.ly F1
    have e : ∀ k i, k ≠ 65 → k < 106 → g1.1 k i = g.1 k i := fun k i z1 z2 => F1.1 k i (fun z => z1 z.1) (by omega)
    have eJ : ∀ k i, k ≠ 105 → g1.2 k i = g.2 k i := F1.2
    have fin1 : QQ none (wI (wI g1 65 68 (-1)) 65 74 (-1)) := by
      rw [← hQQ]
      refine ⟨rfl, ⟨T1.1, T1.2⟩, H1, ⟨fun p hp => ?_, fun p hp => ?_, fun r hr z => ?_⟩, rfl, rfl, fun k i z1 z2 z3 => ?_⟩
      · obtain ⟨b1, b2, b3, b4⟩ := a2 p (by omega)
        have := d2 p hp
        show g1.2 91 (16 + p) = _ ∧ g1.1 92 (16 + p) = _
        rw [eJ 91 _ (by decide), e 92 _ (by decide) (by decide), b1, b2]
        exact ⟨this.1, this.2.1⟩
      · obtain ⟨b1, b2⟩ := a3 p (by omega)
        have := d3 p hp
        show g1.2 95 (6 + p) = _ ∧ g1.1 96 (6 + p) = _
        rw [eJ 95 _ (by decide), e 96 _ (by decide) (by decide), b1, b2]
        exact this
      · obtain ⟨b1, b2, b3, b4, b5, b6⟩ := a4 r hr
        have := d4 r hr
        show g1.1 100 (60 + r) = _
        rw [e 100 _ (by decide) (by decide), b4]
        exact this.2.2.2.1 z
      · have z4 : ¬ (k = 65 ∧ i = 68) := fun y => z3 ⟨y.1, by omega⟩
        have z5 : ¬ (k = 65 ∧ i = 74) := fun y => z3 ⟨y.1, by omega⟩
        have k1 : (wI (wI g1 65 68 (-1)) 65 74 (-1)).1 k i = g1.1 k i := by
          by_cases ek : k = 65
          · subst ek
            rw [wI_ne2 _ _ (fun y => z5 ⟨rfl, y⟩), wI_ne2 _ _ (fun y => z4 ⟨rfl, y⟩)]
          · rw [wI_ne _ _ _ ek, wI_ne _ _ _ ek]
        rw [k1, F1.1 k i (fun y => z3 ⟨y.1, by omega⟩) z2]
        exact R.2.2.2.1 k i z1
    show Wp 5 j_M_stands _ _ _ _ _
    repeat (first | (refine W1 rfl ?_; try refine Wp.norm (L' := [_, _]) rfl ?_) | ((first | change (_ → _) ∧ (_ → _) | change vp_in _ _ ∧ _ | change ¬ _ ∧ _); simp (disch := omega) only [nI_clamp, nI_leI, nI_ltI, nI_eq, nI_1, nI_add, nI_not_neg, nI_is_pos, nI_m1, nI_z]) | refine brT (by first | assumption | decide | omega) ?_ | refine brF (by first | assumption | decide | omega) ?_ | refine brTn (by first | assumption | decide | omega) ?_ | refine brFn (by first | assumption | decide | omega) ?_ | refine And.intro (vp_in_nI (by omega) (by decide)) ?_ | refine And.intro (vp_lit (by decide)) ?_ | refine divJ (by decide) ?_ | refine divI (by decide) ?_)
    try change _ ∧ _
    refine Cl.of r1 (by decide) ?_
    show Wp 5 j_M_stands _ _ _ _ _
    repeat (first | (refine W1 rfl ?_; try refine Wp.norm (L' := [_, _]) rfl ?_) | ((first | change (_ → _) ∧ (_ → _) | change vp_in _ _ ∧ _ | change ¬ _ ∧ _); simp (disch := omega) only [nI_clamp, nI_leI, nI_ltI, nI_eq, nI_1, nI_add, nI_not_neg, nI_is_pos, nI_m1, nI_z]) | refine brT (by first | assumption | decide | omega) ?_ | refine brF (by first | assumption | decide | omega) ?_ | refine brTn (by first | assumption | decide | omega) ?_ | refine brFn (by first | assumption | decide | omega) ?_ | refine And.intro (vp_in_nI (by omega) (by decide)) ?_ | refine And.intro (vp_lit (by decide)) ?_ | refine divJ (by decide) ?_ | refine divI (by decide) ?_)
    try change _ ∧ _
    exact fin1
  have p5 : ∀ n, n ≤ C.length → ∀ g, CPY s h 16 6 (zO s) n g → Wp 5 j_M_stands 276 [.ref 65, .int (nI n)] [] g QQ := by
    refine up_ind ?_ (fun n hn ih => ?_)
    · intro g X
      have e48 : g.1 65 48 = nI C.length := by rw [X.1.2.2.2.1 65 48 (by decide)]; exact c.2.1
      have ih := last g (nI C.length) X
      show Wp 5 j_M_stands _ _ _ _ _
      repeat (first | refine Wp.at ih rfl rfl ?_ rfl | (refine W1 rfl ?_; try refine Wp.norm (L' := [_, _]) rfl ?_) | ((first | change (_ → _) ∧ (_ → _) | change vp_in _ _ ∧ _ | change ¬ _ ∧ _); simp (disch := omega) only [nI_clamp, nI_leI, nI_ltI, nI_eq, nI_1, nI_add, nI_not_neg, nI_is_pos, nI_m1, nI_z, e48]) | refine brT (by first | assumption | decide | omega) ?_ | refine brF (by first | assumption | decide | omega) ?_ | refine brTn (by first | assumption | decide | omega) ?_ | refine brFn (by first | assumption | decide | omega) ?_ | refine And.intro (vp_in_nI (by omega) (by decide)) ?_ | refine And.intro (vp_lit (by decide)) ?_ | refine divJ (by decide) ?_ | refine divI (by decide) ?_)
      try change _ ∧ _
      first | done | rfl | (simp (disch := omega) only [nI_1, nI_add, nI_clamp] <;> first | done | rfl)
    · intro g X
      have e48 : g.1 65 48 = nI C.length := by rw [X.1.2.2.2.1 65 48 (by decide)]; exact c.2.1
      have e1 : g.1 103 n = h.1 103 n := X.1.2.2.1 n (by omega)
      have e2 : (900 : Int32) + nI n = nI (900 + n) := by rw [show (900 : Int32) = nI 900 from rfl, nI_add]
      have ih := ih _ X.s5
      rw [← e1] at ih
      show Wp 5 j_M_stands _ _ _ _ _
      (refine W1 rfl ?_; try refine Wp.norm (L' := [_, _]) rfl ?_)
      repeat (first | refine Wp.at ih rfl rfl ?_ ?_ | (refine W1 rfl ?_; try refine Wp.norm (L' := [_, _]) rfl ?_) | ((first | change (_ → _) ∧ (_ → _) | change vp_in _ _ ∧ _ | change ¬ _ ∧ _); simp (disch := omega) only [nI_clamp, nI_leI, nI_ltI, nI_eq, nI_1, nI_add, nI_not_neg, nI_is_pos, nI_m1, nI_z, e48, e2]) | refine brT (by first | assumption | decide | omega) ?_ | refine brF (by first | assumption | decide | omega) ?_ | refine brTn (by first | assumption | decide | omega) ?_ | refine brFn (by first | assumption | decide | omega) ?_ | refine And.intro (vp_in_nI (by omega) (by decide)) ?_ | refine And.intro (vp_lit (by decide)) ?_ | refine divJ (by decide) ?_ | refine divI (by decide) ?_)
      try change _ ∧ _
      · first | done | rfl | (simp (disch := omega) only [nI_1, nI_add, nI_clamp] <;> first | done | rfl)
      · first | done | rfl | (simp (disch := omega) only [nI_1, nI_add, nI_clamp, e2] <;> first | done | rfl)
  have p4 : ∀ n, n ≤ zO s → ∀ g, CPY s h 16 6 n 0 g → Wp 5 j_M_stands 168 [.ref 65, .int (nI n)] [] g QQ := by
    refine up_ind ?_ (fun n hn ih => ?_)
    · intro g X
      have e90 : g.1 90 0 = nI (zO s) := by rw [X.1.1 90 0 (by decide)]; exact D.1.2.2.2
      have ih := p5 0 (Nat.zero_le _) g X
      have ih : Wp 5 j_M_stands 276 [.ref 65, .int 0] [] g QQ := ih
      show Wp 5 j_M_stands _ _ _ _ _
      repeat (first | refine Wp.at ih rfl rfl ?_ rfl | (refine W1 rfl ?_; try refine Wp.norm (L' := [_, _]) rfl ?_) | ((first | change (_ → _) ∧ (_ → _) | change vp_in _ _ ∧ _ | change ¬ _ ∧ _); simp (disch := omega) only [nI_clamp, nI_leI, nI_ltI, nI_eq, nI_1, nI_add, nI_not_neg, nI_is_pos, nI_m1, nI_z, e90, i32_c0]) | refine brT (by first | assumption | decide | omega) ?_ | refine brF (by first | assumption | decide | omega) ?_ | refine brTn (by first | assumption | decide | omega) ?_ | refine brFn (by first | assumption | decide | omega) ?_ | refine And.intro (vp_in_nI (by omega) (by decide)) ?_ | refine And.intro (vp_lit (by decide)) ?_ | refine divJ (by decide) ?_ | refine divI (by decide) ?_)
      try change _ ∧ _
      first | done | rfl | (simp (disch := omega) only [nI_1, nI_add, nI_clamp] <;> first | done | rfl)
    · intro g X
      have e90 : g.1 90 0 = nI (zO s) := by rw [X.1.1 90 0 (by decide)]; exact D.1.2.2.2
      have f1 : g.1 97 n = h.1 97 n := X.1.1 97 n (by show n < 60; omega)
      have f2 : g.1 98 n = h.1 98 n := X.1.1 98 n (by show n < 60; omega)
      have f3 : g.1 99 n = h.1 99 n := X.1.1 99 n (by show n < 60; omega)
      have f4 : g.1 100 n = h.1 100 n := X.1.1 100 n (by show n < 60; omega)
      have f5 : g.1 101 n = h.1 101 n := X.1.1 101 n (by show n < 60; omega)
      have f6 : g.1 102 n = h.1 102 n := X.1.1 102 n (by show n < 60; omega)
      have e2 : (60 : Int32) + nI n = nI (60 + n) := by rw [show (60 : Int32) = nI 60 from rfl, nI_add]
      have ih := ih _ X.s4
      unfold cp4 at ih
      rw [← f1, ← f2, ← f3, ← f4, ← f5, ← f6] at ih
      show Wp 5 j_M_stands _ _ _ _ _
      (refine W1 rfl ?_; try refine Wp.norm (L' := [_, _]) rfl ?_)
      repeat (first | refine Wp.at ih rfl rfl ?_ ?_ | (refine W1 rfl ?_; try refine Wp.norm (L' := [_, _]) rfl ?_) | ((first | change (_ → _) ∧ (_ → _) | change vp_in _ _ ∧ _ | change ¬ _ ∧ _); simp (disch := omega) only [nI_clamp, nI_leI, nI_ltI, nI_eq, nI_1, nI_add, nI_not_neg, nI_is_pos, nI_m1, nI_z, e90, e2, i32_c0]) | refine brT (by first | assumption | decide | omega) ?_ | refine brF (by first | assumption | decide | omega) ?_ | refine brTn (by first | assumption | decide | omega) ?_ | refine brFn (by first | assumption | decide | omega) ?_ | refine And.intro (vp_in_nI (by omega) (by decide)) ?_ | refine And.intro (vp_lit (by decide)) ?_ | refine divJ (by decide) ?_ | refine divI (by decide) ?_)
      try change _ ∧ _
      · first | done | rfl | (simp (disch := omega) only [nI_1, nI_add, nI_clamp] <;> first | done | rfl)
      · first | done | rfl | (simp (disch := omega) only [nI_1, nI_add, nI_clamp, e2, wI_ne] <;> first | done | rfl)
  have p3 : ∀ n, n ≤ 6 → ∀ g, CPY s h 16 n 0 0 g → Wp 5 j_M_stands 124 [.ref 65, .int (nI n)] [] g QQ := by
    refine up_ind ?_ (fun n hn ih => ?_)
    · intro g X
      have ih := p4 0 (Nat.zero_le _) g X
      have ih : Wp 5 j_M_stands 168 [.ref 65, .int 0] [] g QQ := ih
      show Wp 5 j_M_stands 124 [.ref 65, .int (nI 6)] [] g QQ
      repeat (first | refine Wp.at ih rfl rfl ?_ rfl | (refine W1 rfl ?_; try refine Wp.norm (L' := [_, _]) rfl ?_) | ((first | change (_ → _) ∧ (_ → _) | change vp_in _ _ ∧ _ | change ¬ _ ∧ _); simp (disch := omega) only [nI_clamp, nI_leI, nI_ltI, nI_eq, nI_1, nI_add, nI_not_neg, nI_is_pos, nI_m1, nI_z, show (6 : Int32) = nI 6 from rfl]) | refine brT (by first | assumption | decide | omega) ?_ | refine brF (by first | assumption | decide | omega) ?_ | refine brTn (by first | assumption | decide | omega) ?_ | refine brFn (by first | assumption | decide | omega) ?_ | refine And.intro (vp_in_nI (by omega) (by decide)) ?_ | refine And.intro (vp_lit (by decide)) ?_ | refine divJ (by decide) ?_ | refine divI (by decide) ?_)
      try change _ ∧ _
      first | done | rfl | (simp (disch := omega) only [nI_1, nI_add, nI_clamp] <;> first | done | rfl)
    · intro g X
      have f1 : g.2 95 n = h.2 95 n := X.1.2.1 95 n (by show n < 6; omega)
      have f2 : g.1 96 n = h.1 96 n := X.1.1 96 n (by show n < 6; omega)
      have e2 : nI 6 + nI n = nI (6 + n) := nI_add _ _
      have ih := ih _ X.s3
      unfold cp3 at ih
      rw [← f1, ← f2] at ih
      show Wp 5 j_M_stands _ _ _ _ _
      (refine W1 rfl ?_; try refine Wp.norm (L' := [_, _]) rfl ?_)
      repeat (first | refine Wp.at ih rfl rfl ?_ ?_ | (refine W1 rfl ?_; try refine Wp.norm (L' := [_, _]) rfl ?_) | ((first | change (_ → _) ∧ (_ → _) | change vp_in _ _ ∧ _ | change ¬ _ ∧ _); simp (disch := omega) only [nI_clamp, nI_leI, nI_ltI, nI_eq, nI_1, nI_add, nI_not_neg, nI_is_pos, nI_m1, nI_z, show (6 : Int32) = nI 6 from rfl]) | refine brT (by first | assumption | decide | omega) ?_ | refine brF (by first | assumption | decide | omega) ?_ | refine brTn (by first | assumption | decide | omega) ?_ | refine brFn (by first | assumption | decide | omega) ?_ | refine And.intro (vp_in_nI (by omega) (by decide)) ?_ | refine And.intro (vp_lit (by decide)) ?_ | refine divJ (by decide) ?_ | refine divI (by decide) ?_)
      try change _ ∧ _
      · first | done | rfl | (simp (disch := omega) only [nI_1, nI_add, nI_clamp] <;> first | done | rfl)
      · first | done | rfl | (simp (disch := omega) only [nI_1, nI_add, nI_clamp, show (6 : Int32) = nI 6 from rfl] <;> first | done | rfl)
  have p2 : ∀ n, n ≤ 16 → ∀ g, CPY s h n 0 0 0 g → Wp 5 j_M_stands 50 [.ref 65, .int (nI n)] [] g QQ := by
    refine up_ind ?_ (fun n hn ih => ?_)
    · intro g X
      have ih := p3 0 (Nat.zero_le _) g X
      have ih : Wp 5 j_M_stands 124 [.ref 65, .int 0] [] g QQ := ih
      show Wp 5 j_M_stands 50 [.ref 65, .int (nI 16)] [] g QQ
      repeat (first | refine Wp.at ih rfl rfl ?_ rfl | (refine W1 rfl ?_; try refine Wp.norm (L' := [_, _]) rfl ?_) | ((first | change (_ → _) ∧ (_ → _) | change vp_in _ _ ∧ _ | change ¬ _ ∧ _); simp (disch := omega) only [nI_clamp, nI_leI, nI_ltI, nI_eq, nI_1, nI_add, nI_not_neg, nI_is_pos, nI_m1, nI_z, show (16 : Int32) = nI 16 from rfl]) | refine brT (by first | assumption | decide | omega) ?_ | refine brF (by first | assumption | decide | omega) ?_ | refine brTn (by first | assumption | decide | omega) ?_ | refine brFn (by first | assumption | decide | omega) ?_ | refine And.intro (vp_in_nI (by omega) (by decide)) ?_ | refine And.intro (vp_lit (by decide)) ?_ | refine divJ (by decide) ?_ | refine divI (by decide) ?_)
      try change _ ∧ _
      first | done | rfl | (simp (disch := omega) only [nI_1, nI_add, nI_clamp] <;> first | done | rfl)
    · intro g X
      have f1 : g.2 91 n = h.2 91 n := X.1.2.1 91 n (by show n < 16; omega)
      have f2 : g.1 92 n = h.1 92 n := X.1.1 92 n (by show n < 16; omega)
      have f3 : g.1 93 n = h.1 93 n := X.1.1 93 n (by show n < 16; omega)
      have f4 : g.1 94 n = h.1 94 n := X.1.1 94 n (by show n < 16; omega)
      have ih := ih _ X.s2
      unfold cp2 at ih
      rw [← f1, ← f2, ← f3, ← f4] at ih
      show Wp 5 j_M_stands _ _ _ _ _
      (refine W1 rfl ?_; try refine Wp.norm (L' := [_, _]) rfl ?_)
      repeat (first | refine Wp.at ih rfl rfl ?_ ?_ | (refine W1 rfl ?_; try refine Wp.norm (L' := [_, _]) rfl ?_) | ((first | change (_ → _) ∧ (_ → _) | change vp_in _ _ ∧ _ | change ¬ _ ∧ _); simp (disch := omega) only [nI_clamp, nI_leI, nI_ltI, nI_eq, nI_1, nI_add, nI_not_neg, nI_is_pos, nI_m1, nI_z, show (16 : Int32) = nI 16 from rfl]) | refine brT (by first | assumption | decide | omega) ?_ | refine brF (by first | assumption | decide | omega) ?_ | refine brTn (by first | assumption | decide | omega) ?_ | refine brFn (by first | assumption | decide | omega) ?_ | refine And.intro (vp_in_nI (by omega) (by decide)) ?_ | refine And.intro (vp_lit (by decide)) ?_ | refine divJ (by decide) ?_ | refine divI (by decide) ?_)
      try change _ ∧ _
      · first | done | rfl | (simp (disch := omega) only [nI_1, nI_add, nI_clamp] <;> first | done | rfl)
      · first | done | rfl | (simp (disch := omega) only [nI_1, nI_add, nI_clamp, show (16 : Int32) = nI 16 from rfl, wI_ne] <;> first | done | rfl)
  have X0 : CPY s h 0 0 0 0 (wI (wI (wI (wI h 87 1 (h.1 87 0)) 88 1 (h.1 88 0)) 89 1 (h.1 89 0)) 90 1 (h.1 90 0)) := by
    refine ⟨((((RD.rfl h).w (by decide) (by decide)).w (by decide) (by decide)).w (by decide) (by decide)).w (by decide) (by decide), ?_, fun p hp => absurd hp (Nat.not_lt_zero _), fun p hp => absurd hp (Nat.not_lt_zero _), fun p hp => absurd hp (Nat.not_lt_zero _), fun p hp => absurd hp (Nat.not_lt_zero _)⟩
    exact D.1
  have ih := p2 0 (Nat.zero_le _) _ X0
  have ih : Wp 5 j_M_stands 50 [.ref 65, .int 0] [] (wI (wI (wI (wI h 87 1 (h.1 87 0)) 88 1 (h.1 88 0)) 89 1 (h.1 89 0)) 90 1 (h.1 90 0)) QQ := ih
  show Wp 5 j_M_stands _ _ _ _ _
  repeat (first | refine Wp.at ih rfl rfl ?_ ?_ | (refine W1 rfl ?_; try refine Wp.norm (L' := [_, _]) rfl ?_) | ((first | change (_ → _) ∧ (_ → _) | change vp_in _ _ ∧ _ | change ¬ _ ∧ _); simp (disch := omega) only [nI_clamp, nI_leI, nI_ltI, nI_eq, nI_1, nI_add, nI_not_neg, nI_is_pos, nI_m1, nI_z, i32_c0, i32_c1]) | refine brT (by first | assumption | decide | omega) ?_ | refine brF (by first | assumption | decide | omega) ?_ | refine brTn (by first | assumption | decide | omega) ?_ | refine brFn (by first | assumption | decide | omega) ?_ | refine And.intro (vp_in_nI (by omega) (by decide)) ?_ | refine And.intro (vp_lit (by decide)) ?_ | refine divJ (by decide) ?_ | refine divI (by decide) ?_)
  try change _ ∧ _
  · first | done | rfl | (simp (disch := omega) only [nI_1, nI_add, nI_clamp] <;> first | done | rfl)
  · first | done | rfl | (simp (disch := omega) only [nI_1, nI_add, nI_clamp, i32_c0, i32_c1] <;> first | done | rfl)
end MSE
