/-! ===== THE MODEL'S HOUSE ===== -/
def frL : List Nat := [1, 2, 3, 4, 5, 6, 7, 8, 9, 30, 48, 50, 51, 52, 54]
def FR1 (h h' : HP) : Prop := (∀ k i, k ≠ 65 → k ≠ 103 → k ≠ 104 → mxB k ≤ i → h'.1 k i = h.1 k i) ∧ (∀ i, ¬ i ∈ frL → h'.1 65 i = h.1 65 i) ∧ (∀ k i, k ≠ 105 → mjB k ≤ i → h'.2 k i = h.2 k i) ∧ h'.1 65 1 = 0
def FR2 (h h' : HP) : Prop := (∀ k i, ¬ (87 ≤ k ∧ k ≤ 111) → k ≠ 65 → h'.1 k i = h.1 k i) ∧ (∀ i, ¬ i ∈ frL → i ≠ 55 → i ≠ 68 → i ≠ 74 → h'.1 65 i = h.1 65 i) ∧ h'.1 65 1 = 0
section HMO
variable {b : Nat → Nat} {n : Nat} {h h' : HP}
def pre (h : HP) (n : Nat) : HP := wI (wI (wI (wI (wI (wI (wI (wI (wI (wI (wI h 65 3 (nI n)) 65 1 0) 65 2 0) 65 4 (-1)) 65 5 0) 65 6 (-1)) 87 0 28) 88 0 0) 89 0 0) 90 0 0) 65 48 0
theorem pre_ml (hn : n ≤ 900) (hb : ∀ k, k < n → h.1 66 k = nI (b k) ∧ b k < 256) (w : WC h) : ML b n 0 (pre h n) := by
  refine ⟨⟨hn, rfl, hb⟩, ⟨0, rfl, Nat.zero_le _, rfl⟩, ⟨Or.inl rfl, fun z => ?_, fun z => by cases z⟩, fun k hk => absurd hk (Nat.not_lt_zero _), ⟨rfl, rfl⟩, fun q hq i hi => ?_⟩
  · have hp := ps_le (b := b) (n := n) 0
    have z : (-1 : Int32) = nI (ps b n 0) := z
    exact ((nI_m1' (by omega)).mp z).elim
  · unfold pre
    rw [wI_ne _ _ _ (by omega), wI_ne _ _ _ (by omega), wI_ne _ _ _ (by omega), wI_ne _ _ _ (by omega), wI_ne _ _ _ (by omega), wI_ne _ _ _ (by omega), wI_ne _ _ _ (by omega), wI_ne _ _ _ (by omega), wI_ne _ _ _ (by omega), wI_ne _ _ _ (by omega), wI_ne _ _ _ (by omega)]
    exact w q hq i hi
theorem pre_dm (h : HP) (n : Nat) : DM st0 (pre h n) := ⟨⟨rfl, rfl, rfl, rfl⟩, fun p hp => absurd hp (Nat.not_lt_zero _), fun p hp => absurd hp (Nat.not_lt_zero _), fun p hp => absurd hp (Nat.not_lt_zero _)⟩
theorem pre_cm (h : HP) (n : Nat) : CM [] (pre h n) := ⟨Nat.zero_le _, rfl, fun k hk => absurd hk (Nat.not_lt_zero _)⟩
theorem pre_fr (h : HP) (n : Nat) : FR1 h (pre h n) := by
  refine ⟨fun k i z1 z2 z3 z4 => ?_, fun i z => ?_, fun k i _ _ => rfl, rfl⟩
  · unfold pre
    rw [wI_ne _ _ _ z1]
    by_cases c1 : k = 90
    · subst c1
      have z4 : 1 ≤ i := z4
      rw [wI_ne2 _ _ (by omega), wI_ne _ _ _ (by decide), wI_ne _ _ _ (by decide), wI_ne _ _ _ (by decide), wI_ne _ _ _ z1, wI_ne _ _ _ z1, wI_ne _ _ _ z1, wI_ne _ _ _ z1, wI_ne _ _ _ z1, wI_ne _ _ _ z1]
    · rw [wI_ne _ _ _ c1]
      by_cases c2 : k = 89
      · subst c2
        have z4 : 1 ≤ i := z4
        rw [wI_ne2 _ _ (by omega), wI_ne _ _ _ (by decide), wI_ne _ _ _ (by decide), wI_ne _ _ _ z1, wI_ne _ _ _ z1, wI_ne _ _ _ z1, wI_ne _ _ _ z1, wI_ne _ _ _ z1, wI_ne _ _ _ z1]
      · rw [wI_ne _ _ _ c2]
        by_cases c3 : k = 88
        · subst c3
          have z4 : 1 ≤ i := z4
          rw [wI_ne2 _ _ (by omega), wI_ne _ _ _ (by decide), wI_ne _ _ _ z1, wI_ne _ _ _ z1, wI_ne _ _ _ z1, wI_ne _ _ _ z1, wI_ne _ _ _ z1, wI_ne _ _ _ z1]
        · rw [wI_ne _ _ _ c3]
          by_cases c4 : k = 87
          · subst c4
            have z4 : 1 ≤ i := z4
            rw [wI_ne2 _ _ (by omega), wI_ne _ _ _ z1, wI_ne _ _ _ z1, wI_ne _ _ _ z1, wI_ne _ _ _ z1, wI_ne _ _ _ z1, wI_ne _ _ _ z1]
          · rw [wI_ne _ _ _ c4, wI_ne _ _ _ z1, wI_ne _ _ _ z1, wI_ne _ _ _ z1, wI_ne _ _ _ z1, wI_ne _ _ _ z1, wI_ne _ _ _ z1]
  · simp [frL] at z
    unfold pre
    rw [wI_ne2 _ _ (by omega), wI_ne _ _ _ (by decide), wI_ne _ _ _ (by decide), wI_ne _ _ _ (by decide), wI_ne _ _ _ (by decide), wI_ne2 _ _ (by omega), wI_ne2 _ _ (by omega), wI_ne2 _ _ (by omega), wI_ne2 _ _ (by omega), wI_ne2 _ _ (by omega), wI_ne2 _ _ (by omega)]
theorem FR1.mx {a c : HP} (F : FR1 h a) (X : MX a c) : FR1 h c := by
  obtain ⟨f1, f2, f3, f4⟩ := F
  refine ⟨fun k i z1 z2 z3 z4 => (X.1 k i z1 z2 z3 z4).trans (f1 k i z1 z2 z3 z4), fun i z => (X.2.1 i (fun y => z (by simp [txL] at y; simp [frL]; omega))).trans (f2 i z), fun k i z1 z2 => (X.2.2 k i z2).trans (f3 k i z1 z2), (X.2.1 1 (by decide)).trans f4⟩
theorem FR1.hx {a c : HP} (F : FR1 h a) (X : HX a c) : FR1 h c := by
  obtain ⟨f1, f2, f3, f4⟩ := F
  refine ⟨fun k i z1 z2 z3 z4 => (X.1 k i (fun y => z1 y.1)).trans (f1 k i z1 z2 z3 z4), fun i z => (X.1 65 i (fun y => z (by rw [y.2]; decide))).trans (f2 i z), fun k i z1 z2 => (X.2 k i z1).trans (f3 k i z1 z2), (X.1 65 1 (fun y => absurd y.2 (by decide))).trans f4⟩
theorem FR1.f {a : HP} {i : Nat} {x : Int32} (F : FR1 h a) (hi : i ∈ frL) (h1 : i ≠ 1) : FR1 h (wI a 65 i x) := by
  obtain ⟨f1, f2, f3, f4⟩ := F
  refine ⟨fun k i z1 z2 z3 z4 => by rw [wI_ne _ _ _ z1]; exact f1 k i z1 z2 z3 z4, fun j z => by rw [wI_ne2 _ _ (fun y => z (by rw [y]; exact hi))]; exact f2 j z, f3, by rw [wI_ne2 _ _ (Ne.symm h1)]; exact f4⟩
theorem m_houseR (e1 : h.1 65 1 = nI n) (hn : n ≤ 900) (hb : ∀ k, k < n → h.1 66 k = nI (b k) ∧ b k < 256) (w : WC h) : ∃ v h', Run 11 j_M_house [.ref 65] h v h' ∧ ((v = some (.int (-1)) ∧ FR1 h h' ∧ ∃ f p, h'.1 65 7 = nI f ∧ h'.1 65 8 = nI p ∧ (0 < f ∧ f < 10) ∧ RDO b n f p) ∨ (∃ s C, RDG b n s C ∧ v = some (.int (nI (LD s C (zD s)).length)) ∧ FR2 h h' ∧ h'.1 65 7 = 0 ∧ h'.1 65 8 = -1 ∧ h'.1 65 68 = -1 ∧ h'.1 65 74 = -1 ∧ TLm s C (LD s C (zD s)) h' ∧ HM s C h' ∧ HH s h')) := by
  refine Run.ofP rfl ?_
  refine Wp.norm (L' := [_]) rfl ?_
  generalize hQQ : (fun (v : Option Value) (h' : HP) => ((v = some (.int (-1)) ∧ FR1 h h' ∧ ∃ f p, h'.1 65 7 = nI f ∧ h'.1 65 8 = nI p ∧ (0 < f ∧ f < 10) ∧ RDO b n f p) ∨ (∃ s C, RDG b n s C ∧ v = some (.int (nI (LD s C (zD s)).length)) ∧ FR2 h h' ∧ h'.1 65 7 = 0 ∧ h'.1 65 8 = -1 ∧ h'.1 65 68 = -1 ∧ h'.1 65 74 = -1 ∧ TLm s C (LD s C (zD s)) h' ∧ HM s C h' ∧ HH s h'))) = QQ
  have hb2 : ∀ k, k < n → b k < 256 := fun k hk => (hb k hk).2
  have bad : ∀ f p g, LF f p g → FR1 h g → RDO b n f p → Wp 11 j_M_house 116 [.ref 65] [] g QQ := by
    intro f p g L F R
    have hne := L.ne
    have e5 := L.1
    have e6 := L.2.2
    have fin1 : QQ (some (.int (-1))) (wI (wI g 65 7 (g.1 65 5)) 65 8 (g.1 65 6)) := by
      rw [← hQQ]
      exact Or.inl ⟨rfl, (F.f (by decide) (by decide)).f (by decide) (by decide), f, p, e5, e6, L.2.1, R⟩
    have hne2 : ¬ (wI (wI g 65 7 (g.1 65 5)) 65 8 (g.1 65 6)).1 65 5 = 0 := hne
    show Wp 11 j_M_house _ _ _ _ _
    repeat (first | (refine W1 rfl ?_; try refine Wp.norm (L' := [_]) rfl ?_) | ((first | change (_ → _) ∧ (_ → _) | change vp_in _ _ ∧ _ | change ¬ _ ∧ _); simp (disch := omega) only [nI_clamp, nI_leI, nI_ltI, nI_eq, nI_1, nI_add, nI_not_neg, nI_is_pos, nI_m1, nI_z]) | refine brT (by first | assumption | decide | omega) ?_ | refine brF (by first | assumption | decide | omega) ?_ | refine brTn (by first | assumption | decide | omega) ?_ | refine brFn (by first | assumption | decide | omega) ?_ | refine And.intro (vp_in_nI (by omega) (by decide)) ?_ | refine And.intro (vp_lit (by decide)) ?_ | refine divJ (by decide) ?_ | refine divI (by decide) ?_)
    try change _ ∧ _
    exact fin1
  have ih := m_house (b := b) (n := n) (D := 11) (h0 := pre h n) (Q := QQ) (by decide) hb2 (fun f p g L X go => by
    have hne := L.ne
    have ih := bad f p g L ((pre_fr h n).mx X) (Or.inl go)
    show Wp 11 j_M_house _ _ _ _ _
    repeat (first | refine Wp.at ih rfl rfl ?_ rfl | (refine W1 rfl ?_; try refine Wp.norm (L' := [_]) rfl ?_) | ((first | change (_ → _) ∧ (_ → _) | change vp_in _ _ ∧ _ | change ¬ _ ∧ _); simp (disch := omega) only [nI_clamp, nI_leI, nI_ltI, nI_eq, nI_1, nI_add, nI_not_neg, nI_is_pos, nI_m1, nI_z]) | refine brT (by first | assumption | decide | omega) ?_ | refine brF (by first | assumption | decide | omega) ?_ | refine brTn (by first | assumption | decide | omega) ?_ | refine brFn (by first | assumption | decide | omega) ?_ | refine And.intro (vp_in_nI (by omega) (by decide)) ?_ | refine And.intro (vp_lit (by decide)) ?_ | refine divJ (by decide) ?_ | refine divI (by decide) ?_)
    try change _ ∧ _
    first | done | rfl | (simp (disch := omega) only [nI_1, nI_add, nI_clamp] <;> first | done | rfl)) (fun i C s g M D c X go => by
    have hJ := J_go hb2 (Or.inr rfl) go
    have f0 := M.f0
    have e6 := M.e6
    obtain ⟨w2, g2, r2, rfl, F2⟩ := m_turnsOf D c hJ
    have t12 := tot_le hJ
    have hto : tot s C = sm (fun d => rC s C d (zO s)) (zD s) := rfl
    rw [← hto] at r2
    have FF := ((pre_fr h n).mx X).hx F2
    have f2 : g2.1 65 5 = 0 := by rw [F2.1 65 5 (fun z => absurd z.2 (by decide))]; exact f0
    have e3 : g2.1 65 3 = nI n := by rw [F2.1 65 3 (fun z => absurd z.2 (by decide))]; exact M.T.2.1
    by_cases c2 : tot s C ≤ 200
    · have f6 : g2.1 65 6 = -1 := by rw [F2.1 65 6 (fun z => absurd z.2 (by decide))]; exact e6
      have hLD : (LD s C (zD s)).length ≤ 200 := by rw [LD_len hJ]; exact c2
      have D3 : DM s (wI (wI g2 65 7 (g2.1 65 5)) 65 8 (g2.1 65 6)) := (show DM s g2 from D.hx F2)
      have c3 : CM C (wI (wI g2 65 7 (g2.1 65 5)) 65 8 (g2.1 65 6)) := (show CM C g2 from c.hx F2)
      have FF3 : FR1 h (wI (wI g2 65 7 (g2.1 65 5)) 65 8 (g2.1 65 6)) := (FF.f (by decide) (by decide)).f (by decide) (by decide)
      obtain ⟨w4, g4, r4, rfl, T4, H4, HH4, k68, k74, E4⟩ := m_stands D3 c3 hJ hLD
      have e55 := T4.1
      have z0 : (wI (wI g2 65 7 (g2.1 65 5)) 65 8 (g2.1 65 6)).1 65 5 = 0 := f2
      have fin1 : QQ (some (.int (nI (LD s C (zD s)).length))) g4 := by
        rw [← hQQ]
        refine Or.inr ⟨s, C, ⟨i, go, c2⟩, rfl, ⟨fun k i z1 z2 => ?_, fun i z1 z2 z3 z4 => ?_, ?_⟩, ?_, ?_, k68, k74, T4, H4, HH4⟩
        · rw [E4 k i (by omega) (by omega) (fun z => z2 z.1)]
          have hm : mxB k = 0 := by unfold mxB; rw [if_neg (by omega), if_neg (by omega), if_neg (by omega), if_neg (by omega)]
          exact FF3.1 k i z2 (by omega) (by omega) (by omega)
        · rw [E4 65 i (by decide) (by decide) (fun z => by
            have := z.2
            simp [frL] at z1
            omega)]
          exact FF3.2.1 i z1
        · rw [E4 65 1 (by decide) (by decide) (by decide)]; exact FF3.2.2.2
        · rw [E4 65 7 (by decide) (by decide) (by decide)]; exact f2
        · rw [E4 65 8 (by decide) (by decide) (by decide)]; exact f6
      show Wp 11 j_M_house _ _ _ _ _
      repeat (first | (refine W1 rfl ?_; try refine Wp.norm (L' := [_]) rfl ?_) | ((first | change (_ → _) ∧ (_ → _) | change vp_in _ _ ∧ _ | change ¬ _ ∧ _); simp (disch := omega) only [nI_clamp, nI_leI, nI_ltI, nI_eq, nI_1, nI_add, nI_not_neg, nI_is_pos, nI_m1, nI_z, f0]) | refine brT (by first | assumption | decide | omega) ?_ | refine brF (by first | assumption | decide | omega) ?_ | refine brTn (by first | assumption | decide | omega) ?_ | refine brFn (by first | assumption | decide | omega) ?_ | refine And.intro (vp_in_nI (by omega) (by decide)) ?_ | refine And.intro (vp_lit (by decide)) ?_ | refine divJ (by decide) ?_ | refine divI (by decide) ?_)
      try change _ ∧ _
      refine Cl.of r2 (by decide) ?_
      show Wp 11 j_M_house _ _ _ _ _
      repeat (first | (refine W1 rfl ?_; try refine Wp.norm (L' := [_]) rfl ?_) | ((first | change (_ → _) ∧ (_ → _) | change vp_in _ _ ∧ _ | change ¬ _ ∧ _); simp (disch := omega) only [nI_clamp, nI_leI, nI_ltI, nI_eq, nI_1, nI_add, nI_not_neg, nI_is_pos, nI_m1, nI_z, show (200 : Int32) = nI 200 from rfl, z0]) | refine brT (by first | assumption | decide | omega) ?_ | refine brF (by first | assumption | decide | omega) ?_ | refine brTn (by first | assumption | decide | omega) ?_ | refine brFn (by first | assumption | decide | omega) ?_ | refine And.intro (vp_in_nI (by omega) (by decide)) ?_ | refine And.intro (vp_lit (by decide)) ?_ | refine divJ (by decide) ?_ | refine divI (by decide) ?_)
      try change _ ∧ _
      refine Cl.of r4 (by decide) ?_
      show Wp 11 j_M_house _ _ _ _ _
      repeat (first | (refine W1 rfl ?_; try refine Wp.norm (L' := [_]) rfl ?_) | ((first | change (_ → _) ∧ (_ → _) | change vp_in _ _ ∧ _ | change ¬ _ ∧ _); simp (disch := omega) only [nI_clamp, nI_leI, nI_ltI, nI_eq, nI_1, nI_add, nI_not_neg, nI_is_pos, nI_m1, nI_z]) | refine brT (by first | assumption | decide | omega) ?_ | refine brF (by first | assumption | decide | omega) ?_ | refine brTn (by first | assumption | decide | omega) ?_ | refine brFn (by first | assumption | decide | omega) ?_ | refine And.intro (vp_in_nI (by omega) (by decide)) ?_ | refine And.intro (vp_lit (by decide)) ?_ | refine divJ (by decide) ?_ | refine divI (by decide) ?_)
      try change _ ∧ _
      rw [e55]
      exact fin1
    · have rf := r_M_fail0 (h := g2) (nI 6) (nI n) f2
      have ih := bad 6 n (wI (wI g2 65 5 (nI 6)) 65 6 (nI n)) (lf_mk (by decide)) ((FF.f (by decide) (by decide)).f (by decide) (by decide)) (Or.inr ⟨rfl, rfl, i, C, s, go, by omega⟩)
      show Wp 11 j_M_house _ _ _ _ _
      repeat (first | (refine W1 rfl ?_; try refine Wp.norm (L' := [_]) rfl ?_) | ((first | change (_ → _) ∧ (_ → _) | change vp_in _ _ ∧ _ | change ¬ _ ∧ _); simp (disch := omega) only [nI_clamp, nI_leI, nI_ltI, nI_eq, nI_1, nI_add, nI_not_neg, nI_is_pos, nI_m1, nI_z, f0]) | refine brT (by first | assumption | decide | omega) ?_ | refine brF (by first | assumption | decide | omega) ?_ | refine brTn (by first | assumption | decide | omega) ?_ | refine brFn (by first | assumption | decide | omega) ?_ | refine And.intro (vp_in_nI (by omega) (by decide)) ?_ | refine And.intro (vp_lit (by decide)) ?_ | refine divJ (by decide) ?_ | refine divI (by decide) ?_)
      try change _ ∧ _
      refine Cl.of r2 (by decide) ?_
      show Wp 11 j_M_house _ _ _ _ _
      repeat (first | (refine W1 rfl ?_; try refine Wp.norm (L' := [_]) rfl ?_) | ((first | change (_ → _) ∧ (_ → _) | change vp_in _ _ ∧ _ | change ¬ _ ∧ _); simp (disch := omega) only [nI_clamp, nI_leI, nI_ltI, nI_eq, nI_1, nI_add, nI_not_neg, nI_is_pos, nI_m1, nI_z, show (200 : Int32) = nI 200 from rfl]) | refine brT (by first | assumption | decide | omega) ?_ | refine brF (by first | assumption | decide | omega) ?_ | refine brTn (by first | assumption | decide | omega) ?_ | refine brFn (by first | assumption | decide | omega) ?_ | refine And.intro (vp_in_nI (by omega) (by decide)) ?_ | refine And.intro (vp_lit (by decide)) ?_ | refine divJ (by decide) ?_ | refine divI (by decide) ?_)
      try change _ ∧ _
      refine Cl.ofA rf (by first | done | rfl | (simp (disch := omega) only [nI_1, nI_add, nI_clamp, e3] <;> first | done | rfl)) (by decide) ?_
      show Wp 11 j_M_house _ _ _ _ _
      repeat (first | refine Wp.at ih rfl rfl ?_ rfl | (refine W1 rfl ?_; try refine Wp.norm (L' := [_]) rfl ?_) | ((first | change (_ → _) ∧ (_ → _) | change vp_in _ _ ∧ _ | change ¬ _ ∧ _); simp (disch := omega) only [nI_clamp, nI_leI, nI_ltI, nI_eq, nI_1, nI_add, nI_not_neg, nI_is_pos, nI_m1, nI_z]) | refine brT (by first | assumption | decide | omega) ?_ | refine brF (by first | assumption | decide | omega) ?_ | refine brTn (by first | assumption | decide | omega) ?_ | refine brFn (by first | assumption | decide | omega) ?_ | refine And.intro (vp_in_nI (by omega) (by decide)) ?_ | refine And.intro (vp_lit (by decide)) ?_ | refine divJ (by decide) ?_ | refine divI (by decide) ?_)
      try change _ ∧ _
      first | done | rfl | (simp (disch := omega) only [nI_1, nI_add, nI_clamp] <;> first | done | rfl)) 901 0 [] st0 (pre h n) (by omega) (pre_ml hn hb w) (pre_dm h n) (pre_cm h n) (Nat.le_refl _) (MX.rfl _) (qGo.rfl _)
  unfold pre at ih
  rw [← e1] at ih
  show Wp 11 j_M_house _ _ _ _ _
  repeat (first | refine Wp.at ih rfl rfl ?_ ?_ | (refine W1 rfl ?_; try refine Wp.norm (L' := [_]) rfl ?_) | ((first | change (_ → _) ∧ (_ → _) | change vp_in _ _ ∧ _ | change ¬ _ ∧ _); simp (disch := omega) only [nI_clamp, nI_leI, nI_ltI, nI_eq, nI_1, nI_add, nI_not_neg, nI_is_pos, nI_m1, nI_z, i32_c0]) | refine brT (by first | assumption | decide | omega) ?_ | refine brF (by first | assumption | decide | omega) ?_ | refine brTn (by first | assumption | decide | omega) ?_ | refine brFn (by first | assumption | decide | omega) ?_ | refine And.intro (vp_in_nI (by omega) (by decide)) ?_ | refine And.intro (vp_lit (by decide)) ?_ | refine divJ (by decide) ?_ | refine divI (by decide) ?_)
  try change _ ∧ _
  · first | done | rfl | (simp (disch := omega) only [nI_1, nI_add, nI_clamp] <;> first | done | rfl)
  · first | done | rfl | (simp (disch := omega) only [nI_1, nI_add, nI_clamp, i32_c0] <;> first | done | rfl)
end HMO
