/-! ===== ROUND AND BLOCK: the class ===== -/
def rdG (s : ST) (b : Nat → Nat) (n : Nat) (i : Nat) : Int32 := nI (pfi s b n (i % rq s b n))
def bkG (s : ST) (b : Nat → Nat) (n k : Nat) (i : Nat) : Int32 := nI (pfi s b n (tD s (tA s (some k) i) / 7 % rq s b n))
section ROWC2
variable {s : ST} {c v : RT} {b : Nat → Nat} {n k : Nat} {h : HP}
theorem rq_in {i : Nat} (hi : i < rq s b n) : tS b n i = 1 ∧ pfi s b n i < zP s := by
  have : rqB s b n i = true := re_in (Nat.zero_le _) (Nat.zero_le i) hi
  unfold rqB at this
  simpa using this
theorem rq_20 : rq s b n ≤ 20 := re_le (Nat.zero_le _)
theorem rwV_y {q t : Nat} (h : 0 < q ∧ t = 0) : rwV q t = nI q := if_pos h
theorem rwV_n {q t : Nat} (h : ¬ (0 < q ∧ t = 0)) : rwV q t = -1 := if_neg h
theorem w_E_rowN (T : TB b n h) (R : RC s c v h) (o : OK s) {x : Int32} (hx : ¬ ((0 < rq s b n ∧ tS b n (rq s b n) = 0) ∧ (0 ≤ x ∧ x < nI (zK s)))) : ∃ h', Run 4 j_E_round [.ref 0, .int x] h (some (.int (-1))) h' ∧ Run 4 j_E_block [.ref 0, .int x] h (some (.int (-1))) h' ∧ onlyJ [1, 3, 4, 5, 6, 35] [] h h' ∧ h'.1 1 1 = 0 := by
  have hq := rq_20 (s := s) (b := b) (n := n)
  obtain ⟨w, h1, r1, e1, O1, L1, A1⟩ := w_E_readRow T R o
  have R1 : RC s c v h1 := R.sr (O1.K (by intro k i hk z; simp at z; rcases z with z | z | z | z | z | z <;> (subst z; cases hk)))
  subst e1
  by_cases c1 : 0 < rq s b n ∧ tS b n (rq s b n) = 0
  · rw [rwV_y c1] at r1
    have hk := g_EKn R1 (x := x) (fun z => hx ⟨c1, z⟩)
    refine ⟨h1, ?_, ?_, O1, L1⟩
    · show Run 4 j_E_round _ _ _ _
      refine Run.of rfl ?_
      refine Wp.norm (L' := [_, _, _, _, _]) rfl ?_
      repeat (first | (refine W1 rfl ?_; try refine Wp.norm (L' := [_, _, _, _, _]) rfl ?_) | ((first | change (_ → _) ∧ (_ → _) | change vp_in _ _ ∧ _ | change ¬ _ ∧ _); simp (disch := omega) only [nI_clamp, nI_leI, nI_ltI, nI_eq, nI_1, nI_add, nI_not_neg, nI_is_pos, nI_m1, nI_z]) | refine brT (by first | assumption | decide | omega) ?_ | refine brF (by first | assumption | decide | omega) ?_ | refine brTn (by first | assumption | decide | omega) ?_ | refine brFn (by first | assumption | decide | omega) ?_ | refine And.intro (vp_in_nI (by omega) (by decide)) ?_ | refine And.intro (vp_lit (by decide)) ?_ | refine divJ (by decide) ?_ | refine divI (by decide) ?_)
      try change _ ∧ _
      refine Cl.of r1 (by decide) ?_
      repeat (first | (refine W1 rfl ?_; try refine Wp.norm (L' := [_, _, _, _, _]) rfl ?_) | ((first | change (_ → _) ∧ (_ → _) | change vp_in _ _ ∧ _ | change ¬ _ ∧ _); simp (disch := omega) only [nI_clamp, nI_leI, nI_ltI, nI_eq, nI_1, nI_add, nI_not_neg, nI_is_pos, nI_m1, nI_z, show (1 : Int32) = nI 1 from rfl]) | refine brT (by first | assumption | decide | omega) ?_ | refine brF (by first | assumption | decide | omega) ?_ | refine brTn (by first | assumption | decide | omega) ?_ | refine brFn (by first | assumption | decide | omega) ?_ | refine And.intro (vp_in_nI (by omega) (by decide)) ?_ | refine And.intro (vp_lit (by decide)) ?_ | refine divJ (by decide) ?_ | refine divI (by decide) ?_)
      try change _ ∧ _
      refine Cl.of hk (by decide) ?_
      repeat (first | (refine W1 rfl ?_; try refine Wp.norm (L' := [_, _, _, _, _]) rfl ?_) | ((first | change (_ → _) ∧ (_ → _) | change vp_in _ _ ∧ _ | change ¬ _ ∧ _); simp (disch := omega) only [nI_clamp, nI_leI, nI_ltI, nI_eq, nI_1, nI_add, nI_not_neg, nI_is_pos, nI_m1, nI_z]) | refine brT (by first | assumption | decide | omega) ?_ | refine brF (by first | assumption | decide | omega) ?_ | refine brTn (by first | assumption | decide | omega) ?_ | refine brFn (by first | assumption | decide | omega) ?_ | refine And.intro (vp_in_nI (by omega) (by decide)) ?_ | refine And.intro (vp_lit (by decide)) ?_ | refine divJ (by decide) ?_ | refine divI (by decide) ?_)
      try change _ ∧ _
      try first | exact ⟨rfl, rfl⟩ | exact ⟨Or.inr rfl, rfl, rfl⟩ | exact ⟨Or.inl rfl, rfl, rfl⟩ | exact ⟨trivial, trivial⟩ | exact ⟨rfl, trivial⟩ | exact ⟨Or.inr rfl, rfl, trivial⟩ | exact ⟨Or.inl rfl, rfl, trivial⟩
    · show Run 4 j_E_block _ _ _ _
      refine Run.of rfl ?_
      refine Wp.norm (L' := [_, _, _, _, _, _, _]) rfl ?_
      repeat (first | (refine W1 rfl ?_; try refine Wp.norm (L' := [_, _, _, _, _, _, _]) rfl ?_) | ((first | change (_ → _) ∧ (_ → _) | change vp_in _ _ ∧ _ | change ¬ _ ∧ _); simp (disch := omega) only [nI_clamp, nI_leI, nI_ltI, nI_eq, nI_1, nI_add, nI_not_neg, nI_is_pos, nI_m1, nI_z]) | refine brT (by first | assumption | decide | omega) ?_ | refine brF (by first | assumption | decide | omega) ?_ | refine brTn (by first | assumption | decide | omega) ?_ | refine brFn (by first | assumption | decide | omega) ?_ | refine And.intro (vp_in_nI (by omega) (by decide)) ?_ | refine And.intro (vp_lit (by decide)) ?_ | refine divJ (by decide) ?_ | refine divI (by decide) ?_)
      try change _ ∧ _
      refine Cl.of r1 (by decide) ?_
      repeat (first | (refine W1 rfl ?_; try refine Wp.norm (L' := [_, _, _, _, _, _, _]) rfl ?_) | ((first | change (_ → _) ∧ (_ → _) | change vp_in _ _ ∧ _ | change ¬ _ ∧ _); simp (disch := omega) only [nI_clamp, nI_leI, nI_ltI, nI_eq, nI_1, nI_add, nI_not_neg, nI_is_pos, nI_m1, nI_z, show (1 : Int32) = nI 1 from rfl]) | refine brT (by first | assumption | decide | omega) ?_ | refine brF (by first | assumption | decide | omega) ?_ | refine brTn (by first | assumption | decide | omega) ?_ | refine brFn (by first | assumption | decide | omega) ?_ | refine And.intro (vp_in_nI (by omega) (by decide)) ?_ | refine And.intro (vp_lit (by decide)) ?_ | refine divJ (by decide) ?_ | refine divI (by decide) ?_)
      try change _ ∧ _
      refine Cl.of hk (by decide) ?_
      repeat (first | (refine W1 rfl ?_; try refine Wp.norm (L' := [_, _, _, _, _, _, _]) rfl ?_) | ((first | change (_ → _) ∧ (_ → _) | change vp_in _ _ ∧ _ | change ¬ _ ∧ _); simp (disch := omega) only [nI_clamp, nI_leI, nI_ltI, nI_eq, nI_1, nI_add, nI_not_neg, nI_is_pos, nI_m1, nI_z]) | refine brT (by first | assumption | decide | omega) ?_ | refine brF (by first | assumption | decide | omega) ?_ | refine brTn (by first | assumption | decide | omega) ?_ | refine brFn (by first | assumption | decide | omega) ?_ | refine And.intro (vp_in_nI (by omega) (by decide)) ?_ | refine And.intro (vp_lit (by decide)) ?_ | refine divJ (by decide) ?_ | refine divI (by decide) ?_)
      try change _ ∧ _
      try first | exact ⟨rfl, rfl⟩ | exact ⟨Or.inr rfl, rfl, rfl⟩ | exact ⟨Or.inl rfl, rfl, rfl⟩ | exact ⟨trivial, trivial⟩ | exact ⟨rfl, trivial⟩ | exact ⟨Or.inr rfl, rfl, trivial⟩ | exact ⟨Or.inl rfl, rfl, trivial⟩
  · rw [rwV_n c1] at r1
    refine ⟨h1, ?_, ?_, O1, L1⟩
    · show Run 4 j_E_round _ _ _ _
      refine Run.of rfl ?_
      refine Wp.norm (L' := [_, _, _, _, _]) rfl ?_
      repeat (first | (refine W1 rfl ?_; try refine Wp.norm (L' := [_, _, _, _, _]) rfl ?_) | ((first | change (_ → _) ∧ (_ → _) | change vp_in _ _ ∧ _ | change ¬ _ ∧ _); simp (disch := omega) only [nI_clamp, nI_leI, nI_ltI, nI_eq, nI_1, nI_add, nI_not_neg, nI_is_pos, nI_m1, nI_z]) | refine brT (by first | assumption | decide | omega) ?_ | refine brF (by first | assumption | decide | omega) ?_ | refine brTn (by first | assumption | decide | omega) ?_ | refine brFn (by first | assumption | decide | omega) ?_ | refine And.intro (vp_in_nI (by omega) (by decide)) ?_ | refine And.intro (vp_lit (by decide)) ?_ | refine divJ (by decide) ?_ | refine divI (by decide) ?_)
      try change _ ∧ _
      refine Cl.of r1 (by decide) ?_
      repeat (first | (refine W1 rfl ?_; try refine Wp.norm (L' := [_, _, _, _, _]) rfl ?_) | ((first | change (_ → _) ∧ (_ → _) | change vp_in _ _ ∧ _ | change ¬ _ ∧ _); simp (disch := omega) only [nI_clamp, nI_leI, nI_ltI, nI_eq, nI_1, nI_add, nI_not_neg, nI_is_pos, nI_m1, nI_z]) | refine brT (by first | assumption | decide | omega) ?_ | refine brF (by first | assumption | decide | omega) ?_ | refine brTn (by first | assumption | decide | omega) ?_ | refine brFn (by first | assumption | decide | omega) ?_ | refine And.intro (vp_in_nI (by omega) (by decide)) ?_ | refine And.intro (vp_lit (by decide)) ?_ | refine divJ (by decide) ?_ | refine divI (by decide) ?_)
      try change _ ∧ _
      try first | exact ⟨rfl, rfl⟩ | exact ⟨Or.inr rfl, rfl, rfl⟩ | exact ⟨Or.inl rfl, rfl, rfl⟩ | exact ⟨trivial, trivial⟩ | exact ⟨rfl, trivial⟩ | exact ⟨Or.inr rfl, rfl, trivial⟩ | exact ⟨Or.inl rfl, rfl, trivial⟩
    · show Run 4 j_E_block _ _ _ _
      refine Run.of rfl ?_
      refine Wp.norm (L' := [_, _, _, _, _, _, _]) rfl ?_
      repeat (first | (refine W1 rfl ?_; try refine Wp.norm (L' := [_, _, _, _, _, _, _]) rfl ?_) | ((first | change (_ → _) ∧ (_ → _) | change vp_in _ _ ∧ _ | change ¬ _ ∧ _); simp (disch := omega) only [nI_clamp, nI_leI, nI_ltI, nI_eq, nI_1, nI_add, nI_not_neg, nI_is_pos, nI_m1, nI_z]) | refine brT (by first | assumption | decide | omega) ?_ | refine brF (by first | assumption | decide | omega) ?_ | refine brTn (by first | assumption | decide | omega) ?_ | refine brFn (by first | assumption | decide | omega) ?_ | refine And.intro (vp_in_nI (by omega) (by decide)) ?_ | refine And.intro (vp_lit (by decide)) ?_ | refine divJ (by decide) ?_ | refine divI (by decide) ?_)
      try change _ ∧ _
      refine Cl.of r1 (by decide) ?_
      repeat (first | (refine W1 rfl ?_; try refine Wp.norm (L' := [_, _, _, _, _, _, _]) rfl ?_) | ((first | change (_ → _) ∧ (_ → _) | change vp_in _ _ ∧ _ | change ¬ _ ∧ _); simp (disch := omega) only [nI_clamp, nI_leI, nI_ltI, nI_eq, nI_1, nI_add, nI_not_neg, nI_is_pos, nI_m1, nI_z]) | refine brT (by first | assumption | decide | omega) ?_ | refine brF (by first | assumption | decide | omega) ?_ | refine brTn (by first | assumption | decide | omega) ?_ | refine brFn (by first | assumption | decide | omega) ?_ | refine And.intro (vp_in_nI (by omega) (by decide)) ?_ | refine And.intro (vp_lit (by decide)) ?_ | refine divJ (by decide) ?_ | refine divI (by decide) ?_)
      try change _ ∧ _
      try first | exact ⟨rfl, rfl⟩ | exact ⟨Or.inr rfl, rfl, rfl⟩ | exact ⟨Or.inl rfl, rfl, rfl⟩ | exact ⟨trivial, trivial⟩ | exact ⟨rfl, trivial⟩ | exact ⟨Or.inr rfl, rfl, trivial⟩ | exact ⟨Or.inl rfl, rfl, trivial⟩
theorem w_E_round (T : TB b n h) (R : RC s c v h) (o : OK s) (hk : k < zK s) (c1 : 0 < rq s b n ∧ tS b n (rq s b n) = 0) : ∃ w h', Run 4 j_E_round [.ref 0, .int (nI k)] h w h' ∧ (w = some (.int (nI (cO s (some k) (zT s)))) ∧ onlyJ [1, 3, 4, 5, 6, 35, 46, 47] [] h h' ∧ h'.1 1 1 = 0 ∧ RC s (cEF s k (rdG s b n) c) (cEF s k (rdG s b n) v) h') := by
  have hT := o.T; have hP := o.P; have hK := o.K; have hD := o.D; have hO := o.O; have hQ := o.Q; have hL := o.L
  have hq := rq_20 (s := s) (b := b) (n := n)
  have hk1 : kOK s (some k) := fun k' e => by cases e; exact hk
  have hc := cO_le s (some k) (zT s)
  obtain ⟨w, h1, r1, e1, O1, L1, A1⟩ := w_E_readRow T R o
  have R1 : RC s c v h1 := R.sr (O1.K (by intro k i hk z; simp at z; rcases z with z | z | z | z | z | z <;> (subst z; cases hk)))
  rw [rwV_y c1] at e1
  subst e1
  obtain ⟨m, hm⟩ : ∃ m, cO s (some k) (zT s) = m := ⟨_, rfl⟩
  rw [hm]
  refine Run.ofP rfl ?_
  refine Wp.norm (L' := [_, _, _, _, _]) rfl ?_
  have lp : ∀ i, i ≤ m → ∀ h', onlyJ [46, 47] [] h1 h' → RC s (cE s k (rdG s b n) i c) (cE s k (rdG s b n) i v) h' → Wp 4 j_E_round 32 [.ref 0, .int (nI k), .int (nI (rq s b n)), .int (nI m), .int (nI i)] [] h' (fun w h' => w = some (.int (nI m)) ∧ onlyJ [1, 3, 4, 5, 6, 35, 46, 47] [] h h' ∧ h'.1 1 1 = 0 ∧ RC s (cEF s k (rdG s b n) c) (cEF s k (rdG s b n) v) h') := by
    refine up_ind ?_ (fun i hi ih => ?_)
    · intro h' O R'
      repeat (first | (refine W1 rfl ?_; try refine Wp.norm (L' := [_, _, _, _, _]) rfl ?_) | ((first | change (_ → _) ∧ (_ → _) | change vp_in _ _ ∧ _ | change ¬ _ ∧ _); simp (disch := omega) only [nI_clamp, nI_leI, nI_ltI, nI_eq, nI_1, nI_add, nI_not_neg, nI_is_pos, nI_m1, nI_z]) | refine brT (by first | assumption | decide | omega) ?_ | refine brF (by first | assumption | decide | omega) ?_ | refine brTn (by first | assumption | decide | omega) ?_ | refine brFn (by first | assumption | decide | omega) ?_ | refine And.intro (vp_in_nI (by omega) (by decide)) ?_ | refine And.intro (vp_lit (by decide)) ?_ | refine divJ (by decide) ?_ | refine divI (by decide) ?_)
      try change _ ∧ _
      refine ⟨rfl, (O1.mono (by intro k hk; simp at hk; rcases hk with hk | hk | hk | hk | hk | hk <;> (subst hk; decide)) (by simp)).trans (O.mono (by intro k hk; simp at hk; rcases hk with hk | hk <;> (subst hk; decide)) (by simp)), by rw [O.1 1 1 (by decide)]; exact L1, R'.cg (fun t ht => by rw [← hm]; exact cE_F o k _ c ht) (fun t ht => by rw [← hm]; exact cE_F o k _ v ht)⟩
    · intro h' O R'
      have hi2 : i < cO s (some k) (zT s) := by omega
      have htl := tA_lt o hi2
      have hml : i % rq s b n < rq s b n := Nat.mod_lt _ c1.1
      have e35 : h'.1 35 (i % rq s b n) = rdG s b n i := by rw [O.1 35 _ (by decide)]; exact A1 _ hml
      have er : nI i - nI i / nI (rq s b n) * nI (rq s b n) = nI (i % rq s b n) := pk_rem (by omega) c1.1 (by omega)
      have ih := ih (layC h' (tA s (some k) i) (rdG s b n i)) ((O.addI (by decide)).addI (by decide)) ((R'.lay _ _).cg (fun t ht => cE_s o _ c hi2 ht) (fun t ht => cE_s o _ v hi2 ht))
      repeat (first | (refine W1 rfl ?_; try refine Wp.norm (L' := [_, _, _, _, _]) rfl ?_) | ((first | change (_ → _) ∧ (_ → _) | change vp_in _ _ ∧ _ | change ¬ _ ∧ _); simp (disch := omega) only [nI_clamp, nI_leI, nI_ltI, nI_eq, nI_1, nI_add, nI_not_neg, nI_is_pos, nI_m1, nI_z]) | refine brT (by first | assumption | decide | omega) ?_ | refine brF (by first | assumption | decide | omega) ?_ | refine brTn (by first | assumption | decide | omega) ?_ | refine brFn (by first | assumption | decide | omega) ?_ | refine And.intro (vp_in_nI (by omega) (by decide)) ?_ | refine And.intro (vp_lit (by decide)) ?_ | refine divJ (by decide) ?_ | refine divI (by decide) ?_)
      try change _ ∧ _
      refine Cl.of (r_Calendar_turnAt (k := some k) R' o hk1 hi2) (by decide) ?_
      repeat (first | (refine W1 rfl ?_; try refine Wp.norm (L' := [_, _, _, _, _]) rfl ?_) | ((first | change (_ → _) ∧ (_ → _) | change vp_in _ _ ∧ _ | change ¬ _ ∧ _); simp (disch := omega) only [nI_clamp, nI_leI, nI_ltI, nI_eq, nI_1, nI_add, nI_not_neg, nI_is_pos, nI_m1, nI_z]) | refine brT (by first | assumption | decide | omega) ?_ | refine brF (by first | assumption | decide | omega) ?_ | refine brTn (by first | assumption | decide | omega) ?_ | refine brFn (by first | assumption | decide | omega) ?_ | refine And.intro (vp_in_nI (by omega) (by decide)) ?_ | refine And.intro (vp_lit (by decide)) ?_ | refine divJ (by decide) ?_ | refine divI (by decide) ?_)
      try change _ ∧ _
      refine ⟨by omega, ?_⟩
      repeat (first | (refine W1 rfl ?_; try refine Wp.norm (L' := [_, _, _, _, _]) rfl ?_) | ((first | change (_ → _) ∧ (_ → _) | change vp_in _ _ ∧ _ | change ¬ _ ∧ _); simp (disch := omega) only [nI_clamp, nI_leI, nI_ltI, nI_eq, nI_1, nI_add, nI_not_neg, nI_is_pos, nI_m1, nI_z, er]) | refine brT (by first | assumption | decide | omega) ?_ | refine brF (by first | assumption | decide | omega) ?_ | refine brTn (by first | assumption | decide | omega) ?_ | refine brFn (by first | assumption | decide | omega) ?_ | refine And.intro (vp_in_nI (by omega) (by decide)) ?_ | refine And.intro (vp_lit (by decide)) ?_ | refine divJ (by decide) ?_ | refine divI (by decide) ?_)
      try change _ ∧ _
      refine Cl.ofA (r_Rota_lay (t := tA s (some k) i) (rdG s b n i) (by omega)) (by first | done | rfl | (simp (disch := omega) only [nI_1, nI_add, nI_clamp, e35] <;> first | done | rfl)) (by decide) ?_
      repeat (first | refine Wp.at ih rfl rfl ?_ rfl | (refine W1 rfl ?_; try refine Wp.norm (L' := [_, _, _, _, _]) rfl ?_) | ((first | change (_ → _) ∧ (_ → _) | change vp_in _ _ ∧ _ | change ¬ _ ∧ _); simp (disch := omega) only [nI_clamp, nI_leI, nI_ltI, nI_eq, nI_1, nI_add, nI_not_neg, nI_is_pos, nI_m1, nI_z]) | refine brT (by first | assumption | decide | omega) ?_ | refine brF (by first | assumption | decide | omega) ?_ | refine brTn (by first | assumption | decide | omega) ?_ | refine brFn (by first | assumption | decide | omega) ?_ | refine And.intro (vp_in_nI (by omega) (by decide)) ?_ | refine And.intro (vp_lit (by decide)) ?_ | refine divJ (by decide) ?_ | refine divI (by decide) ?_)
      try change _ ∧ _
      first | done | rfl | (simp (disch := omega) only [nI_1, nI_add, nI_clamp] <;> first | done | rfl)
  have ih := lp 0 (Nat.zero_le _) h1 (onlyJ.rfl _ _ h1) (by rw [cE_0, cE_0]; exact R1)
  have rc := r_Calendar_countOf (k := some k) R1 o hk1
  rw [hm] at rc
  repeat (first | (refine W1 rfl ?_; try refine Wp.norm (L' := [_, _, _, _, _]) rfl ?_) | ((first | change (_ → _) ∧ (_ → _) | change vp_in _ _ ∧ _ | change ¬ _ ∧ _); simp (disch := omega) only [nI_clamp, nI_leI, nI_ltI, nI_eq, nI_1, nI_add, nI_not_neg, nI_is_pos, nI_m1, nI_z]) | refine brT (by first | assumption | decide | omega) ?_ | refine brF (by first | assumption | decide | omega) ?_ | refine brTn (by first | assumption | decide | omega) ?_ | refine brFn (by first | assumption | decide | omega) ?_ | refine And.intro (vp_in_nI (by omega) (by decide)) ?_ | refine And.intro (vp_lit (by decide)) ?_ | refine divJ (by decide) ?_ | refine divI (by decide) ?_)
  try change _ ∧ _
  refine Cl.of r1 (by decide) ?_
  repeat (first | (refine W1 rfl ?_; try refine Wp.norm (L' := [_, _, _, _, _]) rfl ?_) | ((first | change (_ → _) ∧ (_ → _) | change vp_in _ _ ∧ _ | change ¬ _ ∧ _); simp (disch := omega) only [nI_clamp, nI_leI, nI_ltI, nI_eq, nI_1, nI_add, nI_not_neg, nI_is_pos, nI_m1, nI_z, show (1 : Int32) = nI 1 from rfl]) | refine brT (by first | assumption | decide | omega) ?_ | refine brF (by first | assumption | decide | omega) ?_ | refine brTn (by first | assumption | decide | omega) ?_ | refine brFn (by first | assumption | decide | omega) ?_ | refine And.intro (vp_in_nI (by omega) (by decide)) ?_ | refine And.intro (vp_lit (by decide)) ?_ | refine divJ (by decide) ?_ | refine divI (by decide) ?_)
  try change _ ∧ _
  refine Cl.of (g_EK R1 o hk) (by decide) ?_
  repeat (first | (refine W1 rfl ?_; try refine Wp.norm (L' := [_, _, _, _, _]) rfl ?_) | ((first | change (_ → _) ∧ (_ → _) | change vp_in _ _ ∧ _ | change ¬ _ ∧ _); simp (disch := omega) only [nI_clamp, nI_leI, nI_ltI, nI_eq, nI_1, nI_add, nI_not_neg, nI_is_pos, nI_m1, nI_z]) | refine brT (by first | assumption | decide | omega) ?_ | refine brF (by first | assumption | decide | omega) ?_ | refine brTn (by first | assumption | decide | omega) ?_ | refine brFn (by first | assumption | decide | omega) ?_ | refine And.intro (vp_in_nI (by omega) (by decide)) ?_ | refine And.intro (vp_lit (by decide)) ?_ | refine divJ (by decide) ?_ | refine divI (by decide) ?_)
  try change _ ∧ _
  refine Cl.of rc (by decide) ?_
  repeat (first | refine Wp.at ih rfl rfl ?_ rfl | (refine W1 rfl ?_; try refine Wp.norm (L' := [_, _, _, _, _]) rfl ?_) | ((first | change (_ → _) ∧ (_ → _) | change vp_in _ _ ∧ _ | change ¬ _ ∧ _); simp (disch := omega) only [nI_clamp, nI_leI, nI_ltI, nI_eq, nI_1, nI_add, nI_not_neg, nI_is_pos, nI_m1, nI_z]) | refine brT (by first | assumption | decide | omega) ?_ | refine brF (by first | assumption | decide | omega) ?_ | refine brTn (by first | assumption | decide | omega) ?_ | refine brFn (by first | assumption | decide | omega) ?_ | refine And.intro (vp_in_nI (by omega) (by decide)) ?_ | refine And.intro (vp_lit (by decide)) ?_ | refine divJ (by decide) ?_ | refine divI (by decide) ?_)
  try change _ ∧ _
  first | done | rfl | (simp (disch := omega) only [nI_1, nI_add, nI_clamp] <;> first | done | rfl)
theorem w_E_block (T : TB b n h) (R : RC s c v h) (o : OK s) (hk : k < zK s) (c1 : 0 < rq s b n ∧ tS b n (rq s b n) = 0) : ∃ w h', Run 4 j_E_block [.ref 0, .int (nI k)] h w h' ∧ (w = some (.int (nI (cO s (some k) (zT s)))) ∧ onlyJ [1, 3, 4, 5, 6, 35, 46, 47] [] h h' ∧ h'.1 1 1 = 0 ∧ RC s (cEF s k (bkG s b n k) c) (cEF s k (bkG s b n k) v) h') := by
  have hT := o.T; have hP := o.P; have hK := o.K; have hD := o.D; have hO := o.O; have hQ := o.Q; have hL := o.L
  have hq := rq_20 (s := s) (b := b) (n := n)
  have hk1 : kOK s (some k) := fun k' e => by cases e; exact hk
  have hc := cO_le s (some k) (zT s)
  obtain ⟨w, h1, r1, e1, O1, L1, A1⟩ := w_E_readRow T R o
  have R1 : RC s c v h1 := R.sr (O1.K (by intro k i hk z; simp at z; rcases z with z | z | z | z | z | z <;> (subst z; cases hk)))
  rw [rwV_y c1] at e1
  subst e1
  obtain ⟨m, hm⟩ : ∃ m, cO s (some k) (zT s) = m := ⟨_, rfl⟩
  rw [hm]
  refine Run.ofP rfl ?_
  refine Wp.norm (L' := [_, _, _, _, _, _, _]) rfl ?_
  have lp : ∀ i, i ≤ m → ∀ h' x5 x6, onlyJ [46, 47] [] h1 h' → RC s (cE s k (bkG s b n k) i c) (cE s k (bkG s b n k) i v) h' → Wp 4 j_E_block 32 [.ref 0, .int (nI k), .int (nI (rq s b n)), .int (nI m), .int (nI i), x5, x6] [] h' (fun w h' => w = some (.int (nI m)) ∧ onlyJ [1, 3, 4, 5, 6, 35, 46, 47] [] h h' ∧ h'.1 1 1 = 0 ∧ RC s (cEF s k (bkG s b n k) c) (cEF s k (bkG s b n k) v) h') := by
    refine up_ind ?_ (fun i hi ih => ?_)
    · intro h' x5 x6 O R'
      repeat (first | (refine W1 rfl ?_; try refine Wp.norm (L' := [_, _, _, _, _, _, _]) rfl ?_) | ((first | change (_ → _) ∧ (_ → _) | change vp_in _ _ ∧ _ | change ¬ _ ∧ _); simp (disch := omega) only [nI_clamp, nI_leI, nI_ltI, nI_eq, nI_1, nI_add, nI_not_neg, nI_is_pos, nI_m1, nI_z]) | refine brT (by first | assumption | decide | omega) ?_ | refine brF (by first | assumption | decide | omega) ?_ | refine brTn (by first | assumption | decide | omega) ?_ | refine brFn (by first | assumption | decide | omega) ?_ | refine And.intro (vp_in_nI (by omega) (by decide)) ?_ | refine And.intro (vp_lit (by decide)) ?_ | refine divJ (by decide) ?_ | refine divI (by decide) ?_)
      try change _ ∧ _
      refine ⟨rfl, (O1.mono (by intro k hk; simp at hk; rcases hk with hk | hk | hk | hk | hk | hk <;> (subst hk; decide)) (by simp)).trans (O.mono (by intro k hk; simp at hk; rcases hk with hk | hk <;> (subst hk; decide)) (by simp)), by rw [O.1 1 1 (by decide)]; exact L1, R'.cg (fun t ht => by rw [← hm]; exact cE_F o k _ c ht) (fun t ht => by rw [← hm]; exact cE_F o k _ v ht)⟩
    · intro h' x5 x6 O R'
      have hi2 : i < cO s (some k) (zT s) := by omega
      have htl := tA_lt o hi2
      have hdy := o.day htl
      have edy := R'.day htl
      obtain ⟨wk, hwk⟩ : ∃ wk, tD s (tA s (some k) i) / 7 = wk := ⟨_, rfl⟩
      have hwl : wk < 200 := by omega
      have hml : wk % rq s b n < rq s b n := Nat.mod_lt _ c1.1
      have e35 : h'.1 35 (wk % rq s b n) = bkG s b n k i := by rw [O.1 35 _ (by decide)]; unfold bkG; rw [hwk]; exact A1 _ hml
      have ed : nI (tD s (tA s (some k) i)) / 7 = nI wk := by rw [show (7 : Int32) = nI 7 from rfl, pk_div (by omega) (by decide) (by decide), hwk]
      have er : nI wk - nI wk / nI (rq s b n) * nI (rq s b n) = nI (wk % rq s b n) := pk_rem (by omega) c1.1 (by omega)
      generalize htt : tA s (some k) i = tt at *
      have ih := ih (layC h' tt (bkG s b n k i)) (.int (nI tt)) (.int (nI wk)) ((O.addI (by decide)).addI (by decide)) ((R'.lay _ _).cg (fun t ht => by rw [← htt]; exact cE_s o _ c hi2 ht) (fun t ht => by rw [← htt]; exact cE_s o _ v hi2 ht))
      have rt := r_Calendar_turnAt (k := some k) R' o hk1 hi2
      rw [htt] at rt
      repeat (first | (refine W1 rfl ?_; try refine Wp.norm (L' := [_, _, _, _, _, _, _]) rfl ?_) | ((first | change (_ → _) ∧ (_ → _) | change vp_in _ _ ∧ _ | change ¬ _ ∧ _); simp (disch := omega) only [nI_clamp, nI_leI, nI_ltI, nI_eq, nI_1, nI_add, nI_not_neg, nI_is_pos, nI_m1, nI_z]) | refine brT (by first | assumption | decide | omega) ?_ | refine brF (by first | assumption | decide | omega) ?_ | refine brTn (by first | assumption | decide | omega) ?_ | refine brFn (by first | assumption | decide | omega) ?_ | refine And.intro (vp_in_nI (by omega) (by decide)) ?_ | refine And.intro (vp_lit (by decide)) ?_ | refine divJ (by decide) ?_ | refine divI (by decide) ?_)
      try change _ ∧ _
      refine Cl.of rt (by decide) ?_
      repeat (first | (refine W1 rfl ?_; try refine Wp.norm (L' := [_, _, _, _, _, _, _]) rfl ?_) | ((first | change (_ → _) ∧ (_ → _) | change vp_in _ _ ∧ _ | change ¬ _ ∧ _); simp (disch := omega) only [nI_clamp, nI_leI, nI_ltI, nI_eq, nI_1, nI_add, nI_not_neg, nI_is_pos, nI_m1, nI_z]) | refine brT (by first | assumption | decide | omega) ?_ | refine brF (by first | assumption | decide | omega) ?_ | refine brTn (by first | assumption | decide | omega) ?_ | refine brFn (by first | assumption | decide | omega) ?_ | refine And.intro (vp_in_nI (by omega) (by decide)) ?_ | refine And.intro (vp_lit (by decide)) ?_ | refine divJ (by decide) ?_ | refine divI (by decide) ?_)
      try change _ ∧ _
      refine ⟨by omega, ?_⟩
      simp (disch := omega) only [nI_clamp, edy, ed]
      repeat (first | (refine W1 rfl ?_; try refine Wp.norm (L' := [_, _, _, _, _, _, _]) rfl ?_) | ((first | change (_ → _) ∧ (_ → _) | change vp_in _ _ ∧ _ | change ¬ _ ∧ _); simp (disch := omega) only [nI_clamp, nI_leI, nI_ltI, nI_eq, nI_1, nI_add, nI_not_neg, nI_is_pos, nI_m1, nI_z, er]) | refine brT (by first | assumption | decide | omega) ?_ | refine brF (by first | assumption | decide | omega) ?_ | refine brTn (by first | assumption | decide | omega) ?_ | refine brFn (by first | assumption | decide | omega) ?_ | refine And.intro (vp_in_nI (by omega) (by decide)) ?_ | refine And.intro (vp_lit (by decide)) ?_ | refine divJ (by decide) ?_ | refine divI (by decide) ?_)
      try change _ ∧ _
      refine Cl.ofA (r_Rota_lay (t := tt) (bkG s b n k i) (by omega)) (by first | done | rfl | (simp (disch := omega) only [nI_1, nI_add, nI_clamp, e35] <;> first | done | rfl)) (by decide) ?_
      repeat (first | refine Wp.at ih rfl rfl ?_ rfl | (refine W1 rfl ?_; try refine Wp.norm (L' := [_, _, _, _, _, _, _]) rfl ?_) | ((first | change (_ → _) ∧ (_ → _) | change vp_in _ _ ∧ _ | change ¬ _ ∧ _); simp (disch := omega) only [nI_clamp, nI_leI, nI_ltI, nI_eq, nI_1, nI_add, nI_not_neg, nI_is_pos, nI_m1, nI_z]) | refine brT (by first | assumption | decide | omega) ?_ | refine brF (by first | assumption | decide | omega) ?_ | refine brTn (by first | assumption | decide | omega) ?_ | refine brFn (by first | assumption | decide | omega) ?_ | refine And.intro (vp_in_nI (by omega) (by decide)) ?_ | refine And.intro (vp_lit (by decide)) ?_ | refine divJ (by decide) ?_ | refine divI (by decide) ?_)
      try change _ ∧ _
      first | done | rfl | (simp (disch := omega) only [nI_1, nI_add, nI_clamp] <;> first | done | rfl)
  have ih := lp 0 (Nat.zero_le _) h1 .null .null (onlyJ.rfl _ _ h1) (by rw [cE_0, cE_0]; exact R1)
  have rc := r_Calendar_countOf (k := some k) R1 o hk1
  rw [hm] at rc
  repeat (first | (refine W1 rfl ?_; try refine Wp.norm (L' := [_, _, _, _, _, _, _]) rfl ?_) | ((first | change (_ → _) ∧ (_ → _) | change vp_in _ _ ∧ _ | change ¬ _ ∧ _); simp (disch := omega) only [nI_clamp, nI_leI, nI_ltI, nI_eq, nI_1, nI_add, nI_not_neg, nI_is_pos, nI_m1, nI_z]) | refine brT (by first | assumption | decide | omega) ?_ | refine brF (by first | assumption | decide | omega) ?_ | refine brTn (by first | assumption | decide | omega) ?_ | refine brFn (by first | assumption | decide | omega) ?_ | refine And.intro (vp_in_nI (by omega) (by decide)) ?_ | refine And.intro (vp_lit (by decide)) ?_ | refine divJ (by decide) ?_ | refine divI (by decide) ?_)
  try change _ ∧ _
  refine Cl.of r1 (by decide) ?_
  repeat (first | (refine W1 rfl ?_; try refine Wp.norm (L' := [_, _, _, _, _, _, _]) rfl ?_) | ((first | change (_ → _) ∧ (_ → _) | change vp_in _ _ ∧ _ | change ¬ _ ∧ _); simp (disch := omega) only [nI_clamp, nI_leI, nI_ltI, nI_eq, nI_1, nI_add, nI_not_neg, nI_is_pos, nI_m1, nI_z, show (1 : Int32) = nI 1 from rfl]) | refine brT (by first | assumption | decide | omega) ?_ | refine brF (by first | assumption | decide | omega) ?_ | refine brTn (by first | assumption | decide | omega) ?_ | refine brFn (by first | assumption | decide | omega) ?_ | refine And.intro (vp_in_nI (by omega) (by decide)) ?_ | refine And.intro (vp_lit (by decide)) ?_ | refine divJ (by decide) ?_ | refine divI (by decide) ?_)
  try change _ ∧ _
  refine Cl.of (g_EK R1 o hk) (by decide) ?_
  repeat (first | (refine W1 rfl ?_; try refine Wp.norm (L' := [_, _, _, _, _, _, _]) rfl ?_) | ((first | change (_ → _) ∧ (_ → _) | change vp_in _ _ ∧ _ | change ¬ _ ∧ _); simp (disch := omega) only [nI_clamp, nI_leI, nI_ltI, nI_eq, nI_1, nI_add, nI_not_neg, nI_is_pos, nI_m1, nI_z]) | refine brT (by first | assumption | decide | omega) ?_ | refine brF (by first | assumption | decide | omega) ?_ | refine brTn (by first | assumption | decide | omega) ?_ | refine brFn (by first | assumption | decide | omega) ?_ | refine And.intro (vp_in_nI (by omega) (by decide)) ?_ | refine And.intro (vp_lit (by decide)) ?_ | refine divJ (by decide) ?_ | refine divI (by decide) ?_)
  try change _ ∧ _
  refine Cl.of rc (by decide) ?_
  repeat (first | refine Wp.at ih rfl rfl ?_ rfl | (refine W1 rfl ?_; try refine Wp.norm (L' := [_, _, _, _, _, _, _]) rfl ?_) | ((first | change (_ → _) ∧ (_ → _) | change vp_in _ _ ∧ _ | change ¬ _ ∧ _); simp (disch := omega) only [nI_clamp, nI_leI, nI_ltI, nI_eq, nI_1, nI_add, nI_not_neg, nI_is_pos, nI_m1, nI_z]) | refine brT (by first | assumption | decide | omega) ?_ | refine brF (by first | assumption | decide | omega) ?_ | refine brTn (by first | assumption | decide | omega) ?_ | refine brFn (by first | assumption | decide | omega) ?_ | refine And.intro (vp_in_nI (by omega) (by decide)) ?_ | refine And.intro (vp_lit (by decide)) ?_ | refine divJ (by decide) ?_ | refine divI (by decide) ?_)
  try change _ ∧ _
  first | done | rfl | (simp (disch := omega) only [nI_1, nI_add, nI_clamp] <;> first | done | rfl)
end ROWC2
