/-! ===== ROUND AND BLOCK: the clauses, both sides ===== -/
section ROWY
variable {s : ST} {c v : RT} {b : Nat → Nat} {n : Nat} {h : HP}
theorem w_laysRowN (R : RM s c v h) (o : OK s) (bw : Bool) {x : Int32} (hn : n ≤ 900) (hl1 : h.1 65 1 = nI n) (hb : ∀ k, k < n → h.1 66 k = nI (b k) ∧ b k < 256) (hx : ¬ ((0 < rq s b n ∧ tS b n (rq s b n) = 0) ∧ (0 ≤ x ∧ x < nI (zK s)))) : ∃ h', Run 3 j_M_laysRow [.ref 65, .int x, .int (bI bw)] h (some (.int (-1))) h' ∧ rwF h h' ∧ h'.1 65 1 = 0 := by
  obtain ⟨w, h1, r1, e1, F1, L1, A1⟩ := w_takesRow R o hn hl1 hb
  have R1 := F1.M R
  subst e1
  by_cases c1 : 0 < rq s b n ∧ tS b n (rq s b n) = 0
  · rw [decide_eq_true c1, bI_t] at r1
    have hk := g_MKn R1 o (x := x) (fun z => hx ⟨c1, z⟩)
    refine ⟨h1, ?_, F1, L1⟩
    show Run 3 j_M_laysRow _ _ _ _
    refine Run.of rfl ?_
    refine Wp.norm (L' := [_, _, _, _, _]) rfl ?_
    repeat (first | (refine W1 rfl ?_; try refine Wp.norm (L' := [_, _, _, _, _]) rfl ?_) | ((first | change (_ → _) ∧ (_ → _) | change vp_in _ _ ∧ _ | change ¬ _ ∧ _); simp (disch := omega) only [nI_clamp, nI_leI, nI_ltI, nI_eq, nI_1, nI_add, nI_not_neg, nI_is_pos, nI_m1, nI_z]) | refine brT (by first | assumption | decide | omega) ?_ | refine brF (by first | assumption | decide | omega) ?_ | refine brTn (by first | assumption | decide | omega) ?_ | refine brFn (by first | assumption | decide | omega) ?_ | refine And.intro (vp_in_nI (by omega) (by decide)) ?_ | refine And.intro (vp_lit (by decide)) ?_ | refine divJ (by decide) ?_ | refine divI (by decide) ?_)
    try change _ ∧ _
    refine Cl.of r1 (by decide) ?_
    repeat (first | (refine W1 rfl ?_; try refine Wp.norm (L' := [_, _, _, _, _]) rfl ?_) | ((first | change (_ → _) ∧ (_ → _) | change vp_in _ _ ∧ _ | change ¬ _ ∧ _); simp (disch := omega) only [nI_clamp, nI_leI, nI_ltI, nI_eq, nI_1, nI_add, nI_not_neg, nI_is_pos, nI_m1, nI_z]) | refine brT (by first | assumption | decide | omega) ?_ | refine brF (by first | assumption | decide | omega) ?_ | refine brTn (by first | assumption | decide | omega) ?_ | refine brFn (by first | assumption | decide | omega) ?_ | refine And.intro (vp_in_nI (by omega) (by decide)) ?_ | refine And.intro (vp_lit (by decide)) ?_ | refine divJ (by decide) ?_ | refine divI (by decide) ?_)
    try change _ ∧ _
    refine Cl.of hk (by decide) ?_
    repeat (first | (refine W1 rfl ?_; try refine Wp.norm (L' := [_, _, _, _, _]) rfl ?_) | ((first | change (_ → _) ∧ (_ → _) | change vp_in _ _ ∧ _ | change ¬ _ ∧ _); simp (disch := omega) only [nI_clamp, nI_leI, nI_ltI, nI_eq, nI_1, nI_add, nI_not_neg, nI_is_pos, nI_m1, nI_z]) | refine brT (by first | assumption | decide | omega) ?_ | refine brF (by first | assumption | decide | omega) ?_ | refine brTn (by first | assumption | decide | omega) ?_ | refine brFn (by first | assumption | decide | omega) ?_ | refine And.intro (vp_in_nI (by omega) (by decide)) ?_ | refine And.intro (vp_lit (by decide)) ?_ | refine divJ (by decide) ?_ | refine divI (by decide) ?_)
    try change _ ∧ _
    try first | exact ⟨rfl, rfl⟩ | exact ⟨Or.inr rfl, rfl, rfl⟩ | exact ⟨Or.inl rfl, rfl, rfl⟩ | exact ⟨trivial, trivial⟩ | exact ⟨rfl, trivial⟩ | exact ⟨Or.inr rfl, rfl, trivial⟩ | exact ⟨Or.inl rfl, rfl, trivial⟩
  · rw [decide_eq_false c1, bI_f] at r1
    refine ⟨h1, ?_, F1, L1⟩
    show Run 3 j_M_laysRow _ _ _ _
    refine Run.of rfl ?_
    refine Wp.norm (L' := [_, _, _, _, _]) rfl ?_
    repeat (first | (refine W1 rfl ?_; try refine Wp.norm (L' := [_, _, _, _, _]) rfl ?_) | ((first | change (_ → _) ∧ (_ → _) | change vp_in _ _ ∧ _ | change ¬ _ ∧ _); simp (disch := omega) only [nI_clamp, nI_leI, nI_ltI, nI_eq, nI_1, nI_add, nI_not_neg, nI_is_pos, nI_m1, nI_z]) | refine brT (by first | assumption | decide | omega) ?_ | refine brF (by first | assumption | decide | omega) ?_ | refine brTn (by first | assumption | decide | omega) ?_ | refine brFn (by first | assumption | decide | omega) ?_ | refine And.intro (vp_in_nI (by omega) (by decide)) ?_ | refine And.intro (vp_lit (by decide)) ?_ | refine divJ (by decide) ?_ | refine divI (by decide) ?_)
    try change _ ∧ _
    refine Cl.of r1 (by decide) ?_
    repeat (first | (refine W1 rfl ?_; try refine Wp.norm (L' := [_, _, _, _, _]) rfl ?_) | ((first | change (_ → _) ∧ (_ → _) | change vp_in _ _ ∧ _ | change ¬ _ ∧ _); simp (disch := omega) only [nI_clamp, nI_leI, nI_ltI, nI_eq, nI_1, nI_add, nI_not_neg, nI_is_pos, nI_m1, nI_z]) | refine brT (by first | assumption | decide | omega) ?_ | refine brF (by first | assumption | decide | omega) ?_ | refine brTn (by first | assumption | decide | omega) ?_ | refine brFn (by first | assumption | decide | omega) ?_ | refine And.intro (vp_in_nI (by omega) (by decide)) ?_ | refine And.intro (vp_lit (by decide)) ?_ | refine divJ (by decide) ?_ | refine divI (by decide) ?_)
    try change _ ∧ _
    try first | exact ⟨rfl, rfl⟩ | exact ⟨Or.inr rfl, rfl, rfl⟩ | exact ⟨Or.inl rfl, rfl, rfl⟩ | exact ⟨trivial, trivial⟩ | exact ⟨rfl, trivial⟩ | exact ⟨Or.inr rfl, rfl, trivial⟩ | exact ⟨Or.inl rfl, rfl, trivial⟩
theorem r_M_round {x y : Int32} {h' : HP} (r : Run 3 j_M_laysRow [.ref 65, .int x, .int (bI false)] h (some (.int y)) h') : Run 4 j_M_round [.ref 65, .int x] h (some (.int y)) h' := by
  show Run 4 j_M_round _ _ _ _
  refine Run.of rfl ?_
  refine Wp.norm (L' := [_, _]) rfl ?_
  repeat (first | (refine W1 rfl ?_; try refine Wp.norm (L' := [_, _]) rfl ?_) | ((first | change (_ → _) ∧ (_ → _) | change vp_in _ _ ∧ _ | change ¬ _ ∧ _); simp (disch := omega) only [nI_clamp, nI_leI, nI_ltI, nI_eq, nI_1, nI_add, nI_not_neg, nI_is_pos, nI_m1, nI_z]) | refine brT (by first | assumption | decide | omega) ?_ | refine brF (by first | assumption | decide | omega) ?_ | refine brTn (by first | assumption | decide | omega) ?_ | refine brFn (by first | assumption | decide | omega) ?_ | refine And.intro (vp_in_nI (by omega) (by decide)) ?_ | refine And.intro (vp_lit (by decide)) ?_ | refine divJ (by decide) ?_ | refine divI (by decide) ?_)
  try change _ ∧ _
  refine Cl.of r (by decide) ?_
  repeat (first | (refine W1 rfl ?_; try refine Wp.norm (L' := [_, _]) rfl ?_) | ((first | change (_ → _) ∧ (_ → _) | change vp_in _ _ ∧ _ | change ¬ _ ∧ _); simp (disch := omega) only [nI_clamp, nI_leI, nI_ltI, nI_eq, nI_1, nI_add, nI_not_neg, nI_is_pos, nI_m1, nI_z]) | refine brT (by first | assumption | decide | omega) ?_ | refine brF (by first | assumption | decide | omega) ?_ | refine brTn (by first | assumption | decide | omega) ?_ | refine brFn (by first | assumption | decide | omega) ?_ | refine And.intro (vp_in_nI (by omega) (by decide)) ?_ | refine And.intro (vp_lit (by decide)) ?_ | refine divJ (by decide) ?_ | refine divI (by decide) ?_)
  try change _ ∧ _
  try first | exact ⟨rfl, rfl⟩ | exact ⟨Or.inr rfl, rfl, rfl⟩ | exact ⟨Or.inl rfl, rfl, rfl⟩ | exact ⟨trivial, trivial⟩ | exact ⟨rfl, trivial⟩ | exact ⟨Or.inr rfl, rfl, trivial⟩ | exact ⟨Or.inl rfl, rfl, trivial⟩
theorem r_M_block {x y : Int32} {h' : HP} (r : Run 3 j_M_laysRow [.ref 65, .int x, .int (bI true)] h (some (.int y)) h') : Run 4 j_M_block [.ref 65, .int x] h (some (.int y)) h' := by
  show Run 4 j_M_block _ _ _ _
  refine Run.of rfl ?_
  refine Wp.norm (L' := [_, _]) rfl ?_
  repeat (first | (refine W1 rfl ?_; try refine Wp.norm (L' := [_, _]) rfl ?_) | ((first | change (_ → _) ∧ (_ → _) | change vp_in _ _ ∧ _ | change ¬ _ ∧ _); simp (disch := omega) only [nI_clamp, nI_leI, nI_ltI, nI_eq, nI_1, nI_add, nI_not_neg, nI_is_pos, nI_m1, nI_z]) | refine brT (by first | assumption | decide | omega) ?_ | refine brF (by first | assumption | decide | omega) ?_ | refine brTn (by first | assumption | decide | omega) ?_ | refine brFn (by first | assumption | decide | omega) ?_ | refine And.intro (vp_in_nI (by omega) (by decide)) ?_ | refine And.intro (vp_lit (by decide)) ?_ | refine divJ (by decide) ?_ | refine divI (by decide) ?_)
  try change _ ∧ _
  refine Cl.of r (by decide) ?_
  repeat (first | (refine W1 rfl ?_; try refine Wp.norm (L' := [_, _]) rfl ?_) | ((first | change (_ → _) ∧ (_ → _) | change vp_in _ _ ∧ _ | change ¬ _ ∧ _); simp (disch := omega) only [nI_clamp, nI_leI, nI_ltI, nI_eq, nI_1, nI_add, nI_not_neg, nI_is_pos, nI_m1, nI_z]) | refine brT (by first | assumption | decide | omega) ?_ | refine brF (by first | assumption | decide | omega) ?_ | refine brTn (by first | assumption | decide | omega) ?_ | refine brFn (by first | assumption | decide | omega) ?_ | refine And.intro (vp_in_nI (by omega) (by decide)) ?_ | refine And.intro (vp_lit (by decide)) ?_ | refine divJ (by decide) ?_ | refine divI (by decide) ?_)
  try change _ ∧ _
  try first | exact ⟨rfl, rfl⟩ | exact ⟨Or.inr rfl, rfl, rfl⟩ | exact ⟨Or.inl rfl, rfl, rfl⟩ | exact ⟨trivial, trivial⟩ | exact ⟨rfl, trivial⟩ | exact ⟨Or.inr rfl, rfl, trivial⟩ | exact ⟨Or.inl rfl, rfl, trivial⟩
theorem TP.tb (t : TP h) : ∃ n b, TB b n h ∧ n ≤ 900 ∧ h.1 65 1 = nI n ∧ (∀ k, k < n → h.1 66 k = nI (b k) ∧ b k < 256) := by
  obtain ⟨n, h1, h2, h3, h4⟩ := t
  have hb : ∀ k, ∃ q, k < n → h.1 66 k = nI q ∧ q < 256 := fun k => by
    by_cases hk : k < n
    · obtain ⟨q, z1, z2⟩ := (h4 k hk).2
      exact ⟨q, fun _ => ⟨z2, z1⟩⟩
    · exact ⟨0, fun z => absurd z hk⟩
  refine ⟨n, fun k => Classical.choose (hb k), ⟨h1, h2, fun k hk => ?_⟩, h1, h3, fun k hk => Classical.choose_spec (hb k) hk⟩
  rw [(h4 k hk).1]
  exact Classical.choose_spec (hb k) hk
theorem rwF.SK {h' : HP} (F : rwF h h') {K : Nat → Nat → Bool} (hK : ∀ k i, K k i = true → k ≠ 114 ∧ (k = 65 → ¬ i ∈ [1, 2, 3, 4, 5, 6, 30, 66])) : SameK K h h' := fun k i hk => by
  by_cases e : k = 65
  · subst e; exact F.2 i ((hK 65 i hk).2 (Eq.refl _))
  · exact F.1.1 k i (by simp; exact ⟨e, (hK k i hk).1⟩)
theorem kRC_x : ∀ k i, kRC k i = true → k ≠ 114 ∧ (k = 65 → ¬ i ∈ [1, 2, 3, 4, 5, 6, 30, 66]) := fun k i hk => ⟨fun e => by (subst e; cases hk), fun e => by subst e; cases hk⟩
theorem kSM_x : ∀ k i, kSM k i = true → k ≠ 114 ∧ (k = 65 → ¬ i ∈ [1, 2, 3, 4, 5, 6, 30, 66]) := fun k i hk => ⟨fun e => by (subst e; cases hk), fun e => by subst e; intro z; simp at z; rcases z with z | z | z | z | z | z | z | z <;> (subst z; cases hk)⟩
theorem TP.z (h1 : h.1 1 1 = 0) (h2 : h.1 65 1 = 0) : TP h := ⟨0, by decide, h1, h2, fun i hi => absurd hi (by omega)⟩
theorem rbG_ok (bw : Bool) {k : Nat} (c1 : 0 < rq s b n) (i : Nat) : pOK s (rbG bw s b n k i) := by
  unfold rbG bkG rdG
  cases bw with
  | true => rw [if_pos rfl]; exact Or.inr ⟨_, (rq_in (Nat.mod_lt _ c1)).2, rfl⟩
  | false => rw [if_neg (by decide)]; exact Or.inr ⟨_, (rq_in (Nat.mod_lt _ c1)).2, rfl⟩
/-- both calls at once -/
theorem rb_all (bw : Bool) (x : Int32) (I : Inv h) : ∃ (y : Int32) (h1 h2 : HP), Run 4 (if bw = true then j_E_block else j_E_round) [.ref 0, .int x] h (some (.int y)) h1 ∧ Run 3 j_M_laysRow [.ref 65, .int x, .int (bI bw)] h1 (some (.int y)) h2 ∧ Inv h2 := by
  obtain ⟨t, m, s, c, v, R, M, o, ro⟩ := id I
  have hT := o.T; have hP := o.P; have hK := o.K; have hD := o.D; have hO := o.O; have hQ := o.Q; have hL := o.L
  obtain ⟨n, b, T, hn, hl1, hb⟩ := t.tb
  by_cases hg : (0 < rq s b n ∧ tS b n (rq s b n) = 0) ∧ (0 ≤ x ∧ x < nI (zK s))
  · obtain ⟨c1, hx⟩ := hg
    obtain ⟨k, hk, rfl⟩ := (ix_cases x (n := zK s) (by omega)).resolve_right (fun z => z hx)
    have E : ∃ w h', Run 4 (if bw = true then j_E_block else j_E_round) [.ref 0, .int (nI k)] h w h' ∧ (w = some (.int (nI (cO s (some k) (zT s)))) ∧ onlyJ [1, 3, 4, 5, 6, 35, 46, 47] [] h h' ∧ h'.1 1 1 = 0 ∧ RC s (cEF s k (rbG bw s b n k) c) (cEF s k (rbG bw s b n k) v) h') := by
      cases bw with
      | true => exact w_E_block T R o hk c1
      | false => exact w_E_round T R o hk c1
    obtain ⟨w, h1, r1, rfl, O1, L1, R1⟩ := E
    have M1 : RM s c v h1 := M.sr (O1.K (by intro k i hk z; simp at z; rcases z with z | z | z | z | z | z | z | z <;> (subst z; cases hk))) (fun k i _ => O1.2 k i (by simp))
    have X1 : SMX h1 := m.sr (O1.K (by intro k i hk z; simp at z; rcases z with z | z | z | z | z | z | z | z <;> (subst z; cases hk)))
    obtain ⟨w, h2, r2, rfl, ⟨h3, F3, L3, O3⟩, M2⟩ := w_laysRow M1 o bw hk hn (by rw [O1.1 65 1 (by decide)]; exact hl1) (fun k hk => by rw [O1.1 66 k (by decide)]; exact hb k hk) c1
    refine ⟨_, h1, h2, r1, r2, TP.z ?_ ?_, (X1.sr (F3.SK kSM_x)).sr (O3.K (by intro k i hk z; simp at z; rcases z with z | z <;> (subst z; cases hk))), s, _, _, (R1.sr (F3.SK kRC_x)).sr (O3.K (by intro k i hk z; simp at z; rcases z with z | z <;> (subst z; cases hk))), M2, o, ro.cEf o (fun i _ => rbG_ok bw c1.1 i)⟩
    · rw [O3.1 1 1 (by decide), F3.1.1 1 1 (by decide)]; exact L1
    · rw [O3.1 65 1 (by decide)]; exact L3
  · have E : ∃ h', Run 4 (if bw = true then j_E_block else j_E_round) [.ref 0, .int x] h (some (.int (-1))) h' ∧ onlyJ [1, 3, 4, 5, 6, 35] [] h h' ∧ h'.1 1 1 = 0 := by
      obtain ⟨h', r1, r2, O, L⟩ := w_E_rowN T R o hg
      cases bw with
      | true => exact ⟨h', r2, O, L⟩
      | false => exact ⟨h', r1, O, L⟩
    obtain ⟨h1, r1, O1, L1⟩ := E
    have M1 : RM s c v h1 := M.sr (O1.K (by intro k i hk z; simp at z; rcases z with z | z | z | z | z | z <;> (subst z; cases hk))) (fun k i _ => O1.2 k i (by simp))
    have X1 : SMX h1 := m.sr (O1.K (by intro k i hk z; simp at z; rcases z with z | z | z | z | z | z <;> (subst z; cases hk)))
    have R1 : RC s c v h1 := R.sr (O1.K (by intro k i hk z; simp at z; rcases z with z | z | z | z | z | z <;> (subst z; cases hk)))
    obtain ⟨h2, r2, F2, L2⟩ := w_laysRowN M1 o bw hn (by rw [O1.1 65 1 (by decide)]; exact hl1) (fun k hk => by rw [O1.1 66 k (by decide)]; exact hb k hk) hg
    refine ⟨_, h1, h2, r1, r2, TP.z ?_ L2, X1.sr (F2.SK kSM_x), s, c, v, R1.sr (F2.SK kRC_x), F2.M M1, o, ro⟩
    rw [F2.1.1 1 1 (by decide)]; exact L1
end ROWY
theorem o_round : op_18 Inv := fun x h I => by
  obtain ⟨y, h1, h2, r1, r2, I2⟩ := rb_all false x I
  exact ⟨y, h1, h2, Run.d (d := 4) r1, (r_M_round r2).d, I2⟩
theorem o_block : op_19 Inv := fun x h I => by
  obtain ⟨y, h1, h2, r1, r2, I2⟩ := rb_all true x I
  exact ⟨y, h1, h2, Run.d (d := 4) r1, (r_M_block r2).d, I2⟩
