/-! ===== CLAUSES: due, level, gap, has, may ===== -/
theorem vp_lit {i : Int32} {n : Nat} (h : ¬ i < 0 ∧ i.toNatClampNeg < n) : vp_in i n := fun z => z.elim h.1 (fun q => absurd h.2 (Nat.not_lt.mpr q))
section OPS1
variable {s : ST} {c v : RT} {h : HP} {k : Option Nat}
theorem r_E_due (R : RC s c v h) (o : OK s) {p t : Nat} (hp : p < zP s) (ht : t < zT s) : Run 1 j_E_due [.ref 0, .int (nI p), .int (nI t)] h (some (.int (nI (dueN s p t)))) h := by
  refine Run.of rfl ?_
  refine Wp.norm (L' := [_, _, _]) rfl ?_
  repeat (first | (refine W1 rfl ?_; try refine Wp.norm (L' := [_, _, _]) rfl ?_) | refine brT (by first | decide | omega) ?_ | refine brF (by first | decide | omega) ?_ | refine brTn (by first | decide | omega) ?_ | refine brFn (by first | decide | omega) ?_ | refine And.intro (vp_lit (by decide)) ?_ | refine And.intro (vp_in_nI (by omega) (by decide)) ?_ | (change _ ∧ _; simp (disch := omega) only [nI_clamp, nI_leI, nI_ltI, nI_eq, nI_1, nI_add, nI_not_neg, nI_is_pos, nI_m1, nI_z]))
  try change _ ∧ _
  refine Cl.of (g_EP R o hp) (by decide) ?_
  repeat (first | (refine W1 rfl ?_; try refine Wp.norm (L' := [_, _, _]) rfl ?_) | refine brT (by first | decide | omega) ?_ | refine brF (by first | decide | omega) ?_ | refine brTn (by first | decide | omega) ?_ | refine brFn (by first | decide | omega) ?_ | refine And.intro (vp_lit (by decide)) ?_ | refine And.intro (vp_in_nI (by omega) (by decide)) ?_ | (change _ ∧ _; simp (disch := omega) only [nI_clamp, nI_leI, nI_ltI, nI_eq, nI_1, nI_add, nI_not_neg, nI_is_pos, nI_m1, nI_z]))
  try change _ ∧ _
  refine Cl.of (g_ET R o ht) (by decide) ?_
  repeat (first | (refine W1 rfl ?_; try refine Wp.norm (L' := [_, _, _]) rfl ?_) | refine brT (by first | decide | omega) ?_ | refine brF (by first | decide | omega) ?_ | refine brTn (by first | decide | omega) ?_ | refine brFn (by first | decide | omega) ?_ | refine And.intro (vp_lit (by decide)) ?_ | refine And.intro (vp_in_nI (by omega) (by decide)) ?_ | (change _ ∧ _; simp (disch := omega) only [nI_clamp, nI_leI, nI_ltI, nI_eq, nI_1, nI_add, nI_not_neg, nI_is_pos, nI_m1, nI_z]))
  try change _ ∧ _
  refine Cl.of (r_Calendar_dueOf R o hp ht) (by decide) ?_
  repeat (first | (refine W1 rfl ?_; try refine Wp.norm (L' := [_, _, _]) rfl ?_) | refine brT (by first | decide | omega) ?_ | refine brF (by first | decide | omega) ?_ | refine brTn (by first | decide | omega) ?_ | refine brFn (by first | decide | omega) ?_ | refine And.intro (vp_lit (by decide)) ?_ | refine And.intro (vp_in_nI (by omega) (by decide)) ?_ | (change _ ∧ _; simp (disch := omega) only [nI_clamp, nI_leI, nI_ltI, nI_eq, nI_1, nI_add, nI_not_neg, nI_is_pos, nI_m1, nI_z]))
  try change _ ∧ _
  try first | exact ⟨rfl, rfl⟩ | exact ⟨Or.inr rfl, rfl, rfl⟩ | exact ⟨Or.inl rfl, rfl, rfl⟩ | exact ⟨trivial, trivial⟩ | exact ⟨rfl, trivial⟩ | exact ⟨Or.inr rfl, rfl, trivial⟩ | exact ⟨Or.inl rfl, rfl, trivial⟩
theorem r_E_dueN (R : RC s c v h) (o : OK s) {x y : Int32} (hb : ¬ (0 ≤ x ∧ x < nI (zP s)) ∨ ¬ (0 ≤ y ∧ y < nI (zT s))) : Run 1 j_E_due [.ref 0, .int x, .int y] h (some (.int (-1))) h := by
  have hT := o.T; have hP := o.P; have hK := o.K; have hD := o.D; have hO := o.O; have hQ := o.Q; have hL := o.L
  refine Run.of rfl ?_
  refine Wp.norm (L' := [_, _, _]) rfl ?_
  repeat (first | (refine W1 rfl ?_; try refine Wp.norm (L' := [_, _, _]) rfl ?_) | refine brT (by first | decide | omega) ?_ | refine brF (by first | decide | omega) ?_ | refine brTn (by first | decide | omega) ?_ | refine brFn (by first | decide | omega) ?_ | refine And.intro (vp_lit (by decide)) ?_ | refine And.intro (vp_in_nI (by omega) (by decide)) ?_ | (change _ ∧ _; simp (disch := omega) only [nI_clamp, nI_leI, nI_ltI, nI_eq, nI_1, nI_add, nI_not_neg, nI_is_pos, nI_m1, nI_z]))
  try change _ ∧ _
  rcases ix_cases x (n := zP s) (by omega) with ⟨p, hp, rfl⟩ | hx
  · refine Cl.of (g_EP R o hp) (by decide) ?_
    repeat (first | (refine W1 rfl ?_; try refine Wp.norm (L' := [_, _, _]) rfl ?_) | refine brT (by first | decide | omega) ?_ | refine brF (by first | decide | omega) ?_ | refine brTn (by first | decide | omega) ?_ | refine brFn (by first | decide | omega) ?_ | refine And.intro (vp_lit (by decide)) ?_ | refine And.intro (vp_in_nI (by omega) (by decide)) ?_ | (change _ ∧ _; simp (disch := omega) only [nI_clamp, nI_leI, nI_ltI, nI_eq, nI_1, nI_add, nI_not_neg, nI_is_pos, nI_m1, nI_z]))
    try change _ ∧ _
    refine Cl.of (g_ETn R (hb.resolve_left (fun z => z (ix_ok hp (by omega))))) (by decide) ?_
    repeat (first | (refine W1 rfl ?_; try refine Wp.norm (L' := [_, _, _]) rfl ?_) | refine brT (by first | decide | omega) ?_ | refine brF (by first | decide | omega) ?_ | refine brTn (by first | decide | omega) ?_ | refine brFn (by first | decide | omega) ?_ | refine And.intro (vp_lit (by decide)) ?_ | refine And.intro (vp_in_nI (by omega) (by decide)) ?_ | (change _ ∧ _; simp (disch := omega) only [nI_clamp, nI_leI, nI_ltI, nI_eq, nI_1, nI_add, nI_not_neg, nI_is_pos, nI_m1, nI_z]))
    try change _ ∧ _
    try first | exact ⟨rfl, rfl⟩ | exact ⟨Or.inr rfl, rfl, rfl⟩ | exact ⟨Or.inl rfl, rfl, rfl⟩ | exact ⟨trivial, trivial⟩ | exact ⟨rfl, trivial⟩ | exact ⟨Or.inr rfl, rfl, trivial⟩ | exact ⟨Or.inl rfl, rfl, trivial⟩
  · refine Cl.of (g_EPn R hx) (by decide) ?_
    repeat (first | (refine W1 rfl ?_; try refine Wp.norm (L' := [_, _, _]) rfl ?_) | refine brT (by first | decide | omega) ?_ | refine brF (by first | decide | omega) ?_ | refine brTn (by first | decide | omega) ?_ | refine brFn (by first | decide | omega) ?_ | refine And.intro (vp_lit (by decide)) ?_ | refine And.intro (vp_in_nI (by omega) (by decide)) ?_ | (change _ ∧ _; simp (disch := omega) only [nI_clamp, nI_leI, nI_ltI, nI_eq, nI_1, nI_add, nI_not_neg, nI_is_pos, nI_m1, nI_z]))
    try change _ ∧ _
    try first | exact ⟨rfl, rfl⟩ | exact ⟨Or.inr rfl, rfl, rfl⟩ | exact ⟨Or.inl rfl, rfl, rfl⟩ | exact ⟨trivial, trivial⟩ | exact ⟨rfl, trivial⟩ | exact ⟨Or.inr rfl, rfl, trivial⟩ | exact ⟨Or.inl rfl, rfl, trivial⟩
theorem r_M_due (R : RM s c v h) (o : OK s) {p t : Nat} (hp : p < zP s) (ht : t < zT s) : Run 2 j_M_due [.ref 65, .int (nI p), .int (nI t)] h (some (.int (nI (dueN s p t)))) h := by
  refine Run.of rfl ?_
  refine Wp.norm (L' := [_, _, _]) rfl ?_
  repeat (first | (refine W1 rfl ?_; try refine Wp.norm (L' := [_, _, _]) rfl ?_) | refine brT (by first | decide | omega) ?_ | refine brF (by first | decide | omega) ?_ | refine brTn (by first | decide | omega) ?_ | refine brFn (by first | decide | omega) ?_ | refine And.intro (vp_lit (by decide)) ?_ | refine And.intro (vp_in_nI (by omega) (by decide)) ?_ | (change _ ∧ _; simp (disch := omega) only [nI_clamp, nI_leI, nI_ltI, nI_eq, nI_1, nI_add, nI_not_neg, nI_is_pos, nI_m1, nI_z]))
  try change _ ∧ _
  refine Cl.of (g_MP R o hp) (by decide) ?_
  repeat (first | (refine W1 rfl ?_; try refine Wp.norm (L' := [_, _, _]) rfl ?_) | refine brT (by first | decide | omega) ?_ | refine brF (by first | decide | omega) ?_ | refine brTn (by first | decide | omega) ?_ | refine brFn (by first | decide | omega) ?_ | refine And.intro (vp_lit (by decide)) ?_ | refine And.intro (vp_in_nI (by omega) (by decide)) ?_ | (change _ ∧ _; simp (disch := omega) only [nI_clamp, nI_leI, nI_ltI, nI_eq, nI_1, nI_add, nI_not_neg, nI_is_pos, nI_m1, nI_z]))
  try change _ ∧ _
  refine Cl.of (g_MT R o ht) (by decide) ?_
  repeat (first | (refine W1 rfl ?_; try refine Wp.norm (L' := [_, _, _]) rfl ?_) | refine brT (by first | decide | omega) ?_ | refine brF (by first | decide | omega) ?_ | refine brTn (by first | decide | omega) ?_ | refine brFn (by first | decide | omega) ?_ | refine And.intro (vp_lit (by decide)) ?_ | refine And.intro (vp_in_nI (by omega) (by decide)) ?_ | (change _ ∧ _; simp (disch := omega) only [nI_clamp, nI_leI, nI_ltI, nI_eq, nI_1, nI_add, nI_not_neg, nI_is_pos, nI_m1, nI_z]))
  try change _ ∧ _
  refine Cl.of (r_M_dueOf R o hp ht) (by decide) ?_
  repeat (first | (refine W1 rfl ?_; try refine Wp.norm (L' := [_, _, _]) rfl ?_) | refine brT (by first | decide | omega) ?_ | refine brF (by first | decide | omega) ?_ | refine brTn (by first | decide | omega) ?_ | refine brFn (by first | decide | omega) ?_ | refine And.intro (vp_lit (by decide)) ?_ | refine And.intro (vp_in_nI (by omega) (by decide)) ?_ | (change _ ∧ _; simp (disch := omega) only [nI_clamp, nI_leI, nI_ltI, nI_eq, nI_1, nI_add, nI_not_neg, nI_is_pos, nI_m1, nI_z]))
  try change _ ∧ _
  try first | exact ⟨rfl, rfl⟩ | exact ⟨Or.inr rfl, rfl, rfl⟩ | exact ⟨Or.inl rfl, rfl, rfl⟩ | exact ⟨trivial, trivial⟩ | exact ⟨rfl, trivial⟩ | exact ⟨Or.inr rfl, rfl, trivial⟩ | exact ⟨Or.inl rfl, rfl, trivial⟩
theorem r_M_dueN (R : RM s c v h) (o : OK s) {x y : Int32} (hb : ¬ (0 ≤ x ∧ x < nI (zP s)) ∨ ¬ (0 ≤ y ∧ y < nI (zT s))) : Run 2 j_M_due [.ref 65, .int x, .int y] h (some (.int (-1))) h := by
  have hT := o.T; have hP := o.P; have hK := o.K; have hD := o.D; have hO := o.O; have hQ := o.Q; have hL := o.L
  refine Run.of rfl ?_
  refine Wp.norm (L' := [_, _, _]) rfl ?_
  repeat (first | (refine W1 rfl ?_; try refine Wp.norm (L' := [_, _, _]) rfl ?_) | refine brT (by first | decide | omega) ?_ | refine brF (by first | decide | omega) ?_ | refine brTn (by first | decide | omega) ?_ | refine brFn (by first | decide | omega) ?_ | refine And.intro (vp_lit (by decide)) ?_ | refine And.intro (vp_in_nI (by omega) (by decide)) ?_ | (change _ ∧ _; simp (disch := omega) only [nI_clamp, nI_leI, nI_ltI, nI_eq, nI_1, nI_add, nI_not_neg, nI_is_pos, nI_m1, nI_z]))
  try change _ ∧ _
  rcases ix_cases x (n := zP s) (by omega) with ⟨p, hp, rfl⟩ | hx
  · refine Cl.of (g_MP R o hp) (by decide) ?_
    repeat (first | (refine W1 rfl ?_; try refine Wp.norm (L' := [_, _, _]) rfl ?_) | refine brT (by first | decide | omega) ?_ | refine brF (by first | decide | omega) ?_ | refine brTn (by first | decide | omega) ?_ | refine brFn (by first | decide | omega) ?_ | refine And.intro (vp_lit (by decide)) ?_ | refine And.intro (vp_in_nI (by omega) (by decide)) ?_ | (change _ ∧ _; simp (disch := omega) only [nI_clamp, nI_leI, nI_ltI, nI_eq, nI_1, nI_add, nI_not_neg, nI_is_pos, nI_m1, nI_z]))
    try change _ ∧ _
    refine Cl.of (g_MTn R o (hb.resolve_left (fun z => z (ix_ok hp (by omega))))) (by decide) ?_
    repeat (first | (refine W1 rfl ?_; try refine Wp.norm (L' := [_, _, _]) rfl ?_) | refine brT (by first | decide | omega) ?_ | refine brF (by first | decide | omega) ?_ | refine brTn (by first | decide | omega) ?_ | refine brFn (by first | decide | omega) ?_ | refine And.intro (vp_lit (by decide)) ?_ | refine And.intro (vp_in_nI (by omega) (by decide)) ?_ | (change _ ∧ _; simp (disch := omega) only [nI_clamp, nI_leI, nI_ltI, nI_eq, nI_1, nI_add, nI_not_neg, nI_is_pos, nI_m1, nI_z]))
    try change _ ∧ _
    try first | exact ⟨rfl, rfl⟩ | exact ⟨Or.inr rfl, rfl, rfl⟩ | exact ⟨Or.inl rfl, rfl, rfl⟩ | exact ⟨trivial, trivial⟩ | exact ⟨rfl, trivial⟩ | exact ⟨Or.inr rfl, rfl, trivial⟩ | exact ⟨Or.inl rfl, rfl, trivial⟩
  · refine Cl.of (g_MPn R o hx) (by decide) ?_
    repeat (first | (refine W1 rfl ?_; try refine Wp.norm (L' := [_, _, _]) rfl ?_) | refine brT (by first | decide | omega) ?_ | refine brF (by first | decide | omega) ?_ | refine brTn (by first | decide | omega) ?_ | refine brFn (by first | decide | omega) ?_ | refine And.intro (vp_lit (by decide)) ?_ | refine And.intro (vp_in_nI (by omega) (by decide)) ?_ | (change _ ∧ _; simp (disch := omega) only [nI_clamp, nI_leI, nI_ltI, nI_eq, nI_1, nI_add, nI_not_neg, nI_is_pos, nI_m1, nI_z]))
    try change _ ∧ _
    try first | exact ⟨rfl, rfl⟩ | exact ⟨Or.inr rfl, rfl, rfl⟩ | exact ⟨Or.inl rfl, rfl, rfl⟩ | exact ⟨trivial, trivial⟩ | exact ⟨rfl, trivial⟩ | exact ⟨Or.inr rfl, rfl, trivial⟩ | exact ⟨Or.inl rfl, rfl, trivial⟩
theorem two_ix (x y : Int32) {a b : Nat} (ha : a < 2 ^ 31) (hb : b < 2 ^ 31) : (∃ p t, p < a ∧ t < b ∧ x = nI p ∧ y = nI t) ∨ (¬ (0 ≤ x ∧ x < nI a) ∨ ¬ (0 ≤ y ∧ y < nI b)) := by
  rcases ix_cases x ha with ⟨p, hp, rfl⟩ | hx
  · rcases ix_cases y hb with ⟨t, ht, rfl⟩ | hy
    · exact Or.inl ⟨p, t, hp, ht, rfl, rfl⟩
    · exact Or.inr (Or.inr hy)
  · exact Or.inr (Or.inl hx)
theorem o_due : op_8 Inv := fun x y => op_ro fun _ _ R M o _ => by
  rcases two_ix x y (a := zP _) (b := zT _) (Nat.lt_of_le_of_lt o.P (by decide)) (Nat.lt_of_le_of_lt o.T (by decide)) with ⟨p, t, hp, ht, rfl, rfl⟩ | hb
  · exact ⟨_, (r_E_due R o hp ht).d, (r_M_due M o hp ht).d⟩
  · exact ⟨_, (r_E_dueN R o hb).d, (r_M_dueN M o hb).d⟩
/-! has -/
theorem r_Rota_countOpen (R : RC s c v h) (o : OK s) : Run 0 j_Rota_countOpen [.ref 45] h (some (.int (nI (cnt (fun t => c t = -1) (zT s))))) h := by
  have hT := o.T; have hP := o.P; have hK := o.K; have hD := o.D; have hO := o.O; have hQ := o.Q; have hL := o.L
  refine Run.of rfl ?_
  refine Wp.norm (L' := [_, _, _]) rfl ?_
  iterate 4 (refine W1 rfl ?_; try refine Wp.norm (L' := [_, _, _]) rfl ?_)
  refine Wp.at (up_ind (n := zT s) (P := fun i => Wp 0 j_Rota_countOpen 4 [.ref 45, .int (nI (cnt (fun t => c t = -1) i)), .int (nI i)] [] h _) ?_ (fun i hi ih => ?_) 0 (Nat.zero_le _)) rfl rfl rfl rfl
  · repeat (first | (refine W1 rfl ?_; try refine Wp.norm (L' := [_, _, _]) rfl ?_) | refine brT (by first | decide | omega) ?_ | refine brF (by first | decide | omega) ?_ | refine brTn (by first | decide | omega) ?_ | refine brFn (by first | decide | omega) ?_ | refine And.intro (vp_lit (by decide)) ?_ | refine And.intro (vp_in_nI (by omega) (by decide)) ?_ | (change _ ∧ _; simp (disch := omega) only [nI_clamp, nI_leI, nI_ltI, nI_eq, nI_1, nI_add, nI_not_neg, nI_is_pos, nI_m1, nI_z, R.T]))
    try change _ ∧ _
    try first | exact ⟨rfl, rfl⟩ | exact ⟨Or.inr rfl, rfl, rfl⟩ | exact ⟨Or.inl rfl, rfl, rfl⟩ | exact ⟨trivial, trivial⟩ | exact ⟨rfl, trivial⟩ | exact ⟨Or.inr rfl, rfl, trivial⟩ | exact ⟨Or.inl rfl, rfl, trivial⟩
  · rw [cnt] at ih
    repeat (first | (refine W1 rfl ?_; try refine Wp.norm (L' := [_, _, _]) rfl ?_) | refine brT (by first | decide | omega) ?_ | refine brF (by first | decide | omega) ?_ | refine brTn (by first | decide | omega) ?_ | refine brFn (by first | decide | omega) ?_ | refine And.intro (vp_lit (by decide)) ?_ | refine And.intro (vp_in_nI (by omega) (by decide)) ?_ | (change _ ∧ _; simp (disch := omega) only [nI_clamp, nI_leI, nI_ltI, nI_eq, nI_1, nI_add, nI_not_neg, nI_is_pos, nI_m1, nI_z, R.T, R.cts]))
    try change _ ∧ _
    refine ⟨fun hc => ?_, fun hc => ?_⟩
    · rw [if_neg hc] at ih
      repeat (first | refine Wp.at ih rfl rfl ?_ rfl | (refine W1 rfl ?_; try refine Wp.norm (L' := [_, _, _]) rfl ?_) | refine brT (by first | decide | omega) ?_ | refine brF (by first | decide | omega) ?_ | refine brTn (by first | decide | omega) ?_ | refine brFn (by first | decide | omega) ?_ | refine And.intro (vp_lit (by decide)) ?_ | refine And.intro (vp_in_nI (by omega) (by decide)) ?_ | (change _ ∧ _; simp (disch := omega) only [nI_clamp, nI_leI, nI_ltI, nI_eq, nI_1, nI_add, nI_not_neg, nI_is_pos, nI_m1, nI_z]))
      try change _ ∧ _
      rw [nI_1]
      rfl
    · rw [if_pos hc] at ih
      repeat (first | refine Wp.at ih rfl rfl ?_ rfl | (refine W1 rfl ?_; try refine Wp.norm (L' := [_, _, _]) rfl ?_) | refine brT (by first | decide | omega) ?_ | refine brF (by first | decide | omega) ?_ | refine brTn (by first | decide | omega) ?_ | refine brFn (by first | decide | omega) ?_ | refine And.intro (vp_lit (by decide)) ?_ | refine And.intro (vp_in_nI (by omega) (by decide)) ?_ | (change _ ∧ _; simp (disch := omega) only [nI_clamp, nI_leI, nI_ltI, nI_eq, nI_1, nI_add, nI_not_neg, nI_is_pos, nI_m1, nI_z]))
      try change _ ∧ _
      rw [nI_1, nI_1]
theorem r_M_shares (R : RM s c v h) (o : OK s) : Run 0 j_M_shares [.ref 65, .int 1] h (some (.int (nI (zQ s)))) h := by
  have hT := o.T; have hP := o.P; have hK := o.K; have hD := o.D; have hO := o.O; have hQ := o.Q; have hL := o.L
  have hq : ∀ i, i ≤ zP s → sm (pS s) i ≤ 16 := fun i hi => by have := sm_mono (pS s) hi; have := o.prt; omega
  refine Run.of rfl ?_
  refine Wp.norm (L' := [_, _, _, _]) rfl ?_
  iterate 4 (refine W1 rfl ?_; try refine Wp.norm (L' := [_, _, _, _]) rfl ?_)
  refine Wp.at (up_ind (n := zP s) (P := fun i => Wp 0 j_M_shares 4 [.ref 65, .int 1, .int (nI (sm (pS s) i)), .int (nI i)] [] h _) ?_ (fun i hi ih => ?_) 0 (Nat.zero_le _)) rfl rfl rfl rfl
  · repeat (first | (refine W1 rfl ?_; try refine Wp.norm (L' := [_, _, _, _]) rfl ?_) | refine brT (by first | decide | omega) ?_ | refine brF (by first | decide | omega) ?_ | refine brTn (by first | decide | omega) ?_ | refine brFn (by first | decide | omega) ?_ | refine And.intro (vp_lit (by decide)) ?_ | refine And.intro (vp_in_nI (by omega) (by decide)) ?_ | (change _ ∧ _; simp (disch := omega) only [nI_clamp, nI_leI, nI_ltI, nI_eq, nI_1, nI_add, nI_not_neg, nI_is_pos, nI_m1, nI_z, show Int32.toNatClampNeg 1 = 1 from rfl, R.P]))
    try change _ ∧ _
    rw [o.prt]
    try first | exact ⟨rfl, rfl⟩ | exact ⟨Or.inr rfl, rfl, rfl⟩ | exact ⟨Or.inl rfl, rfl, rfl⟩ | exact ⟨trivial, trivial⟩ | exact ⟨rfl, trivial⟩ | exact ⟨Or.inr rfl, rfl, trivial⟩ | exact ⟨Or.inl rfl, rfl, trivial⟩
  · rw [sm] at ih
    have := hq i (by omega)
    (refine W1 rfl ?_; try refine Wp.norm (L' := [_, _, _, _]) rfl ?_)
    repeat (first | refine Wp.at ih rfl rfl ?_ rfl | (refine W1 rfl ?_; try refine Wp.norm (L' := [_, _, _, _]) rfl ?_) | refine brT (by first | decide | omega) ?_ | refine brF (by first | decide | omega) ?_ | refine brTn (by first | decide | omega) ?_ | refine brFn (by first | decide | omega) ?_ | refine And.intro (vp_lit (by decide)) ?_ | refine And.intro (vp_in_nI (by omega) (by decide)) ?_ | (change _ ∧ _; simp (disch := omega) only [nI_clamp, nI_leI, nI_ltI, nI_eq, nI_1, nI_add, nI_not_neg, nI_is_pos, nI_m1, nI_z, show Int32.toNatClampNeg 1 = 1 from rfl, R.P, show (16 : Int32) * 1 = nI 16 from rfl, R.shr]))
    try change _ ∧ _
    first | rfl | (simp (disch := omega) only [nI_1, nI_add, nI_clamp] <;> first | done | rfl)
theorem r_E_has (R : RC s c v h) (o : OK s) (x : Int32) : Run 1 j_E_has [.ref 0, .int x] h (some (.int (if x = 0 then nI (zD s) else if x = 1 then nI (zP s) else if x = 2 then nI (zK s) else if x = 3 then nI (zT s) else if x = 4 then nI (zQ s) else if x = 5 then nI (cnt (fun t => c t = -1) (zT s)) else -1))) h := by
  have hT := o.T; have hP := o.P; have hK := o.K; have hD := o.D; have hO := o.O; have hQ := o.Q; have hL := o.L
  refine Run.of rfl ?_
  refine Wp.norm (L' := [_, _]) rfl ?_
  repeat (first | (refine W1 rfl ?_; try refine Wp.norm (L' := [_, _]) rfl ?_) | refine brT (by first | decide | omega) ?_ | refine brF (by first | decide | omega) ?_ | refine brTn (by first | decide | omega) ?_ | refine brFn (by first | decide | omega) ?_ | refine And.intro (vp_lit (by decide)) ?_ | refine And.intro (vp_in_nI (by omega) (by decide)) ?_ | (change _ ∧ _; simp (disch := omega) only [nI_clamp, nI_leI, nI_ltI, nI_eq, nI_1, nI_add, nI_not_neg, nI_is_pos, nI_m1, nI_z]))
  try change _ ∧ _
  rcases ix_cases x (n := 6) (by decide) with ⟨j, hj, rfl⟩ | hx
  · match j, hj with
    | 0, _ =>
      refine ⟨fun z => absurd z (by decide), fun _ _ => ?_⟩
      repeat (first | (refine W1 rfl ?_; try refine Wp.norm (L' := [_, _]) rfl ?_) | refine brT (by first | decide | omega) ?_ | refine brF (by first | decide | omega) ?_ | refine brTn (by first | decide | omega) ?_ | refine brFn (by first | decide | omega) ?_ | refine And.intro (vp_lit (by decide)) ?_ | refine And.intro (vp_in_nI (by omega) (by decide)) ?_ | (change _ ∧ _; simp (disch := omega) only [nI_clamp, nI_leI, nI_ltI, nI_eq, nI_1, nI_add, nI_not_neg, nI_is_pos, nI_m1, nI_z, R.dys]))
      try change _ ∧ _
      try first | exact ⟨rfl, rfl⟩ | exact ⟨Or.inr rfl, rfl, rfl⟩ | exact ⟨Or.inl rfl, rfl, rfl⟩ | exact ⟨trivial, trivial⟩ | exact ⟨rfl, trivial⟩ | exact ⟨Or.inr rfl, rfl, trivial⟩ | exact ⟨Or.inl rfl, rfl, trivial⟩
    | 1, _ =>
      refine ⟨fun z => absurd z (by decide), fun _ _ => ?_⟩
      repeat (first | (refine W1 rfl ?_; try refine Wp.norm (L' := [_, _]) rfl ?_) | refine brT (by first | decide | omega) ?_ | refine brF (by first | decide | omega) ?_ | refine brTn (by first | decide | omega) ?_ | refine brFn (by first | decide | omega) ?_ | refine And.intro (vp_lit (by decide)) ?_ | refine And.intro (vp_in_nI (by omega) (by decide)) ?_ | (change _ ∧ _; simp (disch := omega) only [nI_clamp, nI_leI, nI_ltI, nI_eq, nI_1, nI_add, nI_not_neg, nI_is_pos, nI_m1, nI_z, R.P]))
      try change _ ∧ _
      try first | exact ⟨rfl, rfl⟩ | exact ⟨Or.inr rfl, rfl, rfl⟩ | exact ⟨Or.inl rfl, rfl, rfl⟩ | exact ⟨trivial, trivial⟩ | exact ⟨rfl, trivial⟩ | exact ⟨Or.inr rfl, rfl, trivial⟩ | exact ⟨Or.inl rfl, rfl, trivial⟩
    | 2, _ =>
      refine ⟨fun z => absurd z (by decide), fun _ _ => ?_⟩
      repeat (first | (refine W1 rfl ?_; try refine Wp.norm (L' := [_, _]) rfl ?_) | refine brT (by first | decide | omega) ?_ | refine brF (by first | decide | omega) ?_ | refine brTn (by first | decide | omega) ?_ | refine brFn (by first | decide | omega) ?_ | refine And.intro (vp_lit (by decide)) ?_ | refine And.intro (vp_in_nI (by omega) (by decide)) ?_ | (change _ ∧ _; simp (disch := omega) only [nI_clamp, nI_leI, nI_ltI, nI_eq, nI_1, nI_add, nI_not_neg, nI_is_pos, nI_m1, nI_z, R.K]))
      try change _ ∧ _
      try first | exact ⟨rfl, rfl⟩ | exact ⟨Or.inr rfl, rfl, rfl⟩ | exact ⟨Or.inl rfl, rfl, rfl⟩ | exact ⟨trivial, trivial⟩ | exact ⟨rfl, trivial⟩ | exact ⟨Or.inr rfl, rfl, trivial⟩ | exact ⟨Or.inl rfl, rfl, trivial⟩
    | 3, _ =>
      refine ⟨fun z => absurd z (by decide), fun _ _ => ?_⟩
      repeat (first | (refine W1 rfl ?_; try refine Wp.norm (L' := [_, _]) rfl ?_) | refine brT (by first | decide | omega) ?_ | refine brF (by first | decide | omega) ?_ | refine brTn (by first | decide | omega) ?_ | refine brFn (by first | decide | omega) ?_ | refine And.intro (vp_lit (by decide)) ?_ | refine And.intro (vp_in_nI (by omega) (by decide)) ?_ | (change _ ∧ _; simp (disch := omega) only [nI_clamp, nI_leI, nI_ltI, nI_eq, nI_1, nI_add, nI_not_neg, nI_is_pos, nI_m1, nI_z, R.T]))
      try change _ ∧ _
      try first | exact ⟨rfl, rfl⟩ | exact ⟨Or.inr rfl, rfl, rfl⟩ | exact ⟨Or.inl rfl, rfl, rfl⟩ | exact ⟨trivial, trivial⟩ | exact ⟨rfl, trivial⟩ | exact ⟨Or.inr rfl, rfl, trivial⟩ | exact ⟨Or.inl rfl, rfl, trivial⟩
    | 4, _ =>
      refine ⟨fun z => absurd z (by decide), fun _ _ => ?_⟩
      repeat (first | (refine W1 rfl ?_; try refine Wp.norm (L' := [_, _]) rfl ?_) | refine brT (by first | decide | omega) ?_ | refine brF (by first | decide | omega) ?_ | refine brTn (by first | decide | omega) ?_ | refine brFn (by first | decide | omega) ?_ | refine And.intro (vp_lit (by decide)) ?_ | refine And.intro (vp_in_nI (by omega) (by decide)) ?_ | (change _ ∧ _; simp (disch := omega) only [nI_clamp, nI_leI, nI_ltI, nI_eq, nI_1, nI_add, nI_not_neg, nI_is_pos, nI_m1, nI_z, R.prt]))
      try change _ ∧ _
      try first | exact ⟨rfl, rfl⟩ | exact ⟨Or.inr rfl, rfl, rfl⟩ | exact ⟨Or.inl rfl, rfl, rfl⟩ | exact ⟨trivial, trivial⟩ | exact ⟨rfl, trivial⟩ | exact ⟨Or.inr rfl, rfl, trivial⟩ | exact ⟨Or.inl rfl, rfl, trivial⟩
    | 5, _ =>
      refine ⟨fun z => absurd z (by decide), fun _ _ => ?_⟩
      repeat (first | (refine W1 rfl ?_; try refine Wp.norm (L' := [_, _]) rfl ?_) | refine brT (by first | decide | omega) ?_ | refine brF (by first | decide | omega) ?_ | refine brTn (by first | decide | omega) ?_ | refine brFn (by first | decide | omega) ?_ | refine And.intro (vp_lit (by decide)) ?_ | refine And.intro (vp_in_nI (by omega) (by decide)) ?_ | (change _ ∧ _; simp (disch := omega) only [nI_clamp, nI_leI, nI_ltI, nI_eq, nI_1, nI_add, nI_not_neg, nI_is_pos, nI_m1, nI_z]))
      try change _ ∧ _
      refine Cl.of (r_Rota_countOpen R o) (by decide) ?_
      repeat (first | (refine W1 rfl ?_; try refine Wp.norm (L' := [_, _]) rfl ?_) | refine brT (by first | decide | omega) ?_ | refine brF (by first | decide | omega) ?_ | refine brTn (by first | decide | omega) ?_ | refine brFn (by first | decide | omega) ?_ | refine And.intro (vp_lit (by decide)) ?_ | refine And.intro (vp_in_nI (by omega) (by decide)) ?_ | (change _ ∧ _; simp (disch := omega) only [nI_clamp, nI_leI, nI_ltI, nI_eq, nI_1, nI_add, nI_not_neg, nI_is_pos, nI_m1, nI_z]))
      try change _ ∧ _
      try first | exact ⟨rfl, rfl⟩ | exact ⟨Or.inr rfl, rfl, rfl⟩ | exact ⟨Or.inl rfl, rfl, rfl⟩ | exact ⟨trivial, trivial⟩ | exact ⟨rfl, trivial⟩ | exact ⟨Or.inr rfl, rfl, trivial⟩ | exact ⟨Or.inl rfl, rfl, trivial⟩
  · have hx' : x.toInt < 0 ∨ 5 < x.toInt := by
      rw [Int32.le_iff_toInt_le, Int32.lt_iff_toInt_lt, show (nI 6).toInt = 6 from rfl, Int32.toInt_zero] at hx
      omega
    refine ⟨fun _ => ?_, fun z1 z2 => absurd hx' (fun q => q.elim z1 z2)⟩
    repeat (first | (refine W1 rfl ?_; try refine Wp.norm (L' := [_, _]) rfl ?_) | refine brT (by first | decide | omega) ?_ | refine brF (by first | decide | omega) ?_ | refine brTn (by first | decide | omega) ?_ | refine brFn (by first | decide | omega) ?_ | refine And.intro (vp_lit (by decide)) ?_ | refine And.intro (vp_in_nI (by omega) (by decide)) ?_ | (change _ ∧ _; simp (disch := omega) only [nI_clamp, nI_leI, nI_ltI, nI_eq, nI_1, nI_add, nI_not_neg, nI_is_pos, nI_m1, nI_z]))
    try change _ ∧ _
    have hn : ∀ m, m < 6 → x ≠ nI m := fun m hm e => hx (by rw [e]; exact ix_ok hm (by decide))
    rw [if_neg (show ¬ x = 0 from hn 0 (by decide)), if_neg (show ¬ x = 1 from hn 1 (by decide)), if_neg (show ¬ x = 2 from hn 2 (by decide)), if_neg (show ¬ x = 3 from hn 3 (by decide)), if_neg (show ¬ x = 4 from hn 4 (by decide)), if_neg (show ¬ x = 5 from hn 5 (by decide))]
    try first | exact ⟨rfl, rfl⟩ | exact ⟨Or.inr rfl, rfl, rfl⟩ | exact ⟨Or.inl rfl, rfl, rfl⟩ | exact ⟨trivial, trivial⟩ | exact ⟨rfl, trivial⟩ | exact ⟨Or.inr rfl, rfl, trivial⟩ | exact ⟨Or.inl rfl, rfl, trivial⟩
theorem r_M_has (R : RM s c v h) (o : OK s) (x : Int32) : Run 1 j_M_has [.ref 65, .int x] h (some (.int (if x = 0 then nI (zD s) else if x = 1 then nI (zP s) else if x = 2 then nI (zK s) else if x = 3 then nI (zT s) else if x = 4 then nI (zQ s) else if x = 5 then nI (cnt (fun t => v t = -1) (zT s)) else -1))) h := by
  have hT := o.T; have hP := o.P; have hK := o.K; have hD := o.D; have hO := o.O; have hQ := o.Q; have hL := o.L
  refine Run.of rfl ?_
  refine Wp.norm (L' := [_, _, _, _]) rfl ?_
  repeat (first | (refine W1 rfl ?_; try refine Wp.norm (L' := [_, _, _, _]) rfl ?_) | refine brT (by first | decide | omega) ?_ | refine brF (by first | decide | omega) ?_ | refine brTn (by first | decide | omega) ?_ | refine brFn (by first | decide | omega) ?_ | refine And.intro (vp_lit (by decide)) ?_ | refine And.intro (vp_in_nI (by omega) (by decide)) ?_ | (change _ ∧ _; simp (disch := omega) only [nI_clamp, nI_leI, nI_ltI, nI_eq, nI_1, nI_add, nI_not_neg, nI_is_pos, nI_m1, nI_z]))
  try change _ ∧ _
  rcases ix_cases x (n := 6) (by decide) with ⟨j, hj, rfl⟩ | hx
  · match j, hj with
    | 0, _ =>
      refine ⟨fun z => absurd z (by decide), fun _ _ => ?_⟩
      repeat (first | (refine W1 rfl ?_; try refine Wp.norm (L' := [_, _, _, _]) rfl ?_) | refine brT (by first | decide | omega) ?_ | refine brF (by first | decide | omega) ?_ | refine brTn (by first | decide | omega) ?_ | refine brFn (by first | decide | omega) ?_ | refine And.intro (vp_lit (by decide)) ?_ | refine And.intro (vp_in_nI (by omega) (by decide)) ?_ | (change _ ∧ _; simp (disch := omega) only [nI_clamp, nI_leI, nI_ltI, nI_eq, nI_1, nI_add, nI_not_neg, nI_is_pos, nI_m1, nI_z, show Int32.toNatClampNeg 1 = 1 from rfl, R.dys]))
      try change _ ∧ _
      try first | exact ⟨rfl, rfl⟩ | exact ⟨Or.inr rfl, rfl, rfl⟩ | exact ⟨Or.inl rfl, rfl, rfl⟩ | exact ⟨trivial, trivial⟩ | exact ⟨rfl, trivial⟩ | exact ⟨Or.inr rfl, rfl, trivial⟩ | exact ⟨Or.inl rfl, rfl, trivial⟩
    | 1, _ =>
      refine ⟨fun z => absurd z (by decide), fun _ _ => ?_⟩
      repeat (first | (refine W1 rfl ?_; try refine Wp.norm (L' := [_, _, _, _]) rfl ?_) | refine brT (by first | decide | omega) ?_ | refine brF (by first | decide | omega) ?_ | refine brTn (by first | decide | omega) ?_ | refine brFn (by first | decide | omega) ?_ | refine And.intro (vp_lit (by decide)) ?_ | refine And.intro (vp_in_nI (by omega) (by decide)) ?_ | (change _ ∧ _; simp (disch := omega) only [nI_clamp, nI_leI, nI_ltI, nI_eq, nI_1, nI_add, nI_not_neg, nI_is_pos, nI_m1, nI_z, show Int32.toNatClampNeg 1 = 1 from rfl, R.P]))
      try change _ ∧ _
      try first | exact ⟨rfl, rfl⟩ | exact ⟨Or.inr rfl, rfl, rfl⟩ | exact ⟨Or.inl rfl, rfl, rfl⟩ | exact ⟨trivial, trivial⟩ | exact ⟨rfl, trivial⟩ | exact ⟨Or.inr rfl, rfl, trivial⟩ | exact ⟨Or.inl rfl, rfl, trivial⟩
    | 2, _ =>
      refine ⟨fun z => absurd z (by decide), fun _ _ => ?_⟩
      repeat (first | (refine W1 rfl ?_; try refine Wp.norm (L' := [_, _, _, _]) rfl ?_) | refine brT (by first | decide | omega) ?_ | refine brF (by first | decide | omega) ?_ | refine brTn (by first | decide | omega) ?_ | refine brFn (by first | decide | omega) ?_ | refine And.intro (vp_lit (by decide)) ?_ | refine And.intro (vp_in_nI (by omega) (by decide)) ?_ | (change _ ∧ _; simp (disch := omega) only [nI_clamp, nI_leI, nI_ltI, nI_eq, nI_1, nI_add, nI_not_neg, nI_is_pos, nI_m1, nI_z, show Int32.toNatClampNeg 1 = 1 from rfl, R.K]))
      try change _ ∧ _
      try first | exact ⟨rfl, rfl⟩ | exact ⟨Or.inr rfl, rfl, rfl⟩ | exact ⟨Or.inl rfl, rfl, rfl⟩ | exact ⟨trivial, trivial⟩ | exact ⟨rfl, trivial⟩ | exact ⟨Or.inr rfl, rfl, trivial⟩ | exact ⟨Or.inl rfl, rfl, trivial⟩
    | 3, _ =>
      refine ⟨fun z => absurd z (by decide), fun _ _ => ?_⟩
      repeat (first | (refine W1 rfl ?_; try refine Wp.norm (L' := [_, _, _, _]) rfl ?_) | refine brT (by first | decide | omega) ?_ | refine brF (by first | decide | omega) ?_ | refine brTn (by first | decide | omega) ?_ | refine brFn (by first | decide | omega) ?_ | refine And.intro (vp_lit (by decide)) ?_ | refine And.intro (vp_in_nI (by omega) (by decide)) ?_ | (change _ ∧ _; simp (disch := omega) only [nI_clamp, nI_leI, nI_ltI, nI_eq, nI_1, nI_add, nI_not_neg, nI_is_pos, nI_m1, nI_z, R.T]))
      try change _ ∧ _
      try first | exact ⟨rfl, rfl⟩ | exact ⟨Or.inr rfl, rfl, rfl⟩ | exact ⟨Or.inl rfl, rfl, rfl⟩ | exact ⟨trivial, trivial⟩ | exact ⟨rfl, trivial⟩ | exact ⟨Or.inr rfl, rfl, trivial⟩ | exact ⟨Or.inl rfl, rfl, trivial⟩
    | 4, _ =>
      refine ⟨fun z => absurd z (by decide), fun _ _ => ?_⟩
      repeat (first | (refine W1 rfl ?_; try refine Wp.norm (L' := [_, _, _, _]) rfl ?_) | refine brT (by first | decide | omega) ?_ | refine brF (by first | decide | omega) ?_ | refine brTn (by first | decide | omega) ?_ | refine brFn (by first | decide | omega) ?_ | refine And.intro (vp_lit (by decide)) ?_ | refine And.intro (vp_in_nI (by omega) (by decide)) ?_ | (change _ ∧ _; simp (disch := omega) only [nI_clamp, nI_leI, nI_ltI, nI_eq, nI_1, nI_add, nI_not_neg, nI_is_pos, nI_m1, nI_z]))
      try change _ ∧ _
      refine Cl.of (r_M_shares R o) (by decide) ?_
      repeat (first | (refine W1 rfl ?_; try refine Wp.norm (L' := [_, _, _, _]) rfl ?_) | refine brT (by first | decide | omega) ?_ | refine brF (by first | decide | omega) ?_ | refine brTn (by first | decide | omega) ?_ | refine brFn (by first | decide | omega) ?_ | refine And.intro (vp_lit (by decide)) ?_ | refine And.intro (vp_in_nI (by omega) (by decide)) ?_ | (change _ ∧ _; simp (disch := omega) only [nI_clamp, nI_leI, nI_ltI, nI_eq, nI_1, nI_add, nI_not_neg, nI_is_pos, nI_m1, nI_z]))
      try change _ ∧ _
      try first | exact ⟨rfl, rfl⟩ | exact ⟨Or.inr rfl, rfl, rfl⟩ | exact ⟨Or.inl rfl, rfl, rfl⟩ | exact ⟨trivial, trivial⟩ | exact ⟨rfl, trivial⟩ | exact ⟨Or.inr rfl, rfl, trivial⟩ | exact ⟨Or.inl rfl, rfl, trivial⟩
    | 5, _ =>
      refine ⟨fun z => absurd z (by decide), fun _ _ => ?_⟩
      refine Wp.norm (L' := [_, _, _, _]) rfl ?_
      iterate 2 (refine W1 rfl ?_; try refine Wp.norm (L' := [_, _, _, _]) rfl ?_)
      refine Wp.at (up_ind (n := zT s) (P := fun i => Wp 1 j_M_has 74 [.ref 65, .int (nI 5), .int (nI (cnt (fun t => v t = -1) i)), .int (nI i)] [] h _) ?_ (fun i hi ih => ?_) 0 (Nat.zero_le _)) rfl rfl rfl rfl
      · repeat (first | (refine W1 rfl ?_; try refine Wp.norm (L' := [_, _, _, _]) rfl ?_) | refine brT (by first | decide | omega) ?_ | refine brF (by first | decide | omega) ?_ | refine brTn (by first | decide | omega) ?_ | refine brFn (by first | decide | omega) ?_ | refine And.intro (vp_lit (by decide)) ?_ | refine And.intro (vp_in_nI (by omega) (by decide)) ?_ | (change _ ∧ _; simp (disch := omega) only [nI_clamp, nI_leI, nI_ltI, nI_eq, nI_1, nI_add, nI_not_neg, nI_is_pos, nI_m1, nI_z, R.T]))
        try change _ ∧ _
        try first | exact ⟨rfl, rfl⟩ | exact ⟨Or.inr rfl, rfl, rfl⟩ | exact ⟨Or.inl rfl, rfl, rfl⟩ | exact ⟨trivial, trivial⟩ | exact ⟨rfl, trivial⟩ | exact ⟨Or.inr rfl, rfl, trivial⟩ | exact ⟨Or.inl rfl, rfl, trivial⟩
      · rw [cnt] at ih
        repeat (first | (refine W1 rfl ?_; try refine Wp.norm (L' := [_, _, _, _]) rfl ?_) | refine brT (by first | decide | omega) ?_ | refine brF (by first | decide | omega) ?_ | refine brTn (by first | decide | omega) ?_ | refine brFn (by first | decide | omega) ?_ | refine And.intro (vp_lit (by decide)) ?_ | refine And.intro (vp_in_nI (by omega) (by decide)) ?_ | (change _ ∧ _; simp (disch := omega) only [nI_clamp, nI_leI, nI_ltI, nI_eq, nI_1, nI_add, nI_not_neg, nI_is_pos, nI_m1, nI_z, R.T, R.srv]))
        try change _ ∧ _
        refine ⟨fun hc => ?_, fun hc => ?_⟩
        · rw [if_neg hc] at ih
          repeat (first | refine Wp.at ih rfl rfl ?_ rfl | (refine W1 rfl ?_; try refine Wp.norm (L' := [_, _, _, _]) rfl ?_) | refine brT (by first | decide | omega) ?_ | refine brF (by first | decide | omega) ?_ | refine brTn (by first | decide | omega) ?_ | refine brFn (by first | decide | omega) ?_ | refine And.intro (vp_lit (by decide)) ?_ | refine And.intro (vp_in_nI (by omega) (by decide)) ?_ | (change _ ∧ _; simp (disch := omega) only [nI_clamp, nI_leI, nI_ltI, nI_eq, nI_1, nI_add, nI_not_neg, nI_is_pos, nI_m1, nI_z]))
          try change _ ∧ _
          rw [nI_1]
          try rfl
        · rw [if_pos hc] at ih
          repeat (first | refine Wp.at ih rfl rfl ?_ rfl | (refine W1 rfl ?_; try refine Wp.norm (L' := [_, _, _, _]) rfl ?_) | refine brT (by first | decide | omega) ?_ | refine brF (by first | decide | omega) ?_ | refine brTn (by first | decide | omega) ?_ | refine brFn (by first | decide | omega) ?_ | refine And.intro (vp_lit (by decide)) ?_ | refine And.intro (vp_in_nI (by omega) (by decide)) ?_ | (change _ ∧ _; simp (disch := omega) only [nI_clamp, nI_leI, nI_ltI, nI_eq, nI_1, nI_add, nI_not_neg, nI_is_pos, nI_m1, nI_z]))
          try change _ ∧ _
          rw [nI_1, nI_1]
          try rfl
  · have hx' : x.toInt < 0 ∨ 5 < x.toInt := by
      rw [Int32.le_iff_toInt_le, Int32.lt_iff_toInt_lt, show (nI 6).toInt = 6 from rfl, Int32.toInt_zero] at hx
      omega
    refine ⟨fun _ => ?_, fun z1 z2 => absurd hx' (fun q => q.elim z1 z2)⟩
    repeat (first | (refine W1 rfl ?_; try refine Wp.norm (L' := [_, _, _, _]) rfl ?_) | refine brT (by first | decide | omega) ?_ | refine brF (by first | decide | omega) ?_ | refine brTn (by first | decide | omega) ?_ | refine brFn (by first | decide | omega) ?_ | refine And.intro (vp_lit (by decide)) ?_ | refine And.intro (vp_in_nI (by omega) (by decide)) ?_ | (change _ ∧ _; simp (disch := omega) only [nI_clamp, nI_leI, nI_ltI, nI_eq, nI_1, nI_add, nI_not_neg, nI_is_pos, nI_m1, nI_z]))
    try change _ ∧ _
    have hn : ∀ m, m < 6 → x ≠ nI m := fun m hm e => hx (by rw [e]; exact ix_ok hm (by decide))
    rw [if_neg (show ¬ x = 0 from hn 0 (by decide)), if_neg (show ¬ x = 1 from hn 1 (by decide)), if_neg (show ¬ x = 2 from hn 2 (by decide)), if_neg (show ¬ x = 3 from hn 3 (by decide)), if_neg (show ¬ x = 4 from hn 4 (by decide)), if_neg (show ¬ x = 5 from hn 5 (by decide))]
    try first | exact ⟨rfl, rfl⟩ | exact ⟨Or.inr rfl, rfl, rfl⟩ | exact ⟨Or.inl rfl, rfl, rfl⟩ | exact ⟨trivial, trivial⟩ | exact ⟨rfl, trivial⟩ | exact ⟨Or.inr rfl, rfl, trivial⟩ | exact ⟨Or.inl rfl, rfl, trivial⟩
theorem RO.opn (ro : RO s c v) (o : OK s) {t : Nat} (ht : t < zT s) : c t = -1 ↔ v t = -1 := by
  have hP := o.P
  rcases ro t ht with ⟨h1, h2⟩ | ⟨p, q, hp, hq, h1, h2⟩
  · rw [h1, h2]
  · rw [h1, h2, nI_m1 (by omega), nI_m1 (by omega)]
theorem o_has : op_4 Inv := fun x => op_ro fun _ _ R M o ro => by
  refine ⟨_, (r_E_has R o x).d, ?_⟩
  rw [cnt_congr (fun i hi => RO.opn ro o hi)]
  exact (r_M_has M o x).d
theorem o_may : op_7 Inv := fun x y => op_ro fun {h} _ _ _ _ _ R M o _ => by
  have hT := o.T
  have hP := o.P
  rcases two_ix x y (a := zP _) (b := zT _) (Nat.lt_of_le_of_lt o.P (by decide)) (Nat.lt_of_le_of_lt o.T (by decide)) with ⟨p, t, hp, ht, rfl, rfl⟩ | hb
  · refine ⟨_, (r_E_may_ok (nI p) R.T hT ht (by rw [R.P]; exact ix_ok hp (by omega))).d, ?_⟩
    have := (r_M_may_ok (nI p) M.T hT ht (by rw [M.P]; exact nI_pos' (by omega)) (by rw [M.P]; exact ix_ok hp (by omega))).d
    rw [M.msk ht, shr1 _ (by omega)] at this
    rw [R.msk ht, shr1 _ (by omega)]
    cases hb : bt (nI (tM _ t)) p
    · rw [hb] at this
      simpa using this
    · rw [hb] at this
      simpa using this
  · refine ⟨_, (r_E_may_no x y (by rw [R.P, R.T]; exact fun z => hb.elim (fun q => q z.1) (fun q => q z.2))).d, ?_⟩
    exact (r_M_may_no x y (by rw [M.T]; exact nI_pos' (by omega)) (by rw [M.P]; exact nI_pos' (by omega)) (by rw [M.P, M.T]; exact fun z => hb.elim (fun q => q z.1) (fun q => q z.2))).d
end OPS1
