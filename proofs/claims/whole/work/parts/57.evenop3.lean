/-! ===== CLAUSE: even, put together ===== -/
section EVENOP3
variable {s : ST} {c v : RT} {h : HP} {n : Nat}
theorem k_mem4 {P : Nat → Nat → Bool} {k i : Nat} {l : List Nat} (hP : ∀ k i, P k i = true → ¬ k ∈ l) (h : P k i = true) : ¬ k ∈ l := hP k i h
theorem e_evenN (R : RC s c v h) (o : OK s) {x y z : Int32} (hb : ¬ ∃ k a b, k < zK s ∧ x = nI k ∧ amB s k = true ∧ a ≤ 720720 ∧ y = nI a ∧ b ≤ 720720 ∧ z = nI b) : Run 2 j_E_even [.ref 0, .int x, .int y, .int z] h (some (.int (-1))) h := by
  have hT := o.T; have hP := o.P; have hK := o.K; have hD := o.D; have hO := o.O; have hQ := o.Q; have hL := o.L
  have shc : ∀ q : Int32, (0 ≤ q ∧ q ≤ 720720) → ∃ a, a ≤ 720720 ∧ q = nI a := fun q hq => by
    obtain ⟨j, hj, e⟩ := nI_of (x := q) (Int32.not_lt.mpr hq.1)
    refine ⟨j, ?_, e⟩
    have := hq.2
    rw [e, show (720720 : Int32) = nI 720720 from rfl, nI_leI hj (by decide)] at this
    exact this
  refine Run.of rfl ?_
  refine Wp.norm (L' := [_, _, _, _, _, _]) rfl ?_
  repeat (first | (refine W1 rfl ?_; try refine Wp.norm (L' := [_, _, _, _, _, _]) rfl ?_) | ((first | change (_ → _) ∧ (_ → _) | change vp_in _ _ ∧ _ | change ¬ _ ∧ _); simp (disch := omega) only [nI_clamp, nI_leI, nI_ltI, nI_eq, nI_1, nI_add, nI_not_neg, nI_is_pos, nI_m1, nI_z]) | refine brT (by first | assumption | decide | omega) ?_ | refine brF (by first | assumption | decide | omega) ?_ | refine brTn (by first | assumption | decide | omega) ?_ | refine brFn (by first | assumption | decide | omega) ?_ | refine And.intro (vp_in_nI (by omega) (by decide)) ?_ | refine And.intro (vp_lit (by decide)) ?_ | refine divJ (by decide) ?_ | refine divI (by decide) ?_)
  try change _ ∧ _
  rcases ix_cases x (n := zK s) (by omega) with ⟨k, hk, rfl⟩ | hx
  · refine Cl.of (g_EK R o hk) (by decide) ?_
    repeat (first | (refine W1 rfl ?_; try refine Wp.norm (L' := [_, _, _, _, _, _]) rfl ?_) | ((first | change (_ → _) ∧ (_ → _) | change vp_in _ _ ∧ _ | change ¬ _ ∧ _); simp (disch := omega) only [nI_clamp, nI_leI, nI_ltI, nI_eq, nI_1, nI_add, nI_not_neg, nI_is_pos, nI_m1, nI_z]) | refine brT (by first | assumption | decide | omega) ?_ | refine brF (by first | assumption | decide | omega) ?_ | refine brTn (by first | assumption | decide | omega) ?_ | refine brFn (by first | assumption | decide | omega) ?_ | refine And.intro (vp_in_nI (by omega) (by decide)) ?_ | refine And.intro (vp_lit (by decide)) ?_ | refine divJ (by decide) ?_ | refine divI (by decide) ?_)
    try change _ ∧ _
    refine Cl.of (r_Calendar_allMay R o hk) (by decide) ?_
    cases ham : amB s k with
    | false =>
      repeat (first | (refine W1 rfl ?_; try refine Wp.norm (L' := [_, _, _, _, _, _]) rfl ?_) | ((first | change (_ → _) ∧ (_ → _) | change vp_in _ _ ∧ _ | change ¬ _ ∧ _); simp (disch := omega) only [nI_clamp, nI_leI, nI_ltI, nI_eq, nI_1, nI_add, nI_not_neg, nI_is_pos, nI_m1, nI_z]) | refine brT (by first | assumption | decide | omega) ?_ | refine brF (by first | assumption | decide | omega) ?_ | refine brTn (by first | assumption | decide | omega) ?_ | refine brFn (by first | assumption | decide | omega) ?_ | refine And.intro (vp_in_nI (by omega) (by decide)) ?_ | refine And.intro (vp_lit (by decide)) ?_ | refine divJ (by decide) ?_ | refine divI (by decide) ?_)
      try change _ ∧ _
      try first | exact ⟨rfl, rfl⟩ | exact ⟨Or.inr rfl, rfl, rfl⟩ | exact ⟨Or.inl rfl, rfl, rfl⟩ | exact ⟨trivial, trivial⟩ | exact ⟨rfl, trivial⟩ | exact ⟨Or.inr rfl, rfl, trivial⟩ | exact ⟨Or.inl rfl, rfl, trivial⟩
    | true =>
      repeat (first | (refine W1 rfl ?_; try refine Wp.norm (L' := [_, _, _, _, _, _]) rfl ?_) | ((first | change (_ → _) ∧ (_ → _) | change vp_in _ _ ∧ _ | change ¬ _ ∧ _); simp (disch := omega) only [nI_clamp, nI_leI, nI_ltI, nI_eq, nI_1, nI_add, nI_not_neg, nI_is_pos, nI_m1, nI_z]) | refine brT (by first | assumption | decide | omega) ?_ | refine brF (by first | assumption | decide | omega) ?_ | refine brTn (by first | assumption | decide | omega) ?_ | refine brFn (by first | assumption | decide | omega) ?_ | refine And.intro (vp_in_nI (by omega) (by decide)) ?_ | refine And.intro (vp_lit (by decide)) ?_ | refine divJ (by decide) ?_ | refine divI (by decide) ?_)
      try change _ ∧ _
      refine Cl.of (r_E_isShare h y) (by decide) ?_
      by_cases hy : 0 ≤ y ∧ y ≤ 720720
      · rw [if_pos hy]
        repeat (first | (refine W1 rfl ?_; try refine Wp.norm (L' := [_, _, _, _, _, _]) rfl ?_) | ((first | change (_ → _) ∧ (_ → _) | change vp_in _ _ ∧ _ | change ¬ _ ∧ _); simp (disch := omega) only [nI_clamp, nI_leI, nI_ltI, nI_eq, nI_1, nI_add, nI_not_neg, nI_is_pos, nI_m1, nI_z]) | refine brT (by first | assumption | decide | omega) ?_ | refine brF (by first | assumption | decide | omega) ?_ | refine brTn (by first | assumption | decide | omega) ?_ | refine brFn (by first | assumption | decide | omega) ?_ | refine And.intro (vp_in_nI (by omega) (by decide)) ?_ | refine And.intro (vp_lit (by decide)) ?_ | refine divJ (by decide) ?_ | refine divI (by decide) ?_)
        try change _ ∧ _
        refine Cl.of (r_E_isShare h z) (by decide) ?_
        rw [if_neg (fun hz => by
          obtain ⟨a, ha, e1⟩ := shc y hy
          obtain ⟨b, hb2, e2⟩ := shc z hz
          exact hb ⟨k, a, b, hk, rfl, ham, ha, e1, hb2, e2⟩)]
        repeat (first | (refine W1 rfl ?_; try refine Wp.norm (L' := [_, _, _, _, _, _]) rfl ?_) | ((first | change (_ → _) ∧ (_ → _) | change vp_in _ _ ∧ _ | change ¬ _ ∧ _); simp (disch := omega) only [nI_clamp, nI_leI, nI_ltI, nI_eq, nI_1, nI_add, nI_not_neg, nI_is_pos, nI_m1, nI_z]) | refine brT (by first | assumption | decide | omega) ?_ | refine brF (by first | assumption | decide | omega) ?_ | refine brTn (by first | assumption | decide | omega) ?_ | refine brFn (by first | assumption | decide | omega) ?_ | refine And.intro (vp_in_nI (by omega) (by decide)) ?_ | refine And.intro (vp_lit (by decide)) ?_ | refine divJ (by decide) ?_ | refine divI (by decide) ?_)
        try change _ ∧ _
        try first | exact ⟨rfl, rfl⟩ | exact ⟨Or.inr rfl, rfl, rfl⟩ | exact ⟨Or.inl rfl, rfl, rfl⟩ | exact ⟨trivial, trivial⟩ | exact ⟨rfl, trivial⟩ | exact ⟨Or.inr rfl, rfl, trivial⟩ | exact ⟨Or.inl rfl, rfl, trivial⟩
      · rw [if_neg hy]
        repeat (first | (refine W1 rfl ?_; try refine Wp.norm (L' := [_, _, _, _, _, _]) rfl ?_) | ((first | change (_ → _) ∧ (_ → _) | change vp_in _ _ ∧ _ | change ¬ _ ∧ _); simp (disch := omega) only [nI_clamp, nI_leI, nI_ltI, nI_eq, nI_1, nI_add, nI_not_neg, nI_is_pos, nI_m1, nI_z]) | refine brT (by first | assumption | decide | omega) ?_ | refine brF (by first | assumption | decide | omega) ?_ | refine brTn (by first | assumption | decide | omega) ?_ | refine brFn (by first | assumption | decide | omega) ?_ | refine And.intro (vp_in_nI (by omega) (by decide)) ?_ | refine And.intro (vp_lit (by decide)) ?_ | refine divJ (by decide) ?_ | refine divI (by decide) ?_)
        try change _ ∧ _
        try first | exact ⟨rfl, rfl⟩ | exact ⟨Or.inr rfl, rfl, rfl⟩ | exact ⟨Or.inl rfl, rfl, rfl⟩ | exact ⟨trivial, trivial⟩ | exact ⟨rfl, trivial⟩ | exact ⟨Or.inr rfl, rfl, trivial⟩ | exact ⟨Or.inl rfl, rfl, trivial⟩
  · refine Cl.of (g_EKn R hx) (by decide) ?_
    repeat (first | (refine W1 rfl ?_; try refine Wp.norm (L' := [_, _, _, _, _, _]) rfl ?_) | ((first | change (_ → _) ∧ (_ → _) | change vp_in _ _ ∧ _ | change ¬ _ ∧ _); simp (disch := omega) only [nI_clamp, nI_leI, nI_ltI, nI_eq, nI_1, nI_add, nI_not_neg, nI_is_pos, nI_m1, nI_z]) | refine brT (by first | assumption | decide | omega) ?_ | refine brF (by first | assumption | decide | omega) ?_ | refine brTn (by first | assumption | decide | omega) ?_ | refine brFn (by first | assumption | decide | omega) ?_ | refine And.intro (vp_in_nI (by omega) (by decide)) ?_ | refine And.intro (vp_lit (by decide)) ?_ | refine divJ (by decide) ?_ | refine divI (by decide) ?_)
    try change _ ∧ _
    try first | exact ⟨rfl, rfl⟩ | exact ⟨Or.inr rfl, rfl, rfl⟩ | exact ⟨Or.inl rfl, rfl, rfl⟩ | exact ⟨trivial, trivial⟩ | exact ⟨rfl, trivial⟩ | exact ⟨Or.inr rfl, rfl, trivial⟩ | exact ⟨Or.inl rfl, rfl, trivial⟩
theorem m_evenN (R : RM s c v h) (o : OK s) {x y z : Int32} (hb : ¬ ∃ k a b, k < zK s ∧ x = nI k ∧ amB s k = true ∧ a ≤ 720720 ∧ y = nI a ∧ b ≤ 720720 ∧ z = nI b) : Run 2 j_M_even [.ref 65, .int x, .int y, .int z] h (some (.int (-1))) h := by
  have hT := o.T; have hP := o.P; have hK := o.K; have hD := o.D; have hO := o.O; have hQ := o.Q; have hL := o.L
  have shc : ∀ q : Int32, (0 ≤ q ∧ q ≤ 720720) → ∃ a, a ≤ 720720 ∧ q = nI a := fun q hq => by
    obtain ⟨j, hj, e⟩ := nI_of (x := q) (Int32.not_lt.mpr hq.1)
    refine ⟨j, ?_, e⟩
    have := hq.2
    rw [e, show (720720 : Int32) = nI 720720 from rfl, nI_leI hj (by decide)] at this
    exact this
  refine Run.of rfl ?_
  refine Wp.norm (L' := [_, _, _, _, _]) rfl ?_
  repeat (first | (refine W1 rfl ?_; try refine Wp.norm (L' := [_, _, _, _, _]) rfl ?_) | ((first | change (_ → _) ∧ (_ → _) | change vp_in _ _ ∧ _ | change ¬ _ ∧ _); simp (disch := omega) only [nI_clamp, nI_leI, nI_ltI, nI_eq, nI_1, nI_add, nI_not_neg, nI_is_pos, nI_m1, nI_z]) | refine brT (by first | assumption | decide | omega) ?_ | refine brF (by first | assumption | decide | omega) ?_ | refine brTn (by first | assumption | decide | omega) ?_ | refine brFn (by first | assumption | decide | omega) ?_ | refine And.intro (vp_in_nI (by omega) (by decide)) ?_ | refine And.intro (vp_lit (by decide)) ?_ | refine divJ (by decide) ?_ | refine divI (by decide) ?_)
  try change _ ∧ _
  rcases ix_cases x (n := zK s) (by omega) with ⟨k, hk, rfl⟩ | hx
  · refine Cl.of (g_MK R o hk) (by decide) ?_
    repeat (first | (refine W1 rfl ?_; try refine Wp.norm (L' := [_, _, _, _, _]) rfl ?_) | ((first | change (_ → _) ∧ (_ → _) | change vp_in _ _ ∧ _ | change ¬ _ ∧ _); simp (disch := omega) only [nI_clamp, nI_leI, nI_ltI, nI_eq, nI_1, nI_add, nI_not_neg, nI_is_pos, nI_m1, nI_z]) | refine brT (by first | assumption | decide | omega) ?_ | refine brF (by first | assumption | decide | omega) ?_ | refine brTn (by first | assumption | decide | omega) ?_ | refine brFn (by first | assumption | decide | omega) ?_ | refine And.intro (vp_in_nI (by omega) (by decide)) ?_ | refine And.intro (vp_lit (by decide)) ?_ | refine divJ (by decide) ?_ | refine divI (by decide) ?_)
    try change _ ∧ _
    refine Cl.of (r_M_isIn h y.toInt64 0 720720) (by decide) ?_
    by_cases hy : 0 ≤ y ∧ y ≤ 720720
    · rw [if_pos ((inSh y).mpr hy)]
      iterate 1 (refine W1 rfl ?_; try refine Wp.norm (L' := [_, _, _, _, _]) rfl ?_)
      refine brF (by decide) ?_
      refine Wp.normS (pc' := 20) (S' := []) rfl rfl rfl ?_
      repeat (first | (refine W1 rfl ?_; try refine Wp.norm (L' := [_, _, _, _, _]) rfl ?_) | ((first | change (_ → _) ∧ (_ → _) | change vp_in _ _ ∧ _ | change ¬ _ ∧ _); simp (disch := omega) only [nI_clamp, nI_leI, nI_ltI, nI_eq, nI_1, nI_add, nI_not_neg, nI_is_pos, nI_m1, nI_z]) | refine brT (by first | assumption | decide | omega) ?_ | refine brF (by first | assumption | decide | omega) ?_ | refine brTn (by first | assumption | decide | omega) ?_ | refine brFn (by first | assumption | decide | omega) ?_ | refine And.intro (vp_in_nI (by omega) (by decide)) ?_ | refine And.intro (vp_lit (by decide)) ?_ | refine divJ (by decide) ?_ | refine divI (by decide) ?_)
      try change _ ∧ _
      refine Cl.of (r_M_isIn h z.toInt64 0 720720) (by decide) ?_
      by_cases hz : 0 ≤ z ∧ z ≤ 720720
      · rw [if_pos ((inSh z).mpr hz)]
        iterate 1 (refine W1 rfl ?_; try refine Wp.norm (L' := [_, _, _, _, _]) rfl ?_)
        refine brF (by decide) ?_
        refine Wp.normS (pc' := 32) (S' := []) rfl rfl rfl ?_
        repeat (first | (refine W1 rfl ?_; try refine Wp.norm (L' := [_, _, _, _, _]) rfl ?_) | ((first | change (_ → _) ∧ (_ → _) | change vp_in _ _ ∧ _ | change ¬ _ ∧ _); simp (disch := omega) only [nI_clamp, nI_leI, nI_ltI, nI_eq, nI_1, nI_add, nI_not_neg, nI_is_pos, nI_m1, nI_z]) | refine brT (by first | assumption | decide | omega) ?_ | refine brF (by first | assumption | decide | omega) ?_ | refine brTn (by first | assumption | decide | omega) ?_ | refine brFn (by first | assumption | decide | omega) ?_ | refine And.intro (vp_in_nI (by omega) (by decide)) ?_ | refine And.intro (vp_lit (by decide)) ?_ | refine divJ (by decide) ?_ | refine divI (by decide) ?_)
        try change _ ∧ _
        refine Cl.of (r_M_mayAll R o hk) (by decide) ?_
        cases ham : amB s k with
        | false =>
          repeat (first | (refine W1 rfl ?_; try refine Wp.norm (L' := [_, _, _, _, _]) rfl ?_) | ((first | change (_ → _) ∧ (_ → _) | change vp_in _ _ ∧ _ | change ¬ _ ∧ _); simp (disch := omega) only [nI_clamp, nI_leI, nI_ltI, nI_eq, nI_1, nI_add, nI_not_neg, nI_is_pos, nI_m1, nI_z]) | refine brT (by first | assumption | decide | omega) ?_ | refine brF (by first | assumption | decide | omega) ?_ | refine brTn (by first | assumption | decide | omega) ?_ | refine brFn (by first | assumption | decide | omega) ?_ | refine And.intro (vp_in_nI (by omega) (by decide)) ?_ | refine And.intro (vp_lit (by decide)) ?_ | refine divJ (by decide) ?_ | refine divI (by decide) ?_)
          try change _ ∧ _
          try first | exact ⟨rfl, rfl⟩ | exact ⟨Or.inr rfl, rfl, rfl⟩ | exact ⟨Or.inl rfl, rfl, rfl⟩ | exact ⟨trivial, trivial⟩ | exact ⟨rfl, trivial⟩ | exact ⟨Or.inr rfl, rfl, trivial⟩ | exact ⟨Or.inl rfl, rfl, trivial⟩
        | true =>
          obtain ⟨a, ha, e1⟩ := shc y hy
          obtain ⟨b, hb2, e2⟩ := shc z hz
          exact absurd ⟨k, a, b, hk, rfl, ham, ha, e1, hb2, e2⟩ hb
      · rw [if_neg (fun q => hz ((inSh z).mp q))]
        iterate 1 (refine W1 rfl ?_; try refine Wp.norm (L' := [_, _, _, _, _]) rfl ?_)
        refine brT (by decide) ?_
        refine Wp.normS (pc' := 40) (S' := []) rfl rfl rfl ?_
        repeat (first | (refine W1 rfl ?_; try refine Wp.norm (L' := [_, _, _, _, _]) rfl ?_) | ((first | change (_ → _) ∧ (_ → _) | change vp_in _ _ ∧ _ | change ¬ _ ∧ _); simp (disch := omega) only [nI_clamp, nI_leI, nI_ltI, nI_eq, nI_1, nI_add, nI_not_neg, nI_is_pos, nI_m1, nI_z]) | refine brT (by first | assumption | decide | omega) ?_ | refine brF (by first | assumption | decide | omega) ?_ | refine brTn (by first | assumption | decide | omega) ?_ | refine brFn (by first | assumption | decide | omega) ?_ | refine And.intro (vp_in_nI (by omega) (by decide)) ?_ | refine And.intro (vp_lit (by decide)) ?_ | refine divJ (by decide) ?_ | refine divI (by decide) ?_)
        try change _ ∧ _
        try first | exact ⟨rfl, rfl⟩ | exact ⟨Or.inr rfl, rfl, rfl⟩ | exact ⟨Or.inl rfl, rfl, rfl⟩ | exact ⟨trivial, trivial⟩ | exact ⟨rfl, trivial⟩ | exact ⟨Or.inr rfl, rfl, trivial⟩ | exact ⟨Or.inl rfl, rfl, trivial⟩
    · rw [if_neg (fun q => hy ((inSh y).mp q))]
      iterate 1 (refine W1 rfl ?_; try refine Wp.norm (L' := [_, _, _, _, _]) rfl ?_)
      refine brT (by decide) ?_
      refine Wp.normS (pc' := 40) (S' := []) rfl rfl rfl ?_
      repeat (first | (refine W1 rfl ?_; try refine Wp.norm (L' := [_, _, _, _, _]) rfl ?_) | ((first | change (_ → _) ∧ (_ → _) | change vp_in _ _ ∧ _ | change ¬ _ ∧ _); simp (disch := omega) only [nI_clamp, nI_leI, nI_ltI, nI_eq, nI_1, nI_add, nI_not_neg, nI_is_pos, nI_m1, nI_z]) | refine brT (by first | assumption | decide | omega) ?_ | refine brF (by first | assumption | decide | omega) ?_ | refine brTn (by first | assumption | decide | omega) ?_ | refine brFn (by first | assumption | decide | omega) ?_ | refine And.intro (vp_in_nI (by omega) (by decide)) ?_ | refine And.intro (vp_lit (by decide)) ?_ | refine divJ (by decide) ?_ | refine divI (by decide) ?_)
      try change _ ∧ _
      try first | exact ⟨rfl, rfl⟩ | exact ⟨Or.inr rfl, rfl, rfl⟩ | exact ⟨Or.inl rfl, rfl, rfl⟩ | exact ⟨trivial, trivial⟩ | exact ⟨rfl, trivial⟩ | exact ⟨Or.inr rfl, rfl, trivial⟩ | exact ⟨Or.inl rfl, rfl, trivial⟩
  · refine Cl.of (g_MKn R o hx) (by decide) ?_
    repeat (first | (refine W1 rfl ?_; try refine Wp.norm (L' := [_, _, _, _, _]) rfl ?_) | ((first | change (_ → _) ∧ (_ → _) | change vp_in _ _ ∧ _ | change ¬ _ ∧ _); simp (disch := omega) only [nI_clamp, nI_leI, nI_ltI, nI_eq, nI_1, nI_add, nI_not_neg, nI_is_pos, nI_m1, nI_z]) | refine brT (by first | assumption | decide | omega) ?_ | refine brF (by first | assumption | decide | omega) ?_ | refine brTn (by first | assumption | decide | omega) ?_ | refine brFn (by first | assumption | decide | omega) ?_ | refine And.intro (vp_in_nI (by omega) (by decide)) ?_ | refine And.intro (vp_lit (by decide)) ?_ | refine divJ (by decide) ?_ | refine divI (by decide) ?_)
    try change _ ∧ _
    try first | exact ⟨rfl, rfl⟩ | exact ⟨Or.inr rfl, rfl, rfl⟩ | exact ⟨Or.inl rfl, rfl, rfl⟩ | exact ⟨trivial, trivial⟩ | exact ⟨rfl, trivial⟩ | exact ⟨Or.inr rfl, rfl, trivial⟩ | exact ⟨Or.inl rfl, rfl, trivial⟩
theorem o_even : op_20 Inv := fun x y z h I => by
  obtain ⟨t, m, s, c, v, R, M, o, ro⟩ := id I
  have hT := o.T; have hP := o.P; have hK := o.K; have hD := o.D; have hO := o.O; have hQ := o.Q; have hL := o.L
  by_cases hgood : ∃ k a b, k < zK s ∧ x = nI k ∧ amB s k = true ∧ a ≤ 720720 ∧ y = nI a ∧ b ≤ 720720 ∧ z = nI b
  · obtain ⟨k, a, b, hk, rfl, ham, ha, rfl, hb, rfl⟩ := hgood
    have hc := cO_le s (some k) (zT s)
    obtain ⟨n, hn⟩ : ∃ n, cO s (some k) (zT s) = n := ⟨_, rfl⟩
    rw [hn] at hc
    obtain ⟨w1, h1, r1, C1⟩ := w_Evener_canBe (n := n) (a := a) (b := b) R o (by omega) ha hb
    have hw1 := cbP_w C1
    subst hw1
    have I1 := I.same C1.1.same
    cases hok : okN s n a b with
    | false =>
      rw [hok] at r1 C1
      obtain ⟨_, t0, ht0, st0, bf0, c4, c5⟩ := C1.2.resolve_left (fun q => by cases q.1)
      have E1 := e_even_no R o hk ham ha hb hn r1
      rw [c4, c5] at E1
      have M1 : RM s c v (wI (wI h1 50 6 (nI t0)) 50 7 (mkM (prB s n b (hdF s n a b t0) t0) (zP s))) := (M.same C1.1.same).sr (((SameK.refl kRM h1).addI (k := 50) (i := 6) rfl).addI (k := 50) (i := 7) rfl) (fun _ _ _ => rfl)
      obtain ⟨w2, h2, r2, C2⟩ := w_M_evens (n := n) (a := a) (b := b) M1 o (by omega) ha hb
      have hw2 := cbM_w C2
      subst hw2
      rw [hok] at r2 C2
      obtain ⟨_, t1, ht1, st1, bf1, d4, d5⟩ := C2.2.resolve_left (fun q => by cases q.1)
      have htt : t1 = t0 := by
        rcases Nat.lt_trichotomy t1 t0 with e | e | e
        · rw [bf0 t1 e] at st1; cases st1
        · exact e
        · rw [bf1 t0 e] at st0; cases st0
      subst htt
      have E2 := m_even_no M1 o hk ham ha hb hn r2
      rw [d4, d5] at E2
      refine ⟨0, _, _, E1.d, E2.d, ?_⟩
      have t1' : TP h1 := t.same C1.1.same
      have m1' : SMX h1 := m.same C1.1.same
      have T2 : TP h2 := (t1'.sr (((SameK.refl kTP h1).addI (k := 50) (i := 6) (x := nI t1) rfl).addI (k := 50) (i := 7) (x := mkM (prB s n b (hdF s n a b t1) t1) (zP s)) rfl)).same C2.1.same
      have R2 : RC s c v h2 := ((R.same C1.1.same).sr (((SameK.refl kRC h1).addI (k := 50) (i := 6) (x := nI t1) rfl).addI (k := 50) (i := 7) (x := mkM (prB s n b (hdF s n a b t1) t1) (zP s)) rfl)).same C2.1.same
      have M2 := M1.same C2.1.same
      have S2 := C2.1.same
      obtain ⟨a1, a2, a3, _, _, a6⟩ := m1'
      have out : ∀ q i, keep q i = true → q ≠ 50 → h2.1 q i = h1.1 q i := fun q i hk hq => by rw [S2.1 q i hk, wI_ne _ _ _ hq, wI_ne _ _ _ hq]
      refine ⟨T2.sr (((SameK.refl kTP h2).addI (k := 65) (i := 68) rfl).addI (k := 65) (i := 69) rfl), ?_, s, c, v, R2.sr (((SameK.refl kRC h2).addI (k := 65) (i := 68) rfl).addI (k := 65) (i := 69) rfl), M2.sr (((SameK.refl kRM h2).addI (k := 65) (i := 68) rfl).addI (k := 65) (i := 69) rfl) (fun _ _ _ => rfl), o, ro⟩
      have o65 : ∀ i, i ≠ 68 → i ≠ 69 → (wI (wI h2 65 68 (nI t1)) 65 69 (mkM (prB s n b (hdF s n a b t1) t1) (zP s))).1 65 i = h2.1 65 i := fun i x1 x2 => by rw [wI_ne2 _ _ x2, wI_ne2 _ _ x1]
      have oo : ∀ q i, q ≠ 65 → (wI (wI h2 65 68 (nI t1)) 65 69 (mkM (prB s n b (hdF s n a b t1) t1) (zP s))).1 q i = h2.1 q i := fun q i x1 => by rw [wI_ne _ _ _ x1, wI_ne _ _ _ x1]
      have e68 : (wI (wI h2 65 68 (nI t1)) 65 69 (mkM (prB s n b (hdF s n a b t1) t1) (zP s))).1 65 68 = nI t1 := by rw [wI_ne2 _ _ (by decide), wI_same]
      have e69 : (wI (wI h2 65 68 (nI t1)) 65 69 (mkM (prB s n b (hdF s n a b t1) t1) (zP s))).1 65 69 = mkM (prB s n b (hdF s n a b t1) t1) (zP s) := wI_same _ _ _ _
      have e506 : h2.1 50 6 = nI t1 := by rw [S2.1 50 6 rfl, wI_ne2 _ _ (by decide), wI_same]
      have e507 : h2.1 50 7 = mkM (prB s n b (hdF s n a b t1) t1) (zP s) := by rw [S2.1 50 7 rfl, wI_same]
      refine ⟨?_, ?_, ?_, fun z => absurd z (by rw [e68]; exact fun z => (nI_m1 (by omega)).mp z), fun _ => ?_, ?_⟩
      · rw [oo 54 8 (by decide), o65 74 (by decide) (by decide), out 54 8 rfl (by decide), out 65 74 rfl (by decide)]; exact a1
      · rw [oo 17 6 (by decide), o65 7 (by decide) (by decide), out 17 6 rfl (by decide), out 65 7 rfl (by decide)]; exact a2
      · rw [oo 17 7 (by decide), o65 8 (by decide) (by decide), out 17 7 rfl (by decide), out 65 8 rfl (by decide)]; exact a3
      · rw [oo 50 6 (by decide), oo 50 7 (by decide), e68, e69]; exact ⟨e506, e507⟩
      · obtain ⟨l, l1, l2, l3, l4⟩ := a6
        refine ⟨l, l1, ?_, ?_, fun i hi => ?_⟩
        · rw [oo 0 11 (by decide), out 0 11 rfl (by decide)]; exact l2
        · rw [o65 80 (by decide) (by decide), out 65 80 rfl (by decide)]; exact l3
        · rw [oo 64 i (by decide), oo 120 i (by decide), out 64 i rfl (by decide), out 120 i rfl (by decide)]; exact l4 i hi
    | true =>
      rw [hok] at r1 C1
      obtain ⟨_, st, G⟩ := C1.2.resolve_right (fun q => by cases q.1)
      obtain ⟨h1', E1, O1, R1⟩ := e_even_yes R o hk ham ha hb hn C1.1 G r1
      have M1 : RM s c v h1' := (M.same C1.1.same).sr (O1.K (by intro k i hk z; simp at z; rcases z with z | z <;> (subst z; cases hk))) (fun k i _ => O1.2 k i (by simp))
      obtain ⟨w2, h2, r2, C2⟩ := w_M_evens (n := n) (a := a) (b := b) M1 o (by omega) ha hb
      have hw2 := cbM_w C2
      subst hw2
      rw [hok] at r2 C2
      obtain ⟨_, _, G2⟩ := C2.2.resolve_right (fun q => by cases q.1)
      obtain ⟨h2', E2, O2, M2⟩ := m_even_yes M1 o hk ham ha hb hn C2.1 G2 r2
      have T1 : TP h1' := (t.same C1.1.same).sr (O1.K (by intro k i hk z; simp at z; rcases z with z | z <;> (subst z; cases hk)))
      have X1 : SMX h1' := (m.same C1.1.same).sr (O1.K (by intro k i hk z; simp at z; rcases z with z | z <;> (subst z; cases hk)))
      refine ⟨1, _, _, E1.d, E2.d, (T1.same C2.1.same).sr (O2.K (by intro k i hk z; simp at z; rcases z with z | z <;> (subst z; cases hk))), (X1.same C2.1.same).sr (O2.K (by intro k i hk z; simp at z; rcases z with z | z <;> (subst z; cases hk))), s, _, _, (R1.same C2.1.same).sr (O2.K (by intro k i hk z; simp at z; rcases z with z | z <;> (subst z; cases hk))), M2, o, ro.cEf o (fun i hi => ?_)⟩
      rw [hn] at hi
      have := st i hi
      cases hg : gtF s n a b i with
      | none => rw [stk_none hg] at this; cases this
      | some q => exact Or.inr ⟨q, snF_lt _ q hg, rfl⟩
  · exact ⟨-1, h, h, (e_evenN R o hgood).d, (m_evenN M o hgood).d, I⟩
end EVENOP3
