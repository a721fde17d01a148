/-! ===== MEET, MEETS: clauses ===== -/
section MEETS
variable {s : ST} {c v : RT} {h : HP}
theorem r_M_meetOf (R : RM s c v h) (o : OK s) {p q : Nat} (hp : p < zP s) (hq : q < zP s) : Run 1 j_M_meetOf [.ref 65, .int (nI p), .int (nI q)] h (some (.int (nI (mtN s v p q)))) h := by
  have hT := o.T; have hP := o.P; have hK := o.K; have hD := o.D; have hO := o.O; have hQ := o.Q; have hL := o.L
  have lp : ∀ d, d ≤ zD s → Wp 1 j_M_meetOf 5 [.ref 65, .int (nI p), .int (nI q), .int (nI (cnt (fun d => svo s v (nI p) d (-1) (zT s) = true ∧ svo s v (nI q) d (-1) (zT s) = true) d)), .int (nI d)] [] h (fun v' h2 => v' = some (.int (nI (mtN s v p q))) ∧ h2 = h) := by
    refine up_ind ?_ (fun d hd ih => ?_)
    · repeat (first | (refine W1 rfl ?_; try refine Wp.norm (L' := [_, _, _, _, _]) rfl ?_) | refine brT (by first | assumption | decide | omega) ?_ | refine brF (by first | assumption | decide | omega) ?_ | refine brTn (by first | assumption | decide | omega) ?_ | refine brFn (by first | assumption | decide | omega) ?_ | refine And.intro (vp_lit (by decide)) ?_ | refine And.intro (vp_in_nI (by omega) (by decide)) ?_ | ((first | change (_ → _) ∧ (_ → _) | change vp_in _ _ ∧ _ | change ¬ _ ∧ _); simp (disch := omega) only [nI_clamp, nI_leI, nI_ltI, nI_eq, nI_1, nI_add, nI_not_neg, nI_is_pos, nI_m1, nI_z, show Int32.toNatClampNeg 1 = 1 from rfl, R.dys]))
      try change _ ∧ _
      try first | exact ⟨rfl, rfl⟩ | exact ⟨Or.inr rfl, rfl, rfl⟩ | exact ⟨Or.inl rfl, rfl, rfl⟩ | exact ⟨trivial, trivial⟩ | exact ⟨rfl, trivial⟩ | exact ⟨Or.inr rfl, rfl, trivial⟩ | exact ⟨Or.inl rfl, rfl, trivial⟩
    · rw [cnt] at ih
      have hcd := cnt_le (fun d => svo s v (nI p) d (-1) (zT s) = true ∧ svo s v (nI q) d (-1) (zT s) = true) d
      generalize hN : cnt (fun d => svo s v (nI p) d (-1) (zT s) = true ∧ svo s v (nI q) d (-1) (zT s) = true) d = N at *
      repeat (first | (refine W1 rfl ?_; try refine Wp.norm (L' := [_, _, _, _, _]) rfl ?_) | refine brT (by first | assumption | decide | omega) ?_ | refine brF (by first | assumption | decide | omega) ?_ | refine brTn (by first | assumption | decide | omega) ?_ | refine brFn (by first | assumption | decide | omega) ?_ | refine And.intro (vp_lit (by decide)) ?_ | refine And.intro (vp_in_nI (by omega) (by decide)) ?_ | ((first | change (_ → _) ∧ (_ → _) | change vp_in _ _ ∧ _ | change ¬ _ ∧ _); simp (disch := omega) only [nI_clamp, nI_leI, nI_ltI, nI_eq, nI_1, nI_add, nI_not_neg, nI_is_pos, nI_m1, nI_z, show Int32.toNatClampNeg 1 = 1 from rfl, R.dys]))
      try change _ ∧ _
      refine Cl.of (r_M_servesOn R o (nI p) (by omega) (-1)) (by decide) ?_
      by_cases a1 : svo s v (nI p) d (-1) (zT s) = true
      · rw [if_pos a1]
        repeat (first | (refine W1 rfl ?_; try refine Wp.norm (L' := [_, _, _, _, _]) rfl ?_) | refine brT (by first | assumption | decide | omega) ?_ | refine brF (by first | assumption | decide | omega) ?_ | refine brTn (by first | assumption | decide | omega) ?_ | refine brFn (by first | assumption | decide | omega) ?_ | refine And.intro (vp_lit (by decide)) ?_ | refine And.intro (vp_in_nI (by omega) (by decide)) ?_ | ((first | change (_ → _) ∧ (_ → _) | change vp_in _ _ ∧ _ | change ¬ _ ∧ _); simp (disch := omega) only [nI_clamp, nI_leI, nI_ltI, nI_eq, nI_1, nI_add, nI_not_neg, nI_is_pos, nI_m1, nI_z]))
        try change _ ∧ _
        refine Cl.of (r_M_servesOn R o (nI q) (by omega) (-1)) (by decide) ?_
        by_cases a2 : svo s v (nI q) d (-1) (zT s) = true
        · rw [if_pos ⟨a1, a2⟩] at ih
          rw [if_pos a2]
          repeat (first | refine Wp.at ih rfl rfl ?_ rfl | (refine W1 rfl ?_; try refine Wp.norm (L' := [_, _, _, _, _]) rfl ?_) | refine brT (by first | assumption | decide | omega) ?_ | refine brF (by first | assumption | decide | omega) ?_ | refine brTn (by first | assumption | decide | omega) ?_ | refine brFn (by first | assumption | decide | omega) ?_ | refine And.intro (vp_lit (by decide)) ?_ | refine And.intro (vp_in_nI (by omega) (by decide)) ?_ | ((first | change (_ → _) ∧ (_ → _) | change vp_in _ _ ∧ _ | change ¬ _ ∧ _); simp (disch := omega) only [nI_clamp, nI_leI, nI_ltI, nI_eq, nI_1, nI_add, nI_not_neg, nI_is_pos, nI_m1, nI_z]))
          try change _ ∧ _
          first | rfl | (simp (disch := omega) only [nI_1, nI_add, nI_clamp] <;> first | done | rfl)
        · rw [if_neg (fun z => a2 z.2)] at ih
          rw [if_neg a2]
          repeat (first | refine Wp.at ih rfl rfl ?_ rfl | (refine W1 rfl ?_; try refine Wp.norm (L' := [_, _, _, _, _]) rfl ?_) | refine brT (by first | assumption | decide | omega) ?_ | refine brF (by first | assumption | decide | omega) ?_ | refine brTn (by first | assumption | decide | omega) ?_ | refine brFn (by first | assumption | decide | omega) ?_ | refine And.intro (vp_lit (by decide)) ?_ | refine And.intro (vp_in_nI (by omega) (by decide)) ?_ | ((first | change (_ → _) ∧ (_ → _) | change vp_in _ _ ∧ _ | change ¬ _ ∧ _); simp (disch := omega) only [nI_clamp, nI_leI, nI_ltI, nI_eq, nI_1, nI_add, nI_not_neg, nI_is_pos, nI_m1, nI_z]))
          try change _ ∧ _
          first | rfl | (simp (disch := omega) only [nI_1, nI_add, nI_clamp] <;> first | done | rfl)
      · rw [if_neg (fun z => a1 z.1)] at ih
        rw [if_neg a1]
        repeat (first | refine Wp.at ih rfl rfl ?_ rfl | (refine W1 rfl ?_; try refine Wp.norm (L' := [_, _, _, _, _]) rfl ?_) | refine brT (by first | assumption | decide | omega) ?_ | refine brF (by first | assumption | decide | omega) ?_ | refine brTn (by first | assumption | decide | omega) ?_ | refine brFn (by first | assumption | decide | omega) ?_ | refine And.intro (vp_lit (by decide)) ?_ | refine And.intro (vp_in_nI (by omega) (by decide)) ?_ | ((first | change (_ → _) ∧ (_ → _) | change vp_in _ _ ∧ _ | change ¬ _ ∧ _); simp (disch := omega) only [nI_clamp, nI_leI, nI_ltI, nI_eq, nI_1, nI_add, nI_not_neg, nI_is_pos, nI_m1, nI_z]))
        try change _ ∧ _
        first | rfl | (simp (disch := omega) only [nI_1, nI_add, nI_clamp] <;> first | done | rfl)
  refine Run.of rfl ?_
  refine Wp.norm (L' := [_, _, _, _, _]) rfl ?_
  have ih := lp 0 (Nat.zero_le _)
  repeat (first | refine Wp.at ih rfl rfl ?_ rfl | (refine W1 rfl ?_; try refine Wp.norm (L' := [_, _, _, _, _]) rfl ?_) | refine brT (by first | assumption | decide | omega) ?_ | refine brF (by first | assumption | decide | omega) ?_ | refine brTn (by first | assumption | decide | omega) ?_ | refine brFn (by first | assumption | decide | omega) ?_ | refine And.intro (vp_lit (by decide)) ?_ | refine And.intro (vp_in_nI (by omega) (by decide)) ?_ | ((first | change (_ → _) ∧ (_ → _) | change vp_in _ _ ∧ _ | change ¬ _ ∧ _); simp (disch := omega) only [nI_clamp, nI_leI, nI_ltI, nI_eq, nI_1, nI_add, nI_not_neg, nI_is_pos, nI_m1, nI_z]))
  try change _ ∧ _
  first | rfl | (simp (disch := omega) only [nI_1, nI_add, nI_clamp] <;> first | done | rfl)
theorem mtN_comm (p q : Nat) : mtN s v p q = mtN s v q p := cnt_congr (fun d _ => And.comm)
theorem mtN_le (o : OK s) (p q : Nat) : mtN s v p q ≤ 200 := Nat.le_trans (cnt_le _ _) o.D
theorem o_meet : op_30 Inv := fun x y => op_ro fun {h} s c v _ _ R M o _ => by
  have hT := o.T; have hP := o.P; have hK := o.K; have hD := o.D; have hO := o.O; have hQ := o.Q; have hL := o.L
  by_cases hg : ∃ p q, p < zP s ∧ q < zP s ∧ p ≠ q ∧ x = nI p ∧ y = nI q
  · obtain ⟨p, q, hp, hq, hne, rfl, rfl⟩ := hg
    refine ⟨nI (mtN s v p q), Run.d (d := 1) ?_, Run.d (d := 2) ?_⟩
    · show Run 1 j_E_meet _ _ _ _
      refine Run.of rfl ?_
      refine Wp.norm (L' := [_, _, _]) rfl ?_
      repeat (first | (refine W1 rfl ?_; try refine Wp.norm (L' := [_, _, _]) rfl ?_) | refine brT (by first | assumption | decide | omega) ?_ | refine brF (by first | assumption | decide | omega) ?_ | refine brTn (by first | assumption | decide | omega) ?_ | refine brFn (by first | assumption | decide | omega) ?_ | refine And.intro (vp_lit (by decide)) ?_ | refine And.intro (vp_in_nI (by omega) (by decide)) ?_ | ((first | change (_ → _) ∧ (_ → _) | change vp_in _ _ ∧ _ | change ¬ _ ∧ _); simp (disch := omega) only [nI_clamp, nI_leI, nI_ltI, nI_eq, nI_1, nI_add, nI_not_neg, nI_is_pos, nI_m1, nI_z]))
      try change _ ∧ _
      refine Cl.of (g_EP R o hp) (by decide) ?_
      repeat (first | (refine W1 rfl ?_; try refine Wp.norm (L' := [_, _, _]) rfl ?_) | refine brT (by first | assumption | decide | omega) ?_ | refine brF (by first | assumption | decide | omega) ?_ | refine brTn (by first | assumption | decide | omega) ?_ | refine brFn (by first | assumption | decide | omega) ?_ | refine And.intro (vp_lit (by decide)) ?_ | refine And.intro (vp_in_nI (by omega) (by decide)) ?_ | ((first | change (_ → _) ∧ (_ → _) | change vp_in _ _ ∧ _ | change ¬ _ ∧ _); simp (disch := omega) only [nI_clamp, nI_leI, nI_ltI, nI_eq, nI_1, nI_add, nI_not_neg, nI_is_pos, nI_m1, nI_z]))
      try change _ ∧ _
      refine Cl.of (g_EP R o hq) (by decide) ?_
      repeat (first | (refine W1 rfl ?_; try refine Wp.norm (L' := [_, _, _]) rfl ?_) | refine brT (by first | assumption | decide | omega) ?_ | refine brF (by first | assumption | decide | omega) ?_ | refine brTn (by first | assumption | decide | omega) ?_ | refine brFn (by first | assumption | decide | omega) ?_ | refine And.intro (vp_lit (by decide)) ?_ | refine And.intro (vp_in_nI (by omega) (by decide)) ?_ | ((first | change (_ → _) ∧ (_ → _) | change vp_in _ _ ∧ _ | change ¬ _ ∧ _); simp (disch := omega) only [nI_clamp, nI_leI, nI_ltI, nI_eq, nI_1, nI_add, nI_not_neg, nI_is_pos, nI_m1, nI_z]))
      try change _ ∧ _
      refine Cl.of (r_Rota_daysTogether R o hp hq) (by decide) ?_
      repeat (first | (refine W1 rfl ?_; try refine Wp.norm (L' := [_, _, _]) rfl ?_) | refine brT (by first | assumption | decide | omega) ?_ | refine brF (by first | assumption | decide | omega) ?_ | refine brTn (by first | assumption | decide | omega) ?_ | refine brFn (by first | assumption | decide | omega) ?_ | refine And.intro (vp_lit (by decide)) ?_ | refine And.intro (vp_in_nI (by omega) (by decide)) ?_ | ((first | change (_ → _) ∧ (_ → _) | change vp_in _ _ ∧ _ | change ¬ _ ∧ _); simp (disch := omega) only [nI_clamp, nI_leI, nI_ltI, nI_eq, nI_1, nI_add, nI_not_neg, nI_is_pos, nI_m1, nI_z]))
      try change _ ∧ _
      try first | exact ⟨rfl, rfl⟩ | exact ⟨Or.inr rfl, rfl, rfl⟩ | exact ⟨Or.inl rfl, rfl, rfl⟩ | exact ⟨trivial, trivial⟩ | exact ⟨rfl, trivial⟩ | exact ⟨Or.inr rfl, rfl, trivial⟩ | exact ⟨Or.inl rfl, rfl, trivial⟩
    · show Run 2 j_M_meet _ _ _ _
      refine Run.of rfl ?_
      refine Wp.norm (L' := [_, _, _]) rfl ?_
      repeat (first | (refine W1 rfl ?_; try refine Wp.norm (L' := [_, _, _]) rfl ?_) | refine brT (by first | assumption | decide | omega) ?_ | refine brF (by first | assumption | decide | omega) ?_ | refine brTn (by first | assumption | decide | omega) ?_ | refine brFn (by first | assumption | decide | omega) ?_ | refine And.intro (vp_lit (by decide)) ?_ | refine And.intro (vp_in_nI (by omega) (by decide)) ?_ | ((first | change (_ → _) ∧ (_ → _) | change vp_in _ _ ∧ _ | change ¬ _ ∧ _); simp (disch := omega) only [nI_clamp, nI_leI, nI_ltI, nI_eq, nI_1, nI_add, nI_not_neg, nI_is_pos, nI_m1, nI_z]))
      try change _ ∧ _
      refine Cl.of (g_MP M o hp) (by decide) ?_
      repeat (first | (refine W1 rfl ?_; try refine Wp.norm (L' := [_, _, _]) rfl ?_) | refine brT (by first | assumption | decide | omega) ?_ | refine brF (by first | assumption | decide | omega) ?_ | refine brTn (by first | assumption | decide | omega) ?_ | refine brFn (by first | assumption | decide | omega) ?_ | refine And.intro (vp_lit (by decide)) ?_ | refine And.intro (vp_in_nI (by omega) (by decide)) ?_ | ((first | change (_ → _) ∧ (_ → _) | change vp_in _ _ ∧ _ | change ¬ _ ∧ _); simp (disch := omega) only [nI_clamp, nI_leI, nI_ltI, nI_eq, nI_1, nI_add, nI_not_neg, nI_is_pos, nI_m1, nI_z]))
      try change _ ∧ _
      refine Cl.of (g_MP M o hq) (by decide) ?_
      repeat (first | (refine W1 rfl ?_; try refine Wp.norm (L' := [_, _, _]) rfl ?_) | refine brT (by first | assumption | decide | omega) ?_ | refine brF (by first | assumption | decide | omega) ?_ | refine brTn (by first | assumption | decide | omega) ?_ | refine brFn (by first | assumption | decide | omega) ?_ | refine And.intro (vp_lit (by decide)) ?_ | refine And.intro (vp_in_nI (by omega) (by decide)) ?_ | ((first | change (_ → _) ∧ (_ → _) | change vp_in _ _ ∧ _ | change ¬ _ ∧ _); simp (disch := omega) only [nI_clamp, nI_leI, nI_ltI, nI_eq, nI_1, nI_add, nI_not_neg, nI_is_pos, nI_m1, nI_z]))
      try change _ ∧ _
      refine Cl.of (r_M_meetOf M o hp hq) (by decide) ?_
      repeat (first | (refine W1 rfl ?_; try refine Wp.norm (L' := [_, _, _]) rfl ?_) | refine brT (by first | assumption | decide | omega) ?_ | refine brF (by first | assumption | decide | omega) ?_ | refine brTn (by first | assumption | decide | omega) ?_ | refine brFn (by first | assumption | decide | omega) ?_ | refine And.intro (vp_lit (by decide)) ?_ | refine And.intro (vp_in_nI (by omega) (by decide)) ?_ | ((first | change (_ → _) ∧ (_ → _) | change vp_in _ _ ∧ _ | change ¬ _ ∧ _); simp (disch := omega) only [nI_clamp, nI_leI, nI_ltI, nI_eq, nI_1, nI_add, nI_not_neg, nI_is_pos, nI_m1, nI_z]))
      try change _ ∧ _
      try first | exact ⟨rfl, rfl⟩ | exact ⟨Or.inr rfl, rfl, rfl⟩ | exact ⟨Or.inl rfl, rfl, rfl⟩ | exact ⟨trivial, trivial⟩ | exact ⟨rfl, trivial⟩ | exact ⟨Or.inr rfl, rfl, trivial⟩ | exact ⟨Or.inl rfl, rfl, trivial⟩
  · refine ⟨-1, Run.d (d := 1) ?_, Run.d (d := 2) ?_⟩
    · show Run 1 j_E_meet _ _ _ _
      refine Run.of rfl ?_
      refine Wp.norm (L' := [_, _, _]) rfl ?_
      repeat (first | (refine W1 rfl ?_; try refine Wp.norm (L' := [_, _, _]) rfl ?_) | refine brT (by first | assumption | decide | omega) ?_ | refine brF (by first | assumption | decide | omega) ?_ | refine brTn (by first | assumption | decide | omega) ?_ | refine brFn (by first | assumption | decide | omega) ?_ | refine And.intro (vp_lit (by decide)) ?_ | refine And.intro (vp_in_nI (by omega) (by decide)) ?_ | ((first | change (_ → _) ∧ (_ → _) | change vp_in _ _ ∧ _ | change ¬ _ ∧ _); simp (disch := omega) only [nI_clamp, nI_leI, nI_ltI, nI_eq, nI_1, nI_add, nI_not_neg, nI_is_pos, nI_m1, nI_z]))
      try change _ ∧ _
      rcases ix_cases x (n := zP s) (by omega) with ⟨p, hp, rfl⟩ | hx
      · refine Cl.of (g_EP R o hp) (by decide) ?_
        repeat (first | (refine W1 rfl ?_; try refine Wp.norm (L' := [_, _, _]) rfl ?_) | refine brT (by first | assumption | decide | omega) ?_ | refine brF (by first | assumption | decide | omega) ?_ | refine brTn (by first | assumption | decide | omega) ?_ | refine brFn (by first | assumption | decide | omega) ?_ | refine And.intro (vp_lit (by decide)) ?_ | refine And.intro (vp_in_nI (by omega) (by decide)) ?_ | ((first | change (_ → _) ∧ (_ → _) | change vp_in _ _ ∧ _ | change ¬ _ ∧ _); simp (disch := omega) only [nI_clamp, nI_leI, nI_ltI, nI_eq, nI_1, nI_add, nI_not_neg, nI_is_pos, nI_m1, nI_z]))
        try change _ ∧ _
        rcases ix_cases y (n := zP s) (by omega) with ⟨q, hq, rfl⟩ | hy
        · refine Cl.of (g_EP R o hq) (by decide) ?_
          have : p = q := Classical.byContradiction (fun z => hg ⟨p, q, hp, hq, z, rfl, rfl⟩)
          repeat (first | (refine W1 rfl ?_; try refine Wp.norm (L' := [_, _, _]) rfl ?_) | refine brT (by first | assumption | decide | omega) ?_ | refine brF (by first | assumption | decide | omega) ?_ | refine brTn (by first | assumption | decide | omega) ?_ | refine brFn (by first | assumption | decide | omega) ?_ | refine And.intro (vp_lit (by decide)) ?_ | refine And.intro (vp_in_nI (by omega) (by decide)) ?_ | ((first | change (_ → _) ∧ (_ → _) | change vp_in _ _ ∧ _ | change ¬ _ ∧ _); simp (disch := omega) only [nI_clamp, nI_leI, nI_ltI, nI_eq, nI_1, nI_add, nI_not_neg, nI_is_pos, nI_m1, nI_z]))
          try change _ ∧ _
          try first | exact ⟨rfl, rfl⟩ | exact ⟨Or.inr rfl, rfl, rfl⟩ | exact ⟨Or.inl rfl, rfl, rfl⟩ | exact ⟨trivial, trivial⟩ | exact ⟨rfl, trivial⟩ | exact ⟨Or.inr rfl, rfl, trivial⟩ | exact ⟨Or.inl rfl, rfl, trivial⟩
        · refine Cl.of (g_EPn R hy) (by decide) ?_
          repeat (first | (refine W1 rfl ?_; try refine Wp.norm (L' := [_, _, _]) rfl ?_) | refine brT (by first | assumption | decide | omega) ?_ | refine brF (by first | assumption | decide | omega) ?_ | refine brTn (by first | assumption | decide | omega) ?_ | refine brFn (by first | assumption | decide | omega) ?_ | refine And.intro (vp_lit (by decide)) ?_ | refine And.intro (vp_in_nI (by omega) (by decide)) ?_ | ((first | change (_ → _) ∧ (_ → _) | change vp_in _ _ ∧ _ | change ¬ _ ∧ _); simp (disch := omega) only [nI_clamp, nI_leI, nI_ltI, nI_eq, nI_1, nI_add, nI_not_neg, nI_is_pos, nI_m1, nI_z]))
          try change _ ∧ _
          try first | exact ⟨rfl, rfl⟩ | exact ⟨Or.inr rfl, rfl, rfl⟩ | exact ⟨Or.inl rfl, rfl, rfl⟩ | exact ⟨trivial, trivial⟩ | exact ⟨rfl, trivial⟩ | exact ⟨Or.inr rfl, rfl, trivial⟩ | exact ⟨Or.inl rfl, rfl, trivial⟩
      · refine Cl.of (g_EPn R hx) (by decide) ?_
        repeat (first | (refine W1 rfl ?_; try refine Wp.norm (L' := [_, _, _]) rfl ?_) | refine brT (by first | assumption | decide | omega) ?_ | refine brF (by first | assumption | decide | omega) ?_ | refine brTn (by first | assumption | decide | omega) ?_ | refine brFn (by first | assumption | decide | omega) ?_ | refine And.intro (vp_lit (by decide)) ?_ | refine And.intro (vp_in_nI (by omega) (by decide)) ?_ | ((first | change (_ → _) ∧ (_ → _) | change vp_in _ _ ∧ _ | change ¬ _ ∧ _); simp (disch := omega) only [nI_clamp, nI_leI, nI_ltI, nI_eq, nI_1, nI_add, nI_not_neg, nI_is_pos, nI_m1, nI_z]))
        try change _ ∧ _
        try first | exact ⟨rfl, rfl⟩ | exact ⟨Or.inr rfl, rfl, rfl⟩ | exact ⟨Or.inl rfl, rfl, rfl⟩ | exact ⟨trivial, trivial⟩ | exact ⟨rfl, trivial⟩ | exact ⟨Or.inr rfl, rfl, trivial⟩ | exact ⟨Or.inl rfl, rfl, trivial⟩
    · show Run 2 j_M_meet _ _ _ _
      refine Run.of rfl ?_
      refine Wp.norm (L' := [_, _, _]) rfl ?_
      repeat (first | (refine W1 rfl ?_; try refine Wp.norm (L' := [_, _, _]) rfl ?_) | refine brT (by first | assumption | decide | omega) ?_ | refine brF (by first | assumption | decide | omega) ?_ | refine brTn (by first | assumption | decide | omega) ?_ | refine brFn (by first | assumption | decide | omega) ?_ | refine And.intro (vp_lit (by decide)) ?_ | refine And.intro (vp_in_nI (by omega) (by decide)) ?_ | ((first | change (_ → _) ∧ (_ → _) | change vp_in _ _ ∧ _ | change ¬ _ ∧ _); simp (disch := omega) only [nI_clamp, nI_leI, nI_ltI, nI_eq, nI_1, nI_add, nI_not_neg, nI_is_pos, nI_m1, nI_z]))
      try change _ ∧ _
      rcases ix_cases x (n := zP s) (by omega) with ⟨p, hp, rfl⟩ | hx
      · refine Cl.of (g_MP M o hp) (by decide) ?_
        repeat (first | (refine W1 rfl ?_; try refine Wp.norm (L' := [_, _, _]) rfl ?_) | refine brT (by first | assumption | decide | omega) ?_ | refine brF (by first | assumption | decide | omega) ?_ | refine brTn (by first | assumption | decide | omega) ?_ | refine brFn (by first | assumption | decide | omega) ?_ | refine And.intro (vp_lit (by decide)) ?_ | refine And.intro (vp_in_nI (by omega) (by decide)) ?_ | ((first | change (_ → _) ∧ (_ → _) | change vp_in _ _ ∧ _ | change ¬ _ ∧ _); simp (disch := omega) only [nI_clamp, nI_leI, nI_ltI, nI_eq, nI_1, nI_add, nI_not_neg, nI_is_pos, nI_m1, nI_z]))
        try change _ ∧ _
        rcases ix_cases y (n := zP s) (by omega) with ⟨q, hq, rfl⟩ | hy
        · refine Cl.of (g_MP M o hq) (by decide) ?_
          have : p = q := Classical.byContradiction (fun z => hg ⟨p, q, hp, hq, z, rfl, rfl⟩)
          repeat (first | (refine W1 rfl ?_; try refine Wp.norm (L' := [_, _, _]) rfl ?_) | refine brT (by first | assumption | decide | omega) ?_ | refine brF (by first | assumption | decide | omega) ?_ | refine brTn (by first | assumption | decide | omega) ?_ | refine brFn (by first | assumption | decide | omega) ?_ | refine And.intro (vp_lit (by decide)) ?_ | refine And.intro (vp_in_nI (by omega) (by decide)) ?_ | ((first | change (_ → _) ∧ (_ → _) | change vp_in _ _ ∧ _ | change ¬ _ ∧ _); simp (disch := omega) only [nI_clamp, nI_leI, nI_ltI, nI_eq, nI_1, nI_add, nI_not_neg, nI_is_pos, nI_m1, nI_z]))
          try change _ ∧ _
          try first | exact ⟨rfl, rfl⟩ | exact ⟨Or.inr rfl, rfl, rfl⟩ | exact ⟨Or.inl rfl, rfl, rfl⟩ | exact ⟨trivial, trivial⟩ | exact ⟨rfl, trivial⟩ | exact ⟨Or.inr rfl, rfl, trivial⟩ | exact ⟨Or.inl rfl, rfl, trivial⟩
        · refine Cl.of (g_MPn M o hy) (by decide) ?_
          repeat (first | (refine W1 rfl ?_; try refine Wp.norm (L' := [_, _, _]) rfl ?_) | refine brT (by first | assumption | decide | omega) ?_ | refine brF (by first | assumption | decide | omega) ?_ | refine brTn (by first | assumption | decide | omega) ?_ | refine brFn (by first | assumption | decide | omega) ?_ | refine And.intro (vp_lit (by decide)) ?_ | refine And.intro (vp_in_nI (by omega) (by decide)) ?_ | ((first | change (_ → _) ∧ (_ → _) | change vp_in _ _ ∧ _ | change ¬ _ ∧ _); simp (disch := omega) only [nI_clamp, nI_leI, nI_ltI, nI_eq, nI_1, nI_add, nI_not_neg, nI_is_pos, nI_m1, nI_z]))
          try change _ ∧ _
          try first | exact ⟨rfl, rfl⟩ | exact ⟨Or.inr rfl, rfl, rfl⟩ | exact ⟨Or.inl rfl, rfl, rfl⟩ | exact ⟨trivial, trivial⟩ | exact ⟨rfl, trivial⟩ | exact ⟨Or.inr rfl, rfl, trivial⟩ | exact ⟨Or.inl rfl, rfl, trivial⟩
      · refine Cl.of (g_MPn M o hx) (by decide) ?_
        repeat (first | (refine W1 rfl ?_; try refine Wp.norm (L' := [_, _, _]) rfl ?_) | refine brT (by first | assumption | decide | omega) ?_ | refine brF (by first | assumption | decide | omega) ?_ | refine brTn (by first | assumption | decide | omega) ?_ | refine brFn (by first | assumption | decide | omega) ?_ | refine And.intro (vp_lit (by decide)) ?_ | refine And.intro (vp_in_nI (by omega) (by decide)) ?_ | ((first | change (_ → _) ∧ (_ → _) | change vp_in _ _ ∧ _ | change ¬ _ ∧ _); simp (disch := omega) only [nI_clamp, nI_leI, nI_ltI, nI_eq, nI_1, nI_add, nI_not_neg, nI_is_pos, nI_m1, nI_z]))
        try change _ ∧ _
        try first | exact ⟨rfl, rfl⟩ | exact ⟨Or.inr rfl, rfl, rfl⟩ | exact ⟨Or.inl rfl, rfl, rfl⟩ | exact ⟨trivial, trivial⟩ | exact ⟨rfl, trivial⟩ | exact ⟨Or.inr rfl, rfl, trivial⟩ | exact ⟨Or.inl rfl, rfl, trivial⟩
/-- the most, or the least, of some numbers; none: -1 -/
def bst (most : Int32) (S : Nat → Prop) (x : Int32) : Prop := (x = -1 ∧ ∀ y, ¬ S y) ∨ ∃ m, m ≤ 200 ∧ x = nI m ∧ S m ∧ ∀ y, S y → if most = 0 then m ≤ y else y ≤ m
theorem bst_one {most : Int32} {S : Nat → Prop} {x y : Int32} (h1 : bst most S x) (h2 : bst most S y) : x = y := by
  rcases h1 with ⟨e1, n1⟩ | ⟨a, _, e1, s1, m1⟩
  · rcases h2 with ⟨e2, n2⟩ | ⟨b, _, e2, s2, m2⟩
    · rw [e1, e2]
    · exact absurd s2 (n1 _)
  · rcases h2 with ⟨e2, n2⟩ | ⟨b, _, e2, s2, m2⟩
    · exact absurd s1 (n2 _)
    · have q1 := m1 b s2
      have q2 := m2 a s1
      have : a = b := by
        by_cases hm : most = 0
        · rw [if_pos hm] at q1 q2; omega
        · rw [if_neg hm] at q1 q2; omega
      rw [e1, e2, this]
/-- the next best -/
def bnx (most x : Int32) (m : Nat) : Int32 := if x = -1 ∨ (most = 0 ∧ nI m < x) ∨ (¬ most = 0 ∧ x < nI m) then nI m else x
theorem bst_next {most : Int32} {S : Nat → Prop} {x : Int32} {m : Nat} (hm : m ≤ 200) (h1 : bst most S x) : bst most (fun y => S y ∨ y = m) (bnx most x m) := by
  unfold bnx
  rcases h1 with ⟨e1, n1⟩ | ⟨a, ha, e1, s1, m1⟩
  · rw [if_pos (Or.inl e1)]
    refine Or.inr ⟨m, hm, rfl, Or.inr rfl, fun y hy => ?_⟩
    rcases hy with hy | rfl
    · exact absurd hy (n1 y)
    · split <;> exact Nat.le_refl _
  · subst e1
    by_cases h0 : most = 0
    · have q := nI_ltI (a := m) (b := a) (by omega) (by omega)
      by_cases hl : m < a
      · rw [if_pos (Or.inr (Or.inl ⟨h0, q.mpr hl⟩))]
        refine Or.inr ⟨m, hm, rfl, Or.inr rfl, fun y hy => ?_⟩
        rw [if_pos h0]
        rcases hy with hy | rfl
        · have := m1 y hy; rw [if_pos h0] at this; omega
        · exact Nat.le_refl _
      · rw [if_neg (by rintro (z | z | z); exact (nI_m1 (by omega)).mp z; exact hl (q.mp z.2); exact z.1 h0)]
        refine Or.inr ⟨a, ha, rfl, Or.inl s1, fun y hy => ?_⟩
        rw [if_pos h0]
        rcases hy with hy | rfl
        · have := m1 y hy; rw [if_pos h0] at this; omega
        · omega
    · have q := nI_ltI (a := a) (b := m) (by omega) (by omega)
      by_cases hl : a < m
      · rw [if_pos (Or.inr (Or.inr ⟨h0, q.mpr hl⟩))]
        refine Or.inr ⟨m, hm, rfl, Or.inr rfl, fun y hy => ?_⟩
        rw [if_neg h0]
        rcases hy with hy | rfl
        · have := m1 y hy; rw [if_neg h0] at this; omega
        · exact Nat.le_refl _
      · rw [if_neg (by rintro (z | z | z); exact (nI_m1 (by omega)).mp z; exact h0 z.1; exact hl (q.mp z.2))]
        refine Or.inr ⟨a, ha, rfl, Or.inl s1, fun y hy => ?_⟩
        rw [if_neg h0]
        rcases hy with hy | rfl
        · have := m1 y hy; rw [if_neg h0] at this; omega
        · omega
theorem bst_iff {most : Int32} {S S' : Nat → Prop} {x : Int32} (e : ∀ y, S y ↔ S' y) (h1 : bst most S x) : bst most S' x := by
  rcases h1 with ⟨e1, n1⟩ | ⟨a, ha, e1, s1, m1⟩
  · exact Or.inl ⟨e1, fun y hy => n1 y ((e y).mpr hy)⟩
  · exact Or.inr ⟨a, ha, e1, (e a).mp s1, fun y hy => m1 y ((e y).mpr hy)⟩
/-- pairs seen by the class: (i, j) with i before a, or i = a and j before b; by the model: (j, i) -/
def prC (s : ST) (v : RT) (a b : Nat) (y : Nat) : Prop := ∃ i j, i < j ∧ j < zP s ∧ (i < a ∨ (i = a ∧ j < b)) ∧ y = mtN s v i j
def prM (s : ST) (v : RT) (a b : Nat) (y : Nat) : Prop := ∃ i j, j < i ∧ (i < a ∨ (i = a ∧ j < b)) ∧ y = mtN s v i j
theorem w_E_meets (R : RC s c v h) (o : OK s) {w : Int32} (hw : w = 0 ∨ w = 1) : ∃ x h', Run 1 j_E_meets [.ref 0, .int w] h x h' ∧ ∃ y, x = some (.int y) ∧ h' = h ∧ bst w (prC s v (zP s) 0) y := by
  have hT := o.T; have hP := o.P; have hK := o.K; have hD := o.D; have hO := o.O; have hQ := o.Q; have hL := o.L
  refine Run.ofP rfl ?_
  refine Wp.norm (L' := [_, _, _, _, _, _]) rfl ?_
  have lp : ∀ a, a ≤ zP s → ∀ x x4 x5, bst w (prC s v a 0) x → Wp 1 j_E_meets 4 [.ref 0, .int w, .int x, .int (nI a), x4, x5] [] h (fun x h' => ∃ y, x = some (.int y) ∧ h' = h ∧ bst w (prC s v (zP s) 0) y) := by
    refine up_ind ?_ (fun a ha ih => ?_)
    · intro x x4 x5 B
      repeat (first | (refine W1 rfl ?_; try refine Wp.norm (L' := [_, _, _, _, _, _]) rfl ?_) | refine brT (by first | assumption | decide | omega) ?_ | refine brF (by first | assumption | decide | omega) ?_ | refine brTn (by first | assumption | decide | omega) ?_ | refine brFn (by first | assumption | decide | omega) ?_ | refine And.intro (vp_lit (by decide)) ?_ | refine And.intro (vp_in_nI (by omega) (by decide)) ?_ | ((first | change (_ → _) ∧ (_ → _) | change vp_in _ _ ∧ _ | change ¬ _ ∧ _); simp (disch := omega) only [nI_clamp, nI_leI, nI_ltI, nI_eq, nI_1, nI_add, nI_not_neg, nI_is_pos, nI_m1, nI_z, R.P]))
      try change _ ∧ _
      exact ⟨x, rfl, rfl, B⟩
    · have inner : ∀ b, b ≤ zP s → a + 1 ≤ b → ∀ x x5, bst w (prC s v a b) x → Wp 1 j_E_meets 20 [.ref 0, .int w, .int x, .int (nI a), .int (nI b), x5] [] h (fun x h' => ∃ y, x = some (.int y) ∧ h' = h ∧ bst w (prC s v (zP s) 0) y) := by
        refine up_ind ?_ (fun b hb ih2 => ?_)
        · intro _ x x5 B
          have ih := ih x (.int (nI (zP s))) x5 (bst_iff (fun y => by
            constructor
            · rintro ⟨i, j, h1, h2, h3, h4⟩
              exact ⟨i, j, h1, h2, Or.inl (by omega), h4⟩
            · rintro ⟨i, j, h1, h2, h3, h4⟩
              exact ⟨i, j, h1, h2, by omega, h4⟩) B)
          (refine W1 rfl ?_; try refine Wp.norm (L' := [_, _, _, _, _, _]) rfl ?_)
          repeat (first | refine Wp.at ih rfl rfl ?_ rfl | (refine W1 rfl ?_; try refine Wp.norm (L' := [_, _, _, _, _, _]) rfl ?_) | refine brT (by first | assumption | decide | omega) ?_ | refine brF (by first | assumption | decide | omega) ?_ | refine brTn (by first | assumption | decide | omega) ?_ | refine brFn (by first | assumption | decide | omega) ?_ | refine And.intro (vp_lit (by decide)) ?_ | refine And.intro (vp_in_nI (by omega) (by decide)) ?_ | ((first | change (_ → _) ∧ (_ → _) | change vp_in _ _ ∧ _ | change ¬ _ ∧ _); simp (disch := omega) only [nI_clamp, nI_leI, nI_ltI, nI_eq, nI_1, nI_add, nI_not_neg, nI_is_pos, nI_m1, nI_z, R.P]))
          try change _ ∧ _
          first | rfl | (simp (disch := omega) only [nI_1, nI_add, nI_clamp] <;> first | done | rfl)
        · intro hab x x5 B
          have hm := mtN_le (v := v) o a b
          have ih2 := fun x' (e : x' = bnx w x (mtN s v a b)) => ih2 (by omega) x' (.int (nI (mtN s v a b))) (by
            rw [e]
            refine bst_iff (fun y => ?_) (bst_next hm B)
            constructor
            · rintro (⟨i, j, h1, h2, h3, h4⟩ | h1)
              · exact ⟨i, j, h1, h2, by omega, h4⟩
              · exact ⟨a, b, by omega, by omega, Or.inr ⟨rfl, by omega⟩, h1⟩
            · rintro ⟨i, j, h1, h2, h3, h4⟩
              by_cases e : i = a ∧ j = b
              · rw [e.1, e.2] at h4
                exact Or.inr h4
              · exact Or.inl ⟨i, j, h1, h2, by omega, h4⟩)
          unfold bnx at ih2
          repeat (first | (refine W1 rfl ?_; try refine Wp.norm (L' := [_, _, _, _, _, _]) rfl ?_) | refine brT (by first | assumption | decide | omega) ?_ | refine brF (by first | assumption | decide | omega) ?_ | refine brTn (by first | assumption | decide | omega) ?_ | refine brFn (by first | assumption | decide | omega) ?_ | refine And.intro (vp_lit (by decide)) ?_ | refine And.intro (vp_in_nI (by omega) (by decide)) ?_ | ((first | change (_ → _) ∧ (_ → _) | change vp_in _ _ ∧ _ | change ¬ _ ∧ _); simp (disch := omega) only [nI_clamp, nI_leI, nI_ltI, nI_eq, nI_1, nI_add, nI_not_neg, nI_is_pos, nI_m1, nI_z, R.P]))
          try change _ ∧ _
          refine Cl.of (r_Rota_daysTogether R o ha hb) (by decide) ?_
          repeat (first | (refine W1 rfl ?_; try refine Wp.norm (L' := [_, _, _, _, _, _]) rfl ?_) | refine brT (by first | assumption | decide | omega) ?_ | refine brF (by first | assumption | decide | omega) ?_ | refine brTn (by first | assumption | decide | omega) ?_ | refine brFn (by first | assumption | decide | omega) ?_ | refine And.intro (vp_lit (by decide)) ?_ | refine And.intro (vp_in_nI (by omega) (by decide)) ?_ | ((first | change (_ → _) ∧ (_ → _) | change vp_in _ _ ∧ _ | change ¬ _ ∧ _); simp (disch := omega) only [nI_clamp, nI_leI, nI_ltI, nI_eq, nI_1, nI_add, nI_not_neg, nI_is_pos, nI_m1, nI_z]))
          try change _ ∧ _
          refine ⟨fun q => ?_, fun q => ?_⟩
          · have ih := ih2 _ (by rw [if_pos (Or.inl q)])
            repeat (first | refine Wp.at ih rfl rfl ?_ rfl | (refine W1 rfl ?_; try refine Wp.norm (L' := [_, _, _, _, _, _]) rfl ?_) | refine brT (by first | assumption | decide | omega) ?_ | refine brF (by first | assumption | decide | omega) ?_ | refine brTn (by first | assumption | decide | omega) ?_ | refine brFn (by first | assumption | decide | omega) ?_ | refine And.intro (vp_lit (by decide)) ?_ | refine And.intro (vp_in_nI (by omega) (by decide)) ?_ | ((first | change (_ → _) ∧ (_ → _) | change vp_in _ _ ∧ _ | change ¬ _ ∧ _); simp (disch := omega) only [nI_clamp, nI_leI, nI_ltI, nI_eq, nI_1, nI_add, nI_not_neg, nI_is_pos, nI_m1, nI_z]))
            try change _ ∧ _
            first | rfl | (simp (disch := omega) only [nI_1, nI_add, nI_clamp] <;> first | done | rfl)
          · repeat (first | (refine W1 rfl ?_; try refine Wp.norm (L' := [_, _, _, _, _, _]) rfl ?_) | refine brT (by first | assumption | decide | omega) ?_ | refine brF (by first | assumption | decide | omega) ?_ | refine brTn (by first | assumption | decide | omega) ?_ | refine brFn (by first | assumption | decide | omega) ?_ | refine And.intro (vp_lit (by decide)) ?_ | refine And.intro (vp_in_nI (by omega) (by decide)) ?_ | ((first | change (_ → _) ∧ (_ → _) | change vp_in _ _ ∧ _ | change ¬ _ ∧ _); simp (disch := omega) only [nI_clamp, nI_leI, nI_ltI, nI_eq, nI_1, nI_add, nI_not_neg, nI_is_pos, nI_m1, nI_z]))
            try change _ ∧ _
            refine ⟨fun q2 => ?_, fun q2 => ?_⟩
            · repeat (first | (refine W1 rfl ?_; try refine Wp.norm (L' := [_, _, _, _, _, _]) rfl ?_) | refine brT (by first | assumption | decide | omega) ?_ | refine brF (by first | assumption | decide | omega) ?_ | refine brTn (by first | assumption | decide | omega) ?_ | refine brFn (by first | assumption | decide | omega) ?_ | refine And.intro (vp_lit (by decide)) ?_ | refine And.intro (vp_in_nI (by omega) (by decide)) ?_ | ((first | change (_ → _) ∧ (_ → _) | change vp_in _ _ ∧ _ | change ¬ _ ∧ _); simp (disch := omega) only [nI_clamp, nI_leI, nI_ltI, nI_eq, nI_1, nI_add, nI_not_neg, nI_is_pos, nI_m1, nI_z]))
              try change _ ∧ _
              refine ⟨fun q3 => ?_, fun q3 => ?_⟩
              · have ih := ih2 x (by rw [if_neg (by rintro (z | z | z); exact q z; exact absurd z.2 (Int32.not_lt.mpr q3); exact z.1 q2)])
                repeat (first | refine Wp.at ih rfl rfl ?_ rfl | (refine W1 rfl ?_; try refine Wp.norm (L' := [_, _, _, _, _, _]) rfl ?_) | refine brT (by first | assumption | decide | omega) ?_ | refine brF (by first | assumption | decide | omega) ?_ | refine brTn (by first | assumption | decide | omega) ?_ | refine brFn (by first | assumption | decide | omega) ?_ | refine And.intro (vp_lit (by decide)) ?_ | refine And.intro (vp_in_nI (by omega) (by decide)) ?_ | ((first | change (_ → _) ∧ (_ → _) | change vp_in _ _ ∧ _ | change ¬ _ ∧ _); simp (disch := omega) only [nI_clamp, nI_leI, nI_ltI, nI_eq, nI_1, nI_add, nI_not_neg, nI_is_pos, nI_m1, nI_z]))
                try change _ ∧ _
                first | rfl | (simp (disch := omega) only [nI_1, nI_add, nI_clamp] <;> first | done | rfl)
              · have ih := ih2 (nI (mtN s v a b)) (by rw [if_pos (Or.inr (Or.inl ⟨q2, Int32.not_le.mp q3⟩))])
                repeat (first | refine Wp.at ih rfl rfl ?_ rfl | (refine W1 rfl ?_; try refine Wp.norm (L' := [_, _, _, _, _, _]) rfl ?_) | refine brT (by first | assumption | decide | omega) ?_ | refine brF (by first | assumption | decide | omega) ?_ | refine brTn (by first | assumption | decide | omega) ?_ | refine brFn (by first | assumption | decide | omega) ?_ | refine And.intro (vp_lit (by decide)) ?_ | refine And.intro (vp_in_nI (by omega) (by decide)) ?_ | ((first | change (_ → _) ∧ (_ → _) | change vp_in _ _ ∧ _ | change ¬ _ ∧ _); simp (disch := omega) only [nI_clamp, nI_leI, nI_ltI, nI_eq, nI_1, nI_add, nI_not_neg, nI_is_pos, nI_m1, nI_z]))
                try change _ ∧ _
                first | rfl | (simp (disch := omega) only [nI_1, nI_add, nI_clamp] <;> first | done | rfl)
            · repeat (first | (refine W1 rfl ?_; try refine Wp.norm (L' := [_, _, _, _, _, _]) rfl ?_) | refine brT (by first | assumption | decide | omega) ?_ | refine brF (by first | assumption | decide | omega) ?_ | refine brTn (by first | assumption | decide | omega) ?_ | refine brFn (by first | assumption | decide | omega) ?_ | refine And.intro (vp_lit (by decide)) ?_ | refine And.intro (vp_in_nI (by omega) (by decide)) ?_ | ((first | change (_ → _) ∧ (_ → _) | change vp_in _ _ ∧ _ | change ¬ _ ∧ _); simp (disch := omega) only [nI_clamp, nI_leI, nI_ltI, nI_eq, nI_1, nI_add, nI_not_neg, nI_is_pos, nI_m1, nI_z]))
              try change _ ∧ _
              refine ⟨fun q3 => ?_, fun q3 => ?_⟩
              · have ih := ih2 x (by rw [if_neg (by rintro (z | z | z); exact q z; exact q2 z.1; exact absurd z.2 (Int32.not_lt.mpr q3))])
                repeat (first | refine Wp.at ih rfl rfl ?_ rfl | (refine W1 rfl ?_; try refine Wp.norm (L' := [_, _, _, _, _, _]) rfl ?_) | refine brT (by first | assumption | decide | omega) ?_ | refine brF (by first | assumption | decide | omega) ?_ | refine brTn (by first | assumption | decide | omega) ?_ | refine brFn (by first | assumption | decide | omega) ?_ | refine And.intro (vp_lit (by decide)) ?_ | refine And.intro (vp_in_nI (by omega) (by decide)) ?_ | ((first | change (_ → _) ∧ (_ → _) | change vp_in _ _ ∧ _ | change ¬ _ ∧ _); simp (disch := omega) only [nI_clamp, nI_leI, nI_ltI, nI_eq, nI_1, nI_add, nI_not_neg, nI_is_pos, nI_m1, nI_z]))
                try change _ ∧ _
                first | rfl | (simp (disch := omega) only [nI_1, nI_add, nI_clamp] <;> first | done | rfl)
              · have ih := ih2 (nI (mtN s v a b)) (by rw [if_pos (Or.inr (Or.inr ⟨q2, Int32.not_le.mp q3⟩))])
                repeat (first | refine Wp.at ih rfl rfl ?_ rfl | (refine W1 rfl ?_; try refine Wp.norm (L' := [_, _, _, _, _, _]) rfl ?_) | refine brT (by first | assumption | decide | omega) ?_ | refine brF (by first | assumption | decide | omega) ?_ | refine brTn (by first | assumption | decide | omega) ?_ | refine brFn (by first | assumption | decide | omega) ?_ | refine And.intro (vp_lit (by decide)) ?_ | refine And.intro (vp_in_nI (by omega) (by decide)) ?_ | ((first | change (_ → _) ∧ (_ → _) | change vp_in _ _ ∧ _ | change ¬ _ ∧ _); simp (disch := omega) only [nI_clamp, nI_leI, nI_ltI, nI_eq, nI_1, nI_add, nI_not_neg, nI_is_pos, nI_m1, nI_z]))
                try change _ ∧ _
                first | rfl | (simp (disch := omega) only [nI_1, nI_add, nI_clamp] <;> first | done | rfl)
      intro x x4 x5 B
      have ih := inner (a + 1) (by omega) (Nat.le_refl _) x x5 (bst_iff (fun y => by
        constructor
        · rintro ⟨i, j, h1, h2, h3, h4⟩
          exact ⟨i, j, h1, h2, by omega, h4⟩
        · rintro ⟨i, j, h1, h2, h3, h4⟩
          exact ⟨i, j, h1, h2, by omega, h4⟩) B)
      (refine W1 rfl ?_; try refine Wp.norm (L' := [_, _, _, _, _, _]) rfl ?_)
      repeat (first | refine Wp.at ih rfl rfl ?_ rfl | (refine W1 rfl ?_; try refine Wp.norm (L' := [_, _, _, _, _, _]) rfl ?_) | refine brT (by first | assumption | decide | omega) ?_ | refine brF (by first | assumption | decide | omega) ?_ | refine brTn (by first | assumption | decide | omega) ?_ | refine brFn (by first | assumption | decide | omega) ?_ | refine And.intro (vp_lit (by decide)) ?_ | refine And.intro (vp_in_nI (by omega) (by decide)) ?_ | ((first | change (_ → _) ∧ (_ → _) | change vp_in _ _ ∧ _ | change ¬ _ ∧ _); simp (disch := omega) only [nI_clamp, nI_leI, nI_ltI, nI_eq, nI_1, nI_add, nI_not_neg, nI_is_pos, nI_m1, nI_z, R.P]))
      try change _ ∧ _
      first | rfl | (simp (disch := omega) only [nI_1, nI_add, nI_clamp] <;> first | done | rfl)
  have ih := lp 0 (Nat.zero_le _) (-1) .null .null (Or.inl ⟨rfl, by rintro y ⟨i, j, h1, h2, h3, h4⟩; omega⟩)
  repeat (first | refine Wp.at ih rfl rfl ?_ rfl | (refine W1 rfl ?_; try refine Wp.norm (L' := [_, _, _, _, _, _]) rfl ?_) | refine brT (by first | assumption | decide | omega) ?_ | refine brF (by first | assumption | decide | omega) ?_ | refine brTn (by first | assumption | decide | omega) ?_ | refine brFn (by first | assumption | decide | omega) ?_ | refine And.intro (vp_lit (by decide)) ?_ | refine And.intro (vp_in_nI (by omega) (by decide)) ?_ | ((first | change (_ → _) ∧ (_ → _) | change vp_in _ _ ∧ _ | change ¬ _ ∧ _); simp (disch := omega) only [nI_clamp, nI_leI, nI_ltI, nI_eq, nI_1, nI_add, nI_not_neg, nI_is_pos, nI_m1, nI_z]))
  try change _ ∧ _
  first | rfl | (simp (disch := omega) only [nI_1, nI_add, nI_clamp] <;> first | done | rfl)
theorem w_M_meets (R : RM s c v h) (o : OK s) {w : Int32} (hw : w = 0 ∨ w = 1) : ∃ x h', Run 2 j_M_meets [.ref 65, .int w] h x h' ∧ ∃ y, x = some (.int y) ∧ h' = h ∧ bst w (prM s v (zP s) 0) y := by
  have hT := o.T; have hP := o.P; have hK := o.K; have hD := o.D; have hO := o.O; have hQ := o.Q; have hL := o.L
  refine Run.ofP rfl ?_
  refine Wp.norm (L' := [_, _, _, _, _, _]) rfl ?_
  have lp : ∀ a, a ≤ zP s → ∀ x x4 x5, bst w (prM s v a 0) x → Wp 2 j_M_meets 4 [.ref 65, .int w, .int x, .int (nI a), x4, x5] [] h (fun x h' => ∃ y, x = some (.int y) ∧ h' = h ∧ bst w (prM s v (zP s) 0) y) := by
    refine up_ind ?_ (fun a ha ih => ?_)
    · intro x x4 x5 B
      repeat (first | (refine W1 rfl ?_; try refine Wp.norm (L' := [_, _, _, _, _, _]) rfl ?_) | refine brT (by first | assumption | decide | omega) ?_ | refine brF (by first | assumption | decide | omega) ?_ | refine brTn (by first | assumption | decide | omega) ?_ | refine brFn (by first | assumption | decide | omega) ?_ | refine And.intro (vp_lit (by decide)) ?_ | refine And.intro (vp_in_nI (by omega) (by decide)) ?_ | ((first | change (_ → _) ∧ (_ → _) | change vp_in _ _ ∧ _ | change ¬ _ ∧ _); simp (disch := omega) only [nI_clamp, nI_leI, nI_ltI, nI_eq, nI_1, nI_add, nI_not_neg, nI_is_pos, nI_m1, nI_z, show Int32.toNatClampNeg 1 = 1 from rfl, R.P]))
      try change _ ∧ _
      exact ⟨x, rfl, rfl, B⟩
    · have inner : ∀ b, b ≤ a → ∀ x x5, bst w (prM s v a b) x → Wp 2 j_M_meets 17 [.ref 65, .int w, .int x, .int (nI a), .int (nI b), x5] [] h (fun x h' => ∃ y, x = some (.int y) ∧ h' = h ∧ bst w (prM s v (zP s) 0) y) := by
        refine up_ind ?_ (fun b hb ih2 => ?_)
        · intro x x5 B
          have ih := ih x (.int (nI a)) x5 (bst_iff (fun y => by
            constructor
            · rintro ⟨i, j, h1, h3, h4⟩
              exact ⟨i, j, h1, Or.inl (by omega), h4⟩
            · rintro ⟨i, j, h1, h3, h4⟩
              exact ⟨i, j, h1, by omega, h4⟩) B)
          (refine W1 rfl ?_; try refine Wp.norm (L' := [_, _, _, _, _, _]) rfl ?_)
          repeat (first | refine Wp.at ih rfl rfl ?_ rfl | (refine W1 rfl ?_; try refine Wp.norm (L' := [_, _, _, _, _, _]) rfl ?_) | refine brT (by first | assumption | decide | omega) ?_ | refine brF (by first | assumption | decide | omega) ?_ | refine brTn (by first | assumption | decide | omega) ?_ | refine brFn (by first | assumption | decide | omega) ?_ | refine And.intro (vp_lit (by decide)) ?_ | refine And.intro (vp_in_nI (by omega) (by decide)) ?_ | ((first | change (_ → _) ∧ (_ → _) | change vp_in _ _ ∧ _ | change ¬ _ ∧ _); simp (disch := omega) only [nI_clamp, nI_leI, nI_ltI, nI_eq, nI_1, nI_add, nI_not_neg, nI_is_pos, nI_m1, nI_z]))
          try change _ ∧ _
          first | rfl | (simp (disch := omega) only [nI_1, nI_add, nI_clamp] <;> first | done | rfl)
        · intro x x5 B
          have hm := mtN_le (v := v) o a b
          have ih2 := fun x' (e : x' = bnx w x (mtN s v a b)) => ih2 x' (.int (nI (mtN s v a b))) (by
            rw [e]
            refine bst_iff (fun y => ?_) (bst_next hm B)
            constructor
            · rintro (⟨i, j, h1, h3, h4⟩ | h1)
              · exact ⟨i, j, h1, by omega, h4⟩
              · exact ⟨a, b, by omega, Or.inr ⟨rfl, by omega⟩, h1⟩
            · rintro ⟨i, j, h1, h3, h4⟩
              by_cases e : i = a ∧ j = b
              · rw [e.1, e.2] at h4
                exact Or.inr h4
              · exact Or.inl ⟨i, j, h1, by omega, h4⟩)
          unfold bnx at ih2
          repeat (first | (refine W1 rfl ?_; try refine Wp.norm (L' := [_, _, _, _, _, _]) rfl ?_) | refine brT (by first | assumption | decide | omega) ?_ | refine brF (by first | assumption | decide | omega) ?_ | refine brTn (by first | assumption | decide | omega) ?_ | refine brFn (by first | assumption | decide | omega) ?_ | refine And.intro (vp_lit (by decide)) ?_ | refine And.intro (vp_in_nI (by omega) (by decide)) ?_ | ((first | change (_ → _) ∧ (_ → _) | change vp_in _ _ ∧ _ | change ¬ _ ∧ _); simp (disch := omega) only [nI_clamp, nI_leI, nI_ltI, nI_eq, nI_1, nI_add, nI_not_neg, nI_is_pos, nI_m1, nI_z]))
          try change _ ∧ _
          refine Cl.of (r_M_meetOf R o ha (show b < zP s by omega)) (by decide) ?_
          repeat (first | (refine W1 rfl ?_; try refine Wp.norm (L' := [_, _, _, _, _, _]) rfl ?_) | refine brT (by first | assumption | decide | omega) ?_ | refine brF (by first | assumption | decide | omega) ?_ | refine brTn (by first | assumption | decide | omega) ?_ | refine brFn (by first | assumption | decide | omega) ?_ | refine And.intro (vp_lit (by decide)) ?_ | refine And.intro (vp_in_nI (by omega) (by decide)) ?_ | ((first | change (_ → _) ∧ (_ → _) | change vp_in _ _ ∧ _ | change ¬ _ ∧ _); simp (disch := omega) only [nI_clamp, nI_leI, nI_ltI, nI_eq, nI_1, nI_add, nI_not_neg, nI_is_pos, nI_m1, nI_z]))
          try change _ ∧ _
          refine ⟨fun q => ?_, fun q => ?_⟩
          · have ih := ih2 _ (by rw [if_pos (Or.inl q)])
            repeat (first | refine Wp.at ih rfl rfl ?_ rfl | (refine W1 rfl ?_; try refine Wp.norm (L' := [_, _, _, _, _, _]) rfl ?_) | refine brT (by first | assumption | decide | omega) ?_ | refine brF (by first | assumption | decide | omega) ?_ | refine brTn (by first | assumption | decide | omega) ?_ | refine brFn (by first | assumption | decide | omega) ?_ | refine And.intro (vp_lit (by decide)) ?_ | refine And.intro (vp_in_nI (by omega) (by decide)) ?_ | ((first | change (_ → _) ∧ (_ → _) | change vp_in _ _ ∧ _ | change ¬ _ ∧ _); simp (disch := omega) only [nI_clamp, nI_leI, nI_ltI, nI_eq, nI_1, nI_add, nI_not_neg, nI_is_pos, nI_m1, nI_z]))
            try change _ ∧ _
            first | rfl | (simp (disch := omega) only [nI_1, nI_add, nI_clamp] <;> first | done | rfl)
          · repeat (first | (refine W1 rfl ?_; try refine Wp.norm (L' := [_, _, _, _, _, _]) rfl ?_) | refine brT (by first | assumption | decide | omega) ?_ | refine brF (by first | assumption | decide | omega) ?_ | refine brTn (by first | assumption | decide | omega) ?_ | refine brFn (by first | assumption | decide | omega) ?_ | refine And.intro (vp_lit (by decide)) ?_ | refine And.intro (vp_in_nI (by omega) (by decide)) ?_ | ((first | change (_ → _) ∧ (_ → _) | change vp_in _ _ ∧ _ | change ¬ _ ∧ _); simp (disch := omega) only [nI_clamp, nI_leI, nI_ltI, nI_eq, nI_1, nI_add, nI_not_neg, nI_is_pos, nI_m1, nI_z]))
            try change _ ∧ _
            refine ⟨fun q2 => ?_, fun q2 => ?_⟩
            · repeat (first | (refine W1 rfl ?_; try refine Wp.norm (L' := [_, _, _, _, _, _]) rfl ?_) | refine brT (by first | assumption | decide | omega) ?_ | refine brF (by first | assumption | decide | omega) ?_ | refine brTn (by first | assumption | decide | omega) ?_ | refine brFn (by first | assumption | decide | omega) ?_ | refine And.intro (vp_lit (by decide)) ?_ | refine And.intro (vp_in_nI (by omega) (by decide)) ?_ | ((first | change (_ → _) ∧ (_ → _) | change vp_in _ _ ∧ _ | change ¬ _ ∧ _); simp (disch := omega) only [nI_clamp, nI_leI, nI_ltI, nI_eq, nI_1, nI_add, nI_not_neg, nI_is_pos, nI_m1, nI_z]))
              try change _ ∧ _
              refine ⟨fun q3 => ?_, fun q3 => ?_⟩
              · have ih := ih2 x (by rw [if_neg (by rintro (z | z | z); exact q z; exact absurd z.2 (Int32.not_lt.mpr q3); exact z.1 q2)])
                repeat (first | refine Wp.at ih rfl rfl ?_ rfl | (refine W1 rfl ?_; try refine Wp.norm (L' := [_, _, _, _, _, _]) rfl ?_) | refine brT (by first | assumption | decide | omega) ?_ | refine brF (by first | assumption | decide | omega) ?_ | refine brTn (by first | assumption | decide | omega) ?_ | refine brFn (by first | assumption | decide | omega) ?_ | refine And.intro (vp_lit (by decide)) ?_ | refine And.intro (vp_in_nI (by omega) (by decide)) ?_ | ((first | change (_ → _) ∧ (_ → _) | change vp_in _ _ ∧ _ | change ¬ _ ∧ _); simp (disch := omega) only [nI_clamp, nI_leI, nI_ltI, nI_eq, nI_1, nI_add, nI_not_neg, nI_is_pos, nI_m1, nI_z]))
                try change _ ∧ _
                first | rfl | (simp (disch := omega) only [nI_1, nI_add, nI_clamp] <;> first | done | rfl)
              · have ih := ih2 (nI (mtN s v a b)) (by rw [if_pos (Or.inr (Or.inl ⟨q2, Int32.not_le.mp q3⟩))])
                repeat (first | refine Wp.at ih rfl rfl ?_ rfl | (refine W1 rfl ?_; try refine Wp.norm (L' := [_, _, _, _, _, _]) rfl ?_) | refine brT (by first | assumption | decide | omega) ?_ | refine brF (by first | assumption | decide | omega) ?_ | refine brTn (by first | assumption | decide | omega) ?_ | refine brFn (by first | assumption | decide | omega) ?_ | refine And.intro (vp_lit (by decide)) ?_ | refine And.intro (vp_in_nI (by omega) (by decide)) ?_ | ((first | change (_ → _) ∧ (_ → _) | change vp_in _ _ ∧ _ | change ¬ _ ∧ _); simp (disch := omega) only [nI_clamp, nI_leI, nI_ltI, nI_eq, nI_1, nI_add, nI_not_neg, nI_is_pos, nI_m1, nI_z]))
                try change _ ∧ _
                first | rfl | (simp (disch := omega) only [nI_1, nI_add, nI_clamp] <;> first | done | rfl)
            · repeat (first | (refine W1 rfl ?_; try refine Wp.norm (L' := [_, _, _, _, _, _]) rfl ?_) | refine brT (by first | assumption | decide | omega) ?_ | refine brF (by first | assumption | decide | omega) ?_ | refine brTn (by first | assumption | decide | omega) ?_ | refine brFn (by first | assumption | decide | omega) ?_ | refine And.intro (vp_lit (by decide)) ?_ | refine And.intro (vp_in_nI (by omega) (by decide)) ?_ | ((first | change (_ → _) ∧ (_ → _) | change vp_in _ _ ∧ _ | change ¬ _ ∧ _); simp (disch := omega) only [nI_clamp, nI_leI, nI_ltI, nI_eq, nI_1, nI_add, nI_not_neg, nI_is_pos, nI_m1, nI_z]))
              try change _ ∧ _
              refine ⟨fun q3 => ?_, fun q3 => ?_⟩
              · have ih := ih2 x (by rw [if_neg (by rintro (z | z | z); exact q z; exact q2 z.1; exact absurd z.2 (Int32.not_lt.mpr q3))])
                repeat (first | refine Wp.at ih rfl rfl ?_ rfl | (refine W1 rfl ?_; try refine Wp.norm (L' := [_, _, _, _, _, _]) rfl ?_) | refine brT (by first | assumption | decide | omega) ?_ | refine brF (by first | assumption | decide | omega) ?_ | refine brTn (by first | assumption | decide | omega) ?_ | refine brFn (by first | assumption | decide | omega) ?_ | refine And.intro (vp_lit (by decide)) ?_ | refine And.intro (vp_in_nI (by omega) (by decide)) ?_ | ((first | change (_ → _) ∧ (_ → _) | change vp_in _ _ ∧ _ | change ¬ _ ∧ _); simp (disch := omega) only [nI_clamp, nI_leI, nI_ltI, nI_eq, nI_1, nI_add, nI_not_neg, nI_is_pos, nI_m1, nI_z]))
                try change _ ∧ _
                first | rfl | (simp (disch := omega) only [nI_1, nI_add, nI_clamp] <;> first | done | rfl)
              · have ih := ih2 (nI (mtN s v a b)) (by rw [if_pos (Or.inr (Or.inr ⟨q2, Int32.not_le.mp q3⟩))])
                repeat (first | refine Wp.at ih rfl rfl ?_ rfl | (refine W1 rfl ?_; try refine Wp.norm (L' := [_, _, _, _, _, _]) rfl ?_) | refine brT (by first | assumption | decide | omega) ?_ | refine brF (by first | assumption | decide | omega) ?_ | refine brTn (by first | assumption | decide | omega) ?_ | refine brFn (by first | assumption | decide | omega) ?_ | refine And.intro (vp_lit (by decide)) ?_ | refine And.intro (vp_in_nI (by omega) (by decide)) ?_ | ((first | change (_ → _) ∧ (_ → _) | change vp_in _ _ ∧ _ | change ¬ _ ∧ _); simp (disch := omega) only [nI_clamp, nI_leI, nI_ltI, nI_eq, nI_1, nI_add, nI_not_neg, nI_is_pos, nI_m1, nI_z]))
                try change _ ∧ _
                first | rfl | (simp (disch := omega) only [nI_1, nI_add, nI_clamp] <;> first | done | rfl)
      intro x x4 x5 B
      have ih := inner 0 (Nat.zero_le _) x x5 B
      (refine W1 rfl ?_; try refine Wp.norm (L' := [_, _, _, _, _, _]) rfl ?_)
      repeat (first | refine Wp.at ih rfl rfl ?_ rfl | (refine W1 rfl ?_; try refine Wp.norm (L' := [_, _, _, _, _, _]) rfl ?_) | refine brT (by first | assumption | decide | omega) ?_ | refine brF (by first | assumption | decide | omega) ?_ | refine brTn (by first | assumption | decide | omega) ?_ | refine brFn (by first | assumption | decide | omega) ?_ | refine And.intro (vp_lit (by decide)) ?_ | refine And.intro (vp_in_nI (by omega) (by decide)) ?_ | ((first | change (_ → _) ∧ (_ → _) | change vp_in _ _ ∧ _ | change ¬ _ ∧ _); simp (disch := omega) only [nI_clamp, nI_leI, nI_ltI, nI_eq, nI_1, nI_add, nI_not_neg, nI_is_pos, nI_m1, nI_z, show Int32.toNatClampNeg 1 = 1 from rfl, R.P]))
      try change _ ∧ _
      first | rfl | (simp (disch := omega) only [nI_1, nI_add, nI_clamp] <;> first | done | rfl)
  have ih := lp 0 (Nat.zero_le _) (-1) .null .null (Or.inl ⟨rfl, by rintro y ⟨i, j, h1, h3, h4⟩; omega⟩)
  repeat (first | refine Wp.at ih rfl rfl ?_ rfl | (refine W1 rfl ?_; try refine Wp.norm (L' := [_, _, _, _, _, _]) rfl ?_) | refine brT (by first | assumption | decide | omega) ?_ | refine brF (by first | assumption | decide | omega) ?_ | refine brTn (by first | assumption | decide | omega) ?_ | refine brFn (by first | assumption | decide | omega) ?_ | refine And.intro (vp_lit (by decide)) ?_ | refine And.intro (vp_in_nI (by omega) (by decide)) ?_ | ((first | change (_ → _) ∧ (_ → _) | change vp_in _ _ ∧ _ | change ¬ _ ∧ _); simp (disch := omega) only [nI_clamp, nI_leI, nI_ltI, nI_eq, nI_1, nI_add, nI_not_neg, nI_is_pos, nI_m1, nI_z]))
  try change _ ∧ _
  first | rfl | (simp (disch := omega) only [nI_1, nI_add, nI_clamp] <;> first | done | rfl)
theorem o_meets : op_31 Inv := fun w hw => op_ro fun {h} s c v _ _ R M o _ => by
  obtain ⟨x, h1, r1, y, rfl, rfl, B1⟩ := w_E_meets R o hw
  obtain ⟨x2, h2, r2, y2, rfl, rfl, B2⟩ := w_M_meets M o hw
  have : y2 = y := bst_one B2 (bst_iff (fun z => by
    constructor
    · rintro ⟨i, j, h1, h2, h3, h4⟩
      exact ⟨j, i, h1, Or.inl h2, by rw [h4, mtN_comm]⟩
    · rintro ⟨i, j, h1, h3, h4⟩
      exact ⟨j, i, h1, by omega, Or.inl (by omega), by rw [h4, mtN_comm]⟩) B1)
  subst this
  exact ⟨y2, r1.d, r2.d⟩
end MEETS
