section LEVM
variable {s : ST} {c v : RT} {h : HP} {k : Option Nat}
theorem r_M_gapOf (R : RM s c v h) (o : OK s) (hk : kOK s k) {p : Nat} (hp : p < zP s) : Run 3 j_M_gapOf [.ref 65, .int (nI p), .int (kV k)] h (some (.long (gapV s c p k))) h := by
  have hT := o.T; have hP := o.P; have hK := o.K; have hD := o.D; have hO := o.O; have hQ := o.Q; have hL := o.L
  refine Run.of rfl ?_
  refine Wp.norm (L' := [_, _, _, _, _, _, _, _, _, _]) rfl ?_
  iterate 8 (refine W1 rfl ?_; try refine Wp.norm (L' := [_, _, _, _, _, _, _, _, _, _]) rfl ?_)
  refine Wp.at (up_ind (n := zT s) (P := fun i => Wp 3 j_M_gapOf 11 [.ref 65, .int (nI p), .int (kV k), .long (gpT s c p k i).1, .null, .long (gpT s c p k i).2.2, .null, .long (gpT s c p k i).2.1, .null, .int (nI i)] [] h _) ?_ (fun i hi ih => ?_) 0 (Nat.zero_le _)) rfl rfl ?_ rfl
  · repeat (first | (refine W1 rfl ?_; try refine Wp.norm (L' := [_, _, _, _, _, _, _, _, _, _]) rfl ?_) | refine brT (by decide) ?_ | refine brF (by decide) ?_ | refine brTn (by decide) ?_ | refine brFn (by decide) ?_)
    try change _ ∧ _
    rw [R.T, nI_leI (by omega) (by omega)]
    refine ⟨fun _ => ?_, fun z => absurd (Nat.le_refl _) z⟩
    repeat (first | (refine W1 rfl ?_; try refine Wp.norm (L' := [_, _, _, _, _, _, _, _, _, _]) rfl ?_) | refine brT (by decide) ?_ | refine brF (by decide) ?_ | refine brTn (by decide) ?_ | refine brFn (by decide) ?_)
    try change _ ∧ _
    exact ⟨rfl, rfl⟩
  · repeat (first | (refine W1 rfl ?_; try refine Wp.norm (L' := [_, _, _, _, _, _, _, _, _, _]) rfl ?_) | refine brT (by decide) ?_ | refine brF (by decide) ?_ | refine brTn (by decide) ?_ | refine brFn (by decide) ?_)
    try change _ ∧ _
    rw [R.T, nI_leI (by omega) (by omega)]
    refine ⟨fun z => absurd z (by omega), fun _ => ?_⟩
    repeat (first | (refine W1 rfl ?_; try refine Wp.norm (L' := [_, _, _, _, _, _, _, _, _, _]) rfl ?_) | refine brT (by decide) ?_ | refine brF (by decide) ?_ | refine brTn (by decide) ?_ | refine brFn (by decide) ?_)
    try change _ ∧ _
    refine Cl.of (r_M_isOf R o hk hi) (by decide) ?_
    have e : gpT s c p k (i + 1) = if isO s k i = true then gpf s c p k (gpT s c p k i) i else gpT s c p k i := rfl
    rw [e] at ih
    by_cases hb : isO s k i = true
    · rw [if_pos hb] at ih
      rw [if_pos hb]
      repeat (first | (refine W1 rfl ?_; try refine Wp.norm (L' := [_, _, _, _, _, _, _, _, _, _]) rfl ?_) | refine brT (by decide) ?_ | refine brF (by decide) ?_ | refine brTn (by decide) ?_ | refine brFn (by decide) ?_)
      try change _ ∧ _
      refine Cl.of (r_M_stepOf R o hk hp hi) (by decide) ?_
      repeat (first | (refine W1 rfl ?_; try refine Wp.norm (L' := [_, _, _, _, _, _, _, _, _, _]) rfl ?_) | refine brT (by decide) ?_ | refine brF (by decide) ?_ | refine brTn (by decide) ?_ | refine brFn (by decide) ?_)
      try change _ ∧ _
      rw [lgc_ge]
      have ih2 : Wp 3 j_M_gapOf 64 [.ref 65, .int (nI p), .int (kV k), .long (gpf s c p k (gpT s c p k i) i).1, .null, .long (gpf s c p k (gpT s c p k i) i).2.2, .null, .long (gpf s c p k (gpT s c p k i) i).2.1, .null, .int (nI i)] [] h (fun v' h2 => v' = some (.long (gapV s c p k)) ∧ h2 = h) := by
        repeat (first | refine Wp.at ih rfl rfl ?_ rfl | (refine W1 rfl ?_; try refine Wp.norm (L' := [_, _, _, _, _, _, _, _, _, _]) rfl ?_) | refine brT (by decide) ?_ | refine brF (by decide) ?_ | refine brTn (by decide) ?_ | refine brFn (by decide) ?_)
        try change _ ∧ _
        rw [nI_1]
        try rfl
      have fin2 : ∀ x, x = (gpf s c p k (gpT s c p k i) i).2.2 → Wp 3 j_M_gapOf 54 [.ref 65, .int (nI p), .int (kV k), .long (gpf s c p k (gpT s c p k i) i).1, .null, .long x, .null, .long (gpT s c p k i).2.1, .null, .int (nI i)] [] h (fun v' h2 => v' = some (.long (gapV s c p k)) ∧ h2 = h) := by
        intro x hx
        subst hx
        repeat (first | (refine W1 rfl ?_; try refine Wp.norm (L' := [_, _, _, _, _, _, _, _, _, _]) rfl ?_) | refine brT (by decide) ?_ | refine brF (by decide) ?_ | refine brTn (by decide) ?_ | refine brFn (by decide) ?_)
        try change _ ∧ _
        rw [lgc_le]
        refine ⟨fun hc => ?_, fun hc => ?_⟩
        · refine Wp.to ih2 ?_ rfl
          have : (gpf s c p k (gpT s c p k i) i).2.1 = (gpT s c p k i).2.1 := by
            show mxJ _ _ = _
            exact if_neg (Int64.not_lt.mpr hc)
          rw [this]
        · iterate 2 (refine W1 rfl ?_; try refine Wp.norm (L' := [_, _, _, _, _, _, _, _, _, _]) rfl ?_)
          refine Wp.to ih2 ?_ rfl
          have : (gpf s c p k (gpT s c p k i) i).2.1 = (gpf s c p k (gpT s c p k i) i).1 := by
            show mxJ _ _ = _
            exact if_pos (Int64.not_le.mp hc)
          rw [this]
          try rfl
      refine ⟨fun hc => ?_, fun hc => ?_⟩
      · refine Wp.to (fin2 _ ?_) rfl rfl
        show _ = mnJ _ _
        rw [mnJ, if_neg (Int64.not_lt.mpr hc)]
      · iterate 2 (refine W1 rfl ?_; try refine Wp.norm (L' := [_, _, _, _, _, _, _, _, _, _]) rfl ?_)
        refine Wp.to (fin2 _ ?_) rfl rfl
        show _ = mnJ _ _
        rw [mnJ, if_pos (Int64.not_le.mp hc)]
    · rw [if_neg hb] at ih
      rw [if_neg hb]
      repeat (first | refine Wp.at ih rfl rfl ?_ rfl | (refine W1 rfl ?_; try refine Wp.norm (L' := [_, _, _, _, _, _, _, _, _, _]) rfl ?_) | refine brT (by decide) ?_ | refine brF (by decide) ?_ | refine brTn (by decide) ?_ | refine brFn (by decide) ?_)
      try change _ ∧ _
      rw [nI_1]
      try rfl
  · rw [show gpT s c p k 0 = (0, 0, 0) from rfl]
    try rfl
end LEVM
/-! ===== THE CLASS'S GAP ===== -/
section GAPC
variable {s : ST} {c v : RT} {h : HP} {k : Option Nat}
theorem r_Levels_gapOf (R : RC s c v h) (o : OK s) (hk : kOK s k) {p : Nat} (hp : p < zP s) : Run 2 j_Levels_gapOf [.ref 49, .int (nI p), .int (kV k)] h (some (.long (gapV s c p k))) h := by
  have hT := o.T; have hP := o.P; have hK := o.K; have hD := o.D; have hO := o.O; have hQ := o.Q; have hL := o.L
  have hc := cO_le s k (zT s)
  refine Run.of rfl ?_
  refine Wp.norm (L' := [_, _, _, _, _, _, _, _, _, _, _]) rfl ?_
  repeat (first | (refine W1 rfl ?_; try refine Wp.norm (L' := [_, _, _, _, _, _, _, _, _, _, _]) rfl ?_) | refine brT (by decide) ?_ | refine brF (by decide) ?_ | refine brTn (by decide) ?_ | refine brFn (by decide) ?_)
  try change _ ∧ _
  refine Cl.of (r_Calendar_countOf R o hk) (by decide) ?_
  iterate 9 (refine W1 rfl ?_; try refine Wp.norm (L' := [_, _, _, _, _, _, _, _, _, _, _]) rfl ?_)
  refine Wp.at (up_ind (n := cO s k (zT s)) (P := fun i => Wp 2 j_Levels_gapOf 21 [.ref 49, .int (nI p), .int (kV k), .int (nI (cO s k (zT s))), .long (gpK s c p k i).1, .null, .long (gpK s c p k i).2.1, .null, .long (gpK s c p k i).2.2, .null, .int (nI i)] [] h _) ?_ (fun i hi ih => ?_) 0 (Nat.zero_le _)) rfl rfl ?_ rfl
  · repeat (first | (refine W1 rfl ?_; try refine Wp.norm (L' := [_, _, _, _, _, _, _, _, _, _, _]) rfl ?_) | refine brT (by decide) ?_ | refine brF (by decide) ?_ | refine brTn (by decide) ?_ | refine brFn (by decide) ?_)
    try change _ ∧ _
    rw [nI_leI (by omega) (by omega)]
    refine ⟨fun _ => ?_, fun z => absurd (Nat.le_refl _) z⟩
    repeat (first | (refine W1 rfl ?_; try refine Wp.norm (L' := [_, _, _, _, _, _, _, _, _, _, _]) rfl ?_) | refine brT (by decide) ?_ | refine brF (by decide) ?_ | refine brTn (by decide) ?_ | refine brFn (by decide) ?_)
    try change _ ∧ _
    rw [gpK_gpT o]
    exact ⟨rfl, rfl⟩
  · repeat (first | (refine W1 rfl ?_; try refine Wp.norm (L' := [_, _, _, _, _, _, _, _, _, _, _]) rfl ?_) | refine brT (by decide) ?_ | refine brF (by decide) ?_ | refine brTn (by decide) ?_ | refine brFn (by decide) ?_)
    try change _ ∧ _
    rw [nI_leI (by omega) (by omega)]
    refine ⟨fun z => absurd z (by omega), fun _ => ?_⟩
    repeat (first | (refine W1 rfl ?_; try refine Wp.norm (L' := [_, _, _, _, _, _, _, _, _, _, _]) rfl ?_) | refine brT (by decide) ?_ | refine brF (by decide) ?_ | refine brTn (by decide) ?_ | refine brFn (by decide) ?_)
    try change _ ∧ _
    refine Cl.of (r_Levels_changeBy R o hk hp (by omega)) (by decide) ?_
    repeat (first | (refine W1 rfl ?_; try refine Wp.norm (L' := [_, _, _, _, _, _, _, _, _, _, _]) rfl ?_) | refine brT (by decide) ?_ | refine brF (by decide) ?_ | refine brTn (by decide) ?_ | refine brFn (by decide) ?_)
    try change _ ∧ _
    refine Cl.of (r_maxJ h _ _) (by decide) ?_
    repeat (first | (refine W1 rfl ?_; try refine Wp.norm (L' := [_, _, _, _, _, _, _, _, _, _, _]) rfl ?_) | refine brT (by decide) ?_ | refine brF (by decide) ?_ | refine brTn (by decide) ?_ | refine brFn (by decide) ?_)
    try change _ ∧ _
    refine Cl.of (r_minJ h _ _) (by decide) ?_
    repeat (first | refine Wp.at ih rfl rfl ?_ rfl | (refine W1 rfl ?_; try refine Wp.norm (L' := [_, _, _, _, _, _, _, _, _, _, _]) rfl ?_) | refine brT (by decide) ?_ | refine brF (by decide) ?_ | refine brTn (by decide) ?_ | refine brFn (by decide) ?_)
    try change _ ∧ _
    rw [nI_1]
    try rfl
  · rw [show gpK s c p k 0 = (0, 0, 0) from rfl]
    try rfl
end GAPC
