/-! ===== STRETCH ===== -/
theorem j_ring (X Y z : Int64) : X - (Y + z) + z = X - Y := by
  rw [Int64.sub_eq_add_neg, Int64.neg_add, Int64.sub_eq_add_neg, Int64.add_assoc, Int64.add_assoc, Int64.add_comm (-z) z, ← Int64.sub_eq_add_neg z z, Int64.sub_self, Int64.add_zero, ← Int64.sub_eq_add_neg]
section STR
variable {s : ST} {c v : RT} {h : HP} {k : Option Nat} {p : Nat}
def zl (s : ST) (c : RT) (p : Nat) (k : Option Nat) (n : Nat) : Int := (lvl s c p k n).toInt
theorem lvl_s (n : Nat) : lvl s c p k (n + 1) = lvl s c p k n + chg s c p k (tA s k n) := rfl
theorem gpK_1 : ∀ n, (gpK s c p k n).1 = lvl s c p k n
  | 0 => rfl
  | n + 1 => by
    show (gpK s c p k n).1 + _ = _
    rw [gpK_1 n]
    rfl
theorem gpK_mx : ∀ n i, i ≤ n → zl s c p k i ≤ (gpK s c p k n).2.1.toInt ∧ (gpK s c p k n).2.2.toInt ≤ zl s c p k i
  | 0, i, h => by
    obtain rfl : i = 0 := by omega
    exact ⟨Int.le_refl _, Int.le_refl _⟩
  | n + 1, i, h => by
    have e1 : (gpK s c p k (n + 1)).2.1 = mxJ (gpK s c p k n).2.1 (lvl s c p k (n + 1)) := by
      show mxJ _ ((gpK s c p k n).1 + _) = _
      rw [gpK_1 n]
      rfl
    have e2 : (gpK s c p k (n + 1)).2.2 = mnJ (gpK s c p k n).2.2 (lvl s c p k (n + 1)) := by
      show mnJ _ ((gpK s c p k n).1 + _) = _
      rw [gpK_1 n]
      rfl
    rw [e1, e2, mxJ_toInt, mnJ_toInt]
    by_cases hi : i = n + 1
    · subst hi
      unfold zl
      omega
    · have := gpK_mx n i (by omega)
      omega
theorem gap_mm (o : OK s) (hp : p < zP s) : ∃ mx mn : Int, (gapV s c p k).toInt = mx - mn ∧ -13000000000 ≤ mn ∧ mx ≤ 13000000000 ∧ ∀ i, i ≤ cO s k (zT s) → zl s c p k i ≤ mx ∧ mn ≤ zl s c p k i := by
  have hT := o.T
  refine ⟨(gpT s c p k (zT s)).2.1.toInt, (gpT s c p k (zT s)).2.2.toInt, gapV_toInt o hp, ?_, ?_, fun i hi => ?_⟩
  · have := gpT_bd (c := c) (k := k) o hp (zT s) (Nat.le_refl _)
    omega
  · have := gpT_bd (c := c) (k := k) o hp (zT s) (Nat.le_refl _)
    omega
  · rw [← gpK_gpT o]
    exact gpK_mx _ i hi
/-- from kind-turn a to kind-turn n the level goes through the gap -/
def hit (s : ST) (c : RT) (p : Nat) (k : Option Nat) (a n : Nat) : Prop := lvl s c p k (n + 1) - lvl s c p k a = gapV s c p k ∨ lvl s c p k (n + 1) - lvl s c p k a = -gapV s c p k
theorem dif_z (o : OK s) (hp : p < zP s) {i j : Nat} (hi : i ≤ cO s k (zT s)) (hj : j ≤ cO s k (zT s)) : (lvl s c p k i - lvl s c p k j).toInt = zl s c p k i - zl s c p k j := by
  obtain ⟨mx, mn, e, b1, b2, H⟩ := gap_mm (c := c) (k := k) o hp
  have h1 := H i hi
  have h2 := H j hj
  unfold zl at *
  exact i64_sub (by omega) (by omega)
theorem neg_z (o : OK s) (hp : p < zP s) : (-gapV s c p k).toInt = -(gapV s c p k).toInt := by
  obtain ⟨mx, mn, e, b1, b2, H⟩ := gap_mm (c := c) (k := k) o hp
  have := H 0 (Nat.zero_le _)
  rw [Int64.toInt_neg]
  exact Int.bmod_eq_of_le (by omega) (by omega)
theorem hit_z (o : OK s) (hp : p < zP s) {a n : Nat} (hn : n < cO s k (zT s)) (ha : a ≤ n) : hit s c p k a n ↔ (zl s c p k (n + 1) - zl s c p k a = (gapV s c p k).toInt ∨ zl s c p k (n + 1) - zl s c p k a = -(gapV s c p k).toInt) := by
  unfold hit
  rw [← Int64.toInt_inj, ← Int64.toInt_inj, dif_z o hp (by omega) (by omega), neg_z o hp]
/-- what stretch answers -/
def stR (s : ST) (c : RT) (p : Nat) (k : Option Nat) (f y : Int32) : Prop := (y = -1 ∧ (gapV s c p k = 0 ∨ ∀ n, n < cO s k (zT s) → ∀ a, a ≤ n → ¬ hit s c p k a n)) ∨ (¬ gapV s c p k = 0 ∧ ∃ n a, n < cO s k (zT s) ∧ a ≤ n ∧ hit s c p k a n ∧ (∀ n', n' < n → ∀ a', a' ≤ n' → ¬ hit s c p k a' n') ∧ (∀ a', a < a' → a' ≤ n → ¬ hit s c p k a' n) ∧ y = nI (tA s k (if f = 0 then n else a)))
theorem stR_one {f y y' : Int32} (h1 : stR s c p k f y) (h2 : stR s c p k f y') : y = y' := by
  rcases h1 with ⟨e1, g1⟩ | ⟨z1, n, a, n1, a1, t1, m1, l1, e1⟩
  · rcases h2 with ⟨e2, g2⟩ | ⟨z2, n', a', n2, a2, t2, m2, l2, e2⟩
    · rw [e1, e2]
    · rcases g1 with g | g
      · exact absurd g z2
      · exact absurd t2 (g n' n2 a' a2)
  · rcases h2 with ⟨e2, g2⟩ | ⟨z2, n', a', n2, a2, t2, m2, l2, e2⟩
    · rcases g2 with g | g
      · exact absurd g z1
      · exact absurd t1 (g n n1 a a1)
    · have hn : n = n' := by
        rcases Nat.lt_trichotomy n n' with q | q | q
        · exact absurd t1 (m2 n q a a1)
        · exact q
        · exact absurd t2 (m1 n' q a' a2)
      subst hn
      have ha : a = a' := by
        rcases Nat.lt_trichotomy a a' with q | q | q
        · exact absurd t2 (l1 a' q a2)
        · exact q
        · exact absurd t1 (l2 a q a1)
      subst ha
      rw [e1, e2]
/-- the extremes among the first n levels, and where they were last -/
def exN (s : ST) (c : RT) (p : Nat) (k : Option Nat) (n : Nat) (mo le : Int64) (ma la : Nat) : Prop := (n = 0 ∧ mo = 0 ∧ le = 0) ∨ (0 < n ∧ ma < n ∧ la < n ∧ mo = lvl s c p k ma ∧ le = lvl s c p k la ∧ (∀ i, i < n → zl s c p k i ≤ zl s c p k ma ∧ zl s c p k la ≤ zl s c p k i) ∧ (∀ i, ma < i → i < n → zl s c p k i < zl s c p k ma) ∧ (∀ i, la < i → i < n → zl s c p k la < zl s c p k i))
theorem w_findStretch (R : RC s c v h) (o : OK s) (hk : kOK s k) (hp : p < zP s) : ∃ w h', Run 3 j_Levels_findStretch [.ref 49, .int (nI p), .int (kV k)] h w h' ∧ (Same h h' ∧ ((w = some (.int 0) ∧ (gapV s c p k = 0 ∨ ∀ n, n < cO s k (zT s) → ∀ a, a ≤ n → ¬ hit s c p k a n)) ∨ (w = some (.int 1) ∧ ¬ gapV s c p k = 0 ∧ ∃ n a, n < cO s k (zT s) ∧ a ≤ n ∧ hit s c p k a n ∧ (∀ n', n' < n → ∀ a', a' ≤ n' → ¬ hit s c p k a' n') ∧ (∀ a', a < a' → a' ≤ n → ¬ hit s c p k a' n) ∧ h'.1 49 3 = nI a ∧ h'.1 49 4 = nI n))) := by
  have hT := o.T; have hP := o.P; have hK := o.K; have hD := o.D; have hO := o.O; have hQ := o.Q; have hL := o.L
  have hc := cO_le s k (zT s)
  refine Run.ofP rfl ?_
  refine Wp.norm (L' := [_, _, _, _, _, _, _, _, _, _, _, _, _, _, _]) rfl ?_
  have hgp := gapV_pos (c := c) (k := k) o hp
  have hg0 : ¬ gapV s c p k ≤ 0 ↔ ¬ gapV s c p k = 0 := by
    rw [Int64.le_iff_toInt_le, ← Int64.toInt_inj, show (0 : Int64).toInt = 0 from rfl]
    omega
  obtain ⟨mx, mn, eG, b1, b2, H⟩ := gap_mm (c := c) (k := k) o hp
  by_cases hG : gapV s c p k = 0
  · repeat (first | (refine W1 rfl ?_; try refine Wp.norm (L' := [_, _, _, _, _, _, _, _, _, _, _, _, _, _, _]) rfl ?_) | ((first | change (_ → _) ∧ (_ → _) | change vp_in _ _ ∧ _ | change ¬ _ ∧ _); simp (disch := omega) only [nI_clamp, nI_leI, nI_ltI, nI_eq, nI_1, nI_add, nI_not_neg, nI_is_pos, nI_m1, nI_z]) | refine brT (by first | assumption | decide | omega) ?_ | refine brF (by first | assumption | decide | omega) ?_ | refine brTn (by first | assumption | decide | omega) ?_ | refine brFn (by first | assumption | decide | omega) ?_ | refine And.intro (vp_in_nI (by omega) (by decide)) ?_ | refine And.intro (vp_lit (by decide)) ?_ | refine divJ (by decide) ?_ | refine divI (by decide) ?_)
    try change _ ∧ _
    refine Cl.of (r_Levels_gapOf R o hk hp) (by decide) ?_
    repeat (first | (refine W1 rfl ?_; try refine Wp.norm (L' := [_, _, _, _, _, _, _, _, _, _, _, _, _, _, _]) rfl ?_) | ((first | change (_ → _) ∧ (_ → _) | change vp_in _ _ ∧ _ | change ¬ _ ∧ _); simp (disch := omega) only [nI_clamp, nI_leI, nI_ltI, nI_eq, nI_1, nI_add, nI_not_neg, nI_is_pos, nI_m1, nI_z]) | refine brT (by first | assumption | decide | omega) ?_ | refine brF (by first | assumption | decide | omega) ?_ | refine brTn (by first | assumption | decide | omega) ?_ | refine brFn (by first | assumption | decide | omega) ?_ | refine And.intro (vp_in_nI (by omega) (by decide)) ?_ | refine And.intro (vp_lit (by decide)) ?_ | refine divJ (by decide) ?_ | refine divI (by decide) ?_)
    try change _ ∧ _
    refine Cl.of (r_Calendar_countOf R o hk) (by decide) ?_
    repeat (first | (refine W1 rfl ?_; try refine Wp.norm (L' := [_, _, _, _, _, _, _, _, _, _, _, _, _, _, _]) rfl ?_) | ((first | change (_ → _) ∧ (_ → _) | change vp_in _ _ ∧ _ | change ¬ _ ∧ _); simp (disch := omega) only [nI_clamp, nI_leI, nI_ltI, nI_eq, nI_1, nI_add, nI_not_neg, nI_is_pos, nI_m1, nI_z]) | refine brT (by first | assumption | decide | omega) ?_ | refine brF (by first | assumption | decide | omega) ?_ | refine brTn (by first | assumption | decide | omega) ?_ | refine brFn (by first | assumption | decide | omega) ?_ | refine And.intro (vp_in_nI (by omega) (by decide)) ?_ | refine And.intro (vp_lit (by decide)) ?_ | refine divJ (by decide) ?_ | refine divI (by decide) ?_)
    try change _ ∧ _
    rw [lgc_le]
    refine brT (Classical.byContradiction (fun z => (hg0.mp z) hG)) ?_
    repeat (first | (refine W1 rfl ?_; try refine Wp.norm (L' := [_, _, _, _, _, _, _, _, _, _, _, _, _, _, _]) rfl ?_) | ((first | change (_ → _) ∧ (_ → _) | change vp_in _ _ ∧ _ | change ¬ _ ∧ _); simp (disch := omega) only [nI_clamp, nI_leI, nI_ltI, nI_eq, nI_1, nI_add, nI_not_neg, nI_is_pos, nI_m1, nI_z]) | refine brT (by first | assumption | decide | omega) ?_ | refine brF (by first | assumption | decide | omega) ?_ | refine brTn (by first | assumption | decide | omega) ?_ | refine brFn (by first | assumption | decide | omega) ?_ | refine And.intro (vp_in_nI (by omega) (by decide)) ?_ | refine And.intro (vp_lit (by decide)) ?_ | refine divJ (by decide) ?_ | refine divI (by decide) ?_)
    try change _ ∧ _
    exact ⟨Or.inl rfl, Same.rfl h, Or.inl ⟨rfl, Or.inl hG⟩⟩
  · have hGz : 0 < (gapV s c p k).toInt := by
      have : (gapV s c p k).toInt ≠ 0 := fun z => hG (Int64.toInt_inj.mp z)
      omega
    have lp : ∀ n, n ≤ cO s k (zT s) → ∀ mo le ma la, exN s c p k n mo le ma la → (∀ n', n' < n → ∀ a', a' ≤ n' → ¬ hit s c p k a' n') → ma < 2 ^ 31 → la < 2 ^ 31 → Wp 3 j_Levels_findStretch 35 [.ref 49, .int (nI p), .int (kV k), .long (gapV s c p k), .null, .int (nI (cO s k (zT s))), .long (lvl s c p k n), .null, .long mo, .null, .long le, .null, .int (nI ma), .int (nI la), .int (nI n)] [] h (fun w h' => Same h h' ∧ ((w = some (.int 0) ∧ (gapV s c p k = 0 ∨ ∀ n, n < cO s k (zT s) → ∀ a, a ≤ n → ¬ hit s c p k a n)) ∨ (w = some (.int 1) ∧ ¬ gapV s c p k = 0 ∧ ∃ n a, n < cO s k (zT s) ∧ a ≤ n ∧ hit s c p k a n ∧ (∀ n', n' < n → ∀ a', a' ≤ n' → ¬ hit s c p k a' n') ∧ (∀ a', a < a' → a' ≤ n → ¬ hit s c p k a' n) ∧ h'.1 49 3 = nI a ∧ h'.1 49 4 = nI n))) := by
      refine up_ind ?_ (fun n hn ih => ?_)
      · intro mo le ma la X N _ _
        repeat (first | (refine W1 rfl ?_; try refine Wp.norm (L' := [_, _, _, _, _, _, _, _, _, _, _, _, _, _, _]) rfl ?_) | ((first | change (_ → _) ∧ (_ → _) | change vp_in _ _ ∧ _ | change ¬ _ ∧ _); simp (disch := omega) only [nI_clamp, nI_leI, nI_ltI, nI_eq, nI_1, nI_add, nI_not_neg, nI_is_pos, nI_m1, nI_z]) | refine brT (by first | assumption | decide | omega) ?_ | refine brF (by first | assumption | decide | omega) ?_ | refine brTn (by first | assumption | decide | omega) ?_ | refine brFn (by first | assumption | decide | omega) ?_ | refine And.intro (vp_in_nI (by omega) (by decide)) ?_ | refine And.intro (vp_lit (by decide)) ?_ | refine divJ (by decide) ?_ | refine divI (by decide) ?_)
        try change _ ∧ _
        rw [lgc_le]
        refine brF (hg0.mpr hG) ?_
        repeat (first | (refine W1 rfl ?_; try refine Wp.norm (L' := [_, _, _, _, _, _, _, _, _, _, _, _, _, _, _]) rfl ?_) | ((first | change (_ → _) ∧ (_ → _) | change vp_in _ _ ∧ _ | change ¬ _ ∧ _); simp (disch := omega) only [nI_clamp, nI_leI, nI_ltI, nI_eq, nI_1, nI_add, nI_not_neg, nI_is_pos, nI_m1, nI_z]) | refine brT (by first | assumption | decide | omega) ?_ | refine brF (by first | assumption | decide | omega) ?_ | refine brTn (by first | assumption | decide | omega) ?_ | refine brFn (by first | assumption | decide | omega) ?_ | refine And.intro (vp_in_nI (by omega) (by decide)) ?_ | refine And.intro (vp_lit (by decide)) ?_ | refine divJ (by decide) ?_ | refine divI (by decide) ?_)
        try change _ ∧ _
        exact ⟨Or.inl rfl, Same.rfl h, Or.inl ⟨rfl, Or.inr N⟩⟩
      · intro mo le ma la X N hma hla
        -- behind the two looks at the level
        have fin : ∀ mo le ma la, (ma ≤ n ∧ la ≤ n ∧ mo = lvl s c p k ma ∧ le = lvl s c p k la ∧ (∀ i, i ≤ n → zl s c p k i ≤ zl s c p k ma ∧ zl s c p k la ≤ zl s c p k i) ∧ (∀ i, ma < i → i ≤ n → zl s c p k i < zl s c p k ma) ∧ (∀ i, la < i → i ≤ n → zl s c p k la < zl s c p k i)) → Wp 3 j_Levels_findStretch 80 [.ref 49, .int (nI p), .int (kV k), .long (gapV s c p k), .null, .int (nI (cO s k (zT s))), .long (lvl s c p k n), .null, .long mo, .null, .long le, .null, .int (nI ma), .int (nI la), .int (nI n)] [] h (fun w h' => Same h h' ∧ ((w = some (.int 0) ∧ (gapV s c p k = 0 ∨ ∀ n, n < cO s k (zT s) → ∀ a, a ≤ n → ¬ hit s c p k a n)) ∨ (w = some (.int 1) ∧ ¬ gapV s c p k = 0 ∧ ∃ n a, n < cO s k (zT s) ∧ a ≤ n ∧ hit s c p k a n ∧ (∀ n', n' < n → ∀ a', a' ≤ n' → ¬ hit s c p k a' n') ∧ (∀ a', a < a' → a' ≤ n → ¬ hit s c p k a' n) ∧ h'.1 49 3 = nI a ∧ h'.1 49 4 = nI n))) := by
          rintro mo le ma la ⟨x1, x2, rfl, rfl, x5, x6, x7⟩
          have hz := fun a (ha : a ≤ n) => hit_z (c := c) o hp hn ha
          have Hn := H (n + 1) (by omega)
          have c1 : (lvl s c p k (n + 1) - lvl s c p k la = gapV s c p k) ↔ zl s c p k (n + 1) - zl s c p k la = (gapV s c p k).toInt := by
            rw [← Int64.toInt_inj, dif_z o hp (by omega) (by omega)]
          have c2 : (lvl s c p k ma - lvl s c p k (n + 1) = gapV s c p k) ↔ zl s c p k ma - zl s c p k (n + 1) = (gapV s c p k).toInt := by
            rw [← Int64.toInt_inj, dif_z o hp (by omega) (by omega)]
          have Hla := H la (by omega)
          have Hma := H ma (by omega)
          repeat (first | (refine W1 rfl ?_; try refine Wp.norm (L' := [_, _, _, _, _, _, _, _, _, _, _, _, _, _, _]) rfl ?_) | ((first | change (_ → _) ∧ (_ → _) | change vp_in _ _ ∧ _ | change ¬ _ ∧ _); simp (disch := omega) only [nI_clamp, nI_leI, nI_ltI, nI_eq, nI_1, nI_add, nI_not_neg, nI_is_pos, nI_m1, nI_z]) | refine brT (by first | assumption | decide | omega) ?_ | refine brF (by first | assumption | decide | omega) ?_ | refine brTn (by first | assumption | decide | omega) ?_ | refine brFn (by first | assumption | decide | omega) ?_ | refine And.intro (vp_in_nI (by omega) (by decide)) ?_ | refine And.intro (vp_lit (by decide)) ?_ | refine divJ (by decide) ?_ | refine divI (by decide) ?_)
          try change _ ∧ _
          refine Cl.of (r_Levels_changeBy R o hk hp hn) (by decide) ?_
          repeat (first | (refine W1 rfl ?_; try refine Wp.norm (L' := [_, _, _, _, _, _, _, _, _, _, _, _, _, _, _]) rfl ?_) | ((first | change (_ → _) ∧ (_ → _) | change vp_in _ _ ∧ _ | change ¬ _ ∧ _); simp (disch := omega) only [nI_clamp, nI_leI, nI_ltI, nI_eq, nI_1, nI_add, nI_not_neg, nI_is_pos, nI_m1, nI_z]) | refine brT (by first | assumption | decide | omega) ?_ | refine brF (by first | assumption | decide | omega) ?_ | refine brTn (by first | assumption | decide | omega) ?_ | refine brFn (by first | assumption | decide | omega) ?_ | refine And.intro (vp_in_nI (by omega) (by decide)) ?_ | refine And.intro (vp_lit (by decide)) ?_ | refine divJ (by decide) ?_ | refine divI (by decide) ?_)
          try change _ ∧ _
          rw [← lvl_s, lgc_eq, c1]
          refine ⟨fun q1 => ?_, fun q1 => ?_⟩
          · repeat (first | (refine W1 rfl ?_; try refine Wp.norm (L' := [_, _, _, _, _, _, _, _, _, _, _, _, _, _, _]) rfl ?_) | ((first | change (_ → _) ∧ (_ → _) | change vp_in _ _ ∧ _ | change ¬ _ ∧ _); simp (disch := omega) only [nI_clamp, nI_leI, nI_ltI, nI_eq, nI_1, nI_add, nI_not_neg, nI_is_pos, nI_m1, nI_z]) | refine brT (by first | assumption | decide | omega) ?_ | refine brF (by first | assumption | decide | omega) ?_ | refine brTn (by first | assumption | decide | omega) ?_ | refine brFn (by first | assumption | decide | omega) ?_ | refine And.intro (vp_in_nI (by omega) (by decide)) ?_ | refine And.intro (vp_lit (by decide)) ?_ | refine divJ (by decide) ?_ | refine divI (by decide) ?_)
            try change _ ∧ _
            rw [lgc_eq, c1]
            refine brFn q1 ?_
            repeat (first | (refine W1 rfl ?_; try refine Wp.norm (L' := [_, _, _, _, _, _, _, _, _, _, _, _, _, _, _]) rfl ?_) | ((first | change (_ → _) ∧ (_ → _) | change vp_in _ _ ∧ _ | change ¬ _ ∧ _); simp (disch := omega) only [nI_clamp, nI_leI, nI_ltI, nI_eq, nI_1, nI_add, nI_not_neg, nI_is_pos, nI_m1, nI_z]) | refine brT (by first | assumption | decide | omega) ?_ | refine brF (by first | assumption | decide | omega) ?_ | refine brTn (by first | assumption | decide | omega) ?_ | refine brFn (by first | assumption | decide | omega) ?_ | refine And.intro (vp_in_nI (by omega) (by decide)) ?_ | refine And.intro (vp_lit (by decide)) ?_ | refine divJ (by decide) ?_ | refine divI (by decide) ?_)
            try change _ ∧ _
            refine ⟨Or.inr rfl, ((Same.rfl h).addI rfl).addI rfl, Or.inr ⟨rfl, hG, n, la, hn, x2, (hz la x2).mpr (Or.inl q1), N, fun a' h1 h2 hh => ?_, ?_, wI_same _ _ _ _⟩⟩
            · have := x7 a' h1 h2
              have Ha := H a' (by omega)
              rcases (hz a' h2).mp hh with z | z <;> omega
            · rw [wI_ne2 _ _ (by decide), wI_same]
          · repeat (first | (refine W1 rfl ?_; try refine Wp.norm (L' := [_, _, _, _, _, _, _, _, _, _, _, _, _, _, _]) rfl ?_) | ((first | change (_ → _) ∧ (_ → _) | change vp_in _ _ ∧ _ | change ¬ _ ∧ _); simp (disch := omega) only [nI_clamp, nI_leI, nI_ltI, nI_eq, nI_1, nI_add, nI_not_neg, nI_is_pos, nI_m1, nI_z]) | refine brT (by first | assumption | decide | omega) ?_ | refine brF (by first | assumption | decide | omega) ?_ | refine brTn (by first | assumption | decide | omega) ?_ | refine brFn (by first | assumption | decide | omega) ?_ | refine And.intro (vp_in_nI (by omega) (by decide)) ?_ | refine And.intro (vp_lit (by decide)) ?_ | refine divJ (by decide) ?_ | refine divI (by decide) ?_)
            try change _ ∧ _
            rw [lgc_eq, c2]
            refine ⟨fun q2 => ?_, fun q2 => ?_⟩
            · have ih := ih (lvl s c p k ma) (lvl s c p k la) ma la (Or.inr ⟨by omega, by omega, by omega, rfl, rfl, fun i hi => x5 i (by omega), fun i h1 h2 => x6 i h1 (by omega), fun i h1 h2 => x7 i h1 (by omega)⟩) (fun n' hn' a' ha' hh => by
                by_cases e : n' = n
                · subst e
                  have Ha := H a' (by omega)
                  have := x5 a' ha'
                  rcases (hz a' ha').mp hh with z | z
                  · exact q1 (by omega)
                  · exact q2 (by omega)
                · exact N n' (by omega) a' ha' hh) (by omega) (by omega)
              repeat (first | refine Wp.at ih rfl rfl ?_ rfl | (refine W1 rfl ?_; try refine Wp.norm (L' := [_, _, _, _, _, _, _, _, _, _, _, _, _, _, _]) rfl ?_) | ((first | change (_ → _) ∧ (_ → _) | change vp_in _ _ ∧ _ | change ¬ _ ∧ _); simp (disch := omega) only [nI_clamp, nI_leI, nI_ltI, nI_eq, nI_1, nI_add, nI_not_neg, nI_is_pos, nI_m1, nI_z]) | refine brT (by first | assumption | decide | omega) ?_ | refine brF (by first | assumption | decide | omega) ?_ | refine brTn (by first | assumption | decide | omega) ?_ | refine brFn (by first | assumption | decide | omega) ?_ | refine And.intro (vp_in_nI (by omega) (by decide)) ?_ | refine And.intro (vp_lit (by decide)) ?_ | refine divJ (by decide) ?_ | refine divI (by decide) ?_)
              try change _ ∧ _
              rw [nI_1, lvl_s]
            · repeat (first | (refine W1 rfl ?_; try refine Wp.norm (L' := [_, _, _, _, _, _, _, _, _, _, _, _, _, _, _]) rfl ?_) | ((first | change (_ → _) ∧ (_ → _) | change vp_in _ _ ∧ _ | change ¬ _ ∧ _); simp (disch := omega) only [nI_clamp, nI_leI, nI_ltI, nI_eq, nI_1, nI_add, nI_not_neg, nI_is_pos, nI_m1, nI_z]) | refine brT (by first | assumption | decide | omega) ?_ | refine brF (by first | assumption | decide | omega) ?_ | refine brTn (by first | assumption | decide | omega) ?_ | refine brFn (by first | assumption | decide | omega) ?_ | refine And.intro (vp_in_nI (by omega) (by decide)) ?_ | refine And.intro (vp_lit (by decide)) ?_ | refine divJ (by decide) ?_ | refine divI (by decide) ?_)
              try change _ ∧ _
              rw [lgc_eq, c1]
              refine brTn q1 ?_
              repeat (first | (refine W1 rfl ?_; try refine Wp.norm (L' := [_, _, _, _, _, _, _, _, _, _, _, _, _, _, _]) rfl ?_) | ((first | change (_ → _) ∧ (_ → _) | change vp_in _ _ ∧ _ | change ¬ _ ∧ _); simp (disch := omega) only [nI_clamp, nI_leI, nI_ltI, nI_eq, nI_1, nI_add, nI_not_neg, nI_is_pos, nI_m1, nI_z]) | refine brT (by first | assumption | decide | omega) ?_ | refine brF (by first | assumption | decide | omega) ?_ | refine brTn (by first | assumption | decide | omega) ?_ | refine brFn (by first | assumption | decide | omega) ?_ | refine And.intro (vp_in_nI (by omega) (by decide)) ?_ | refine And.intro (vp_lit (by decide)) ?_ | refine divJ (by decide) ?_ | refine divI (by decide) ?_)
              try change _ ∧ _
              refine ⟨Or.inr rfl, ((Same.rfl h).addI rfl).addI rfl, Or.inr ⟨rfl, hG, n, ma, hn, x1, (hz ma x1).mpr (Or.inr (by omega)), N, fun a' h1 h2 hh => ?_, ?_, wI_same _ _ _ _⟩⟩
              · have := x6 a' h1 h2
                have Ha := H a' (by omega)
                rcases (hz a' h2).mp hh with z | z <;> omega
              · rw [wI_ne2 _ _ (by decide), wI_same]
        -- the least
        have two : ∀ mo ma, (ma ≤ n ∧ mo = lvl s c p k ma ∧ (∀ i, i ≤ n → zl s c p k i ≤ zl s c p k ma) ∧ (∀ i, ma < i → i ≤ n → zl s c p k i < zl s c p k ma)) → Wp 3 j_Levels_findStretch 64 [.ref 49, .int (nI p), .int (kV k), .long (gapV s c p k), .null, .int (nI (cO s k (zT s))), .long (lvl s c p k n), .null, .long mo, .null, .long le, .null, .int (nI ma), .int (nI la), .int (nI n)] [] h (fun w h' => Same h h' ∧ ((w = some (.int 0) ∧ (gapV s c p k = 0 ∨ ∀ n, n < cO s k (zT s) → ∀ a, a ≤ n → ¬ hit s c p k a n)) ∨ (w = some (.int 1) ∧ ¬ gapV s c p k = 0 ∧ ∃ n a, n < cO s k (zT s) ∧ a ≤ n ∧ hit s c p k a n ∧ (∀ n', n' < n → ∀ a', a' ≤ n' → ¬ hit s c p k a' n') ∧ (∀ a', a < a' → a' ≤ n → ¬ hit s c p k a' n) ∧ h'.1 49 3 = nI a ∧ h'.1 49 4 = nI n))) := by
          rintro mo ma ⟨x1, x2, x3, x4⟩
          repeat (first | (refine W1 rfl ?_; try refine Wp.norm (L' := [_, _, _, _, _, _, _, _, _, _, _, _, _, _, _]) rfl ?_) | ((first | change (_ → _) ∧ (_ → _) | change vp_in _ _ ∧ _ | change ¬ _ ∧ _); simp (disch := omega) only [nI_clamp, nI_leI, nI_ltI, nI_eq, nI_1, nI_add, nI_not_neg, nI_is_pos, nI_m1, nI_z]) | refine brT (by first | assumption | decide | omega) ?_ | refine brF (by first | assumption | decide | omega) ?_ | refine brTn (by first | assumption | decide | omega) ?_ | refine brFn (by first | assumption | decide | omega) ?_ | refine And.intro (vp_in_nI (by omega) (by decide)) ?_ | refine And.intro (vp_lit (by decide)) ?_ | refine divJ (by decide) ?_ | refine divI (by decide) ?_)
          try change _ ∧ _
          rw [lgc_gt]
          refine ⟨fun q => ?_, fun q => ?_⟩
          · -- the level lies above the least
            rcases X with ⟨z, z1, z2⟩ | ⟨y0, y1, y2, y3, y4, y5, y6, y7⟩
            · exfalso
              subst z
              rw [z2, show lvl s c p k 0 = 0 from rfl] at q
              exact absurd q (by decide)
            · have q : zl s c p k la < zl s c p k n := by
                rw [y4, Int64.lt_iff_toInt_lt] at q
                exact q
              refine fin mo le ma la ⟨x1, by omega, x2, y4, fun i hi => ⟨x3 i hi, ?_⟩, x4, fun i h1 h2 => ?_⟩
              · by_cases e : i = n
                · subst e; omega
                · exact (y5 i (by omega)).2
              · by_cases e : i = n
                · subst e; exact q
                · exact y7 i h1 (by omega)
          · have ih := fin mo (lvl s c p k n) ma n ⟨x1, Nat.le_refl _, x2, rfl, fun i hi => ⟨x3 i hi, ?_⟩, x4, fun i h1 h2 => absurd h2 (by omega)⟩
            · repeat (first | refine Wp.at ih rfl rfl ?_ rfl | (refine W1 rfl ?_; try refine Wp.norm (L' := [_, _, _, _, _, _, _, _, _, _, _, _, _, _, _]) rfl ?_) | ((first | change (_ → _) ∧ (_ → _) | change vp_in _ _ ∧ _ | change ¬ _ ∧ _); simp (disch := omega) only [nI_clamp, nI_leI, nI_ltI, nI_eq, nI_1, nI_add, nI_not_neg, nI_is_pos, nI_m1, nI_z]) | refine brT (by first | assumption | decide | omega) ?_ | refine brF (by first | assumption | decide | omega) ?_ | refine brTn (by first | assumption | decide | omega) ?_ | refine brFn (by first | assumption | decide | omega) ?_ | refine And.intro (vp_in_nI (by omega) (by decide)) ?_ | refine And.intro (vp_lit (by decide)) ?_ | refine divJ (by decide) ?_ | refine divI (by decide) ?_)
              try change _ ∧ _
              first | done | rfl | (simp (disch := omega) only [nI_1, nI_add, nI_clamp] <;> first | done | rfl)
            · rcases X with ⟨z, z1, z2⟩ | ⟨y0, y1, y2, y3, y4, y5, y6, y7⟩
              · subst z
                obtain rfl : i = 0 := by omega
                exact Int.le_refl _
              · have q : zl s c p k n ≤ zl s c p k la := by
                  rw [y4, Int64.lt_iff_toInt_lt] at q
                  unfold zl
                  omega
                by_cases e : i = n
                · subst e; exact Int.le_refl _
                · have := (y5 i (by omega)).2
                  omega
        repeat (first | (refine W1 rfl ?_; try refine Wp.norm (L' := [_, _, _, _, _, _, _, _, _, _, _, _, _, _, _]) rfl ?_) | ((first | change (_ → _) ∧ (_ → _) | change vp_in _ _ ∧ _ | change ¬ _ ∧ _); simp (disch := omega) only [nI_clamp, nI_leI, nI_ltI, nI_eq, nI_1, nI_add, nI_not_neg, nI_is_pos, nI_m1, nI_z]) | refine brT (by first | assumption | decide | omega) ?_ | refine brF (by first | assumption | decide | omega) ?_ | refine brTn (by first | assumption | decide | omega) ?_ | refine brFn (by first | assumption | decide | omega) ?_ | refine And.intro (vp_in_nI (by omega) (by decide)) ?_ | refine And.intro (vp_lit (by decide)) ?_ | refine divJ (by decide) ?_ | refine divI (by decide) ?_)
        try change _ ∧ _
        rw [lgc_le]
        refine brF (hg0.mpr hG) ?_
        repeat (first | (refine W1 rfl ?_; try refine Wp.norm (L' := [_, _, _, _, _, _, _, _, _, _, _, _, _, _, _]) rfl ?_) | ((first | change (_ → _) ∧ (_ → _) | change vp_in _ _ ∧ _ | change ¬ _ ∧ _); simp (disch := omega) only [nI_clamp, nI_leI, nI_ltI, nI_eq, nI_1, nI_add, nI_not_neg, nI_is_pos, nI_m1, nI_z]) | refine brT (by first | assumption | decide | omega) ?_ | refine brF (by first | assumption | decide | omega) ?_ | refine brTn (by first | assumption | decide | omega) ?_ | refine brFn (by first | assumption | decide | omega) ?_ | refine And.intro (vp_in_nI (by omega) (by decide)) ?_ | refine And.intro (vp_lit (by decide)) ?_ | refine divJ (by decide) ?_ | refine divI (by decide) ?_)
        try change _ ∧ _
        rw [lgc_lt]
        refine ⟨fun q => ?_, fun q => ?_⟩
        · rcases X with ⟨z, z1, z2⟩ | ⟨y0, y1, y2, y3, y4, y5, y6, y7⟩
          · exfalso
            subst z
            rw [z1, show lvl s c p k 0 = 0 from rfl] at q
            exact absurd q (by decide)
          · have q : zl s c p k n < zl s c p k ma := by
              rw [y3, Int64.lt_iff_toInt_lt] at q
              exact q
            refine two mo ma ⟨by omega, y3, fun i hi => ?_, fun i h1 h2 => ?_⟩
            · by_cases e : i = n
              · subst e; omega
              · exact (y5 i (by omega)).1
            · by_cases e : i = n
              · subst e; exact q
              · exact y6 i h1 (by omega)
        · have ih := two (lvl s c p k n) n ⟨Nat.le_refl _, rfl, fun i hi => ?_, fun i h1 h2 => absurd h2 (by omega)⟩
          · repeat (first | refine Wp.at ih rfl rfl ?_ rfl | (refine W1 rfl ?_; try refine Wp.norm (L' := [_, _, _, _, _, _, _, _, _, _, _, _, _, _, _]) rfl ?_) | ((first | change (_ → _) ∧ (_ → _) | change vp_in _ _ ∧ _ | change ¬ _ ∧ _); simp (disch := omega) only [nI_clamp, nI_leI, nI_ltI, nI_eq, nI_1, nI_add, nI_not_neg, nI_is_pos, nI_m1, nI_z]) | refine brT (by first | assumption | decide | omega) ?_ | refine brF (by first | assumption | decide | omega) ?_ | refine brTn (by first | assumption | decide | omega) ?_ | refine brFn (by first | assumption | decide | omega) ?_ | refine And.intro (vp_in_nI (by omega) (by decide)) ?_ | refine And.intro (vp_lit (by decide)) ?_ | refine divJ (by decide) ?_ | refine divI (by decide) ?_)
            try change _ ∧ _
            first | done | rfl | (simp (disch := omega) only [nI_1, nI_add, nI_clamp] <;> first | done | rfl)
          · rcases X with ⟨z, z1, z2⟩ | ⟨y0, y1, y2, y3, y4, y5, y6, y7⟩
            · subst z
              obtain rfl : i = 0 := by omega
              exact Int.le_refl _
            · have q : zl s c p k ma ≤ zl s c p k n := by
                rw [y3, Int64.lt_iff_toInt_lt] at q
                unfold zl
                omega
              by_cases e : i = n
              · subst e; exact Int.le_refl _
              · have := (y5 i (by omega)).1
                omega
    have ih := lp 0 (Nat.zero_le _) 0 0 0 0 (Or.inl ⟨rfl, rfl, rfl⟩) (fun n' hn' => absurd hn' (by omega)) (by decide) (by decide)
    repeat (first | (refine W1 rfl ?_; try refine Wp.norm (L' := [_, _, _, _, _, _, _, _, _, _, _, _, _, _, _]) rfl ?_) | ((first | change (_ → _) ∧ (_ → _) | change vp_in _ _ ∧ _ | change ¬ _ ∧ _); simp (disch := omega) only [nI_clamp, nI_leI, nI_ltI, nI_eq, nI_1, nI_add, nI_not_neg, nI_is_pos, nI_m1, nI_z]) | refine brT (by first | assumption | decide | omega) ?_ | refine brF (by first | assumption | decide | omega) ?_ | refine brTn (by first | assumption | decide | omega) ?_ | refine brFn (by first | assumption | decide | omega) ?_ | refine And.intro (vp_in_nI (by omega) (by decide)) ?_ | refine And.intro (vp_lit (by decide)) ?_ | refine divJ (by decide) ?_ | refine divI (by decide) ?_)
    try change _ ∧ _
    refine Cl.of (r_Levels_gapOf R o hk hp) (by decide) ?_
    repeat (first | (refine W1 rfl ?_; try refine Wp.norm (L' := [_, _, _, _, _, _, _, _, _, _, _, _, _, _, _]) rfl ?_) | ((first | change (_ → _) ∧ (_ → _) | change vp_in _ _ ∧ _ | change ¬ _ ∧ _); simp (disch := omega) only [nI_clamp, nI_leI, nI_ltI, nI_eq, nI_1, nI_add, nI_not_neg, nI_is_pos, nI_m1, nI_z]) | refine brT (by first | assumption | decide | omega) ?_ | refine brF (by first | assumption | decide | omega) ?_ | refine brTn (by first | assumption | decide | omega) ?_ | refine brFn (by first | assumption | decide | omega) ?_ | refine And.intro (vp_in_nI (by omega) (by decide)) ?_ | refine And.intro (vp_lit (by decide)) ?_ | refine divJ (by decide) ?_ | refine divI (by decide) ?_)
    try change _ ∧ _
    refine Cl.of (r_Calendar_countOf R o hk) (by decide) ?_
    repeat (first | refine Wp.at ih rfl rfl ?_ rfl | (refine W1 rfl ?_; try refine Wp.norm (L' := [_, _, _, _, _, _, _, _, _, _, _, _, _, _, _]) rfl ?_) | ((first | change (_ → _) ∧ (_ → _) | change vp_in _ _ ∧ _ | change ¬ _ ∧ _); simp (disch := omega) only [nI_clamp, nI_leI, nI_ltI, nI_eq, nI_1, nI_add, nI_not_neg, nI_is_pos, nI_m1, nI_z]) | refine brT (by first | assumption | decide | omega) ?_ | refine brF (by first | assumption | decide | omega) ?_ | refine brTn (by first | assumption | decide | omega) ?_ | refine brFn (by first | assumption | decide | omega) ?_ | refine And.intro (vp_in_nI (by omega) (by decide)) ?_ | refine And.intro (vp_lit (by decide)) ?_ | refine divJ (by decide) ?_ | refine divI (by decide) ?_)
    try change _ ∧ _
    first | done | rfl | (simp (disch := omega) only [nI_1, nI_add, nI_clamp] <;> first | done | rfl)
end STR
