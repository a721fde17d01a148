/-! ===== GAP, WORST; levels as whole numbers ===== -/
theorem i64_add {a b : Int64} (h1 : -2 ^ 63 ≤ a.toInt + b.toInt) (h2 : a.toInt + b.toInt < 2 ^ 63) : (a + b).toInt = a.toInt + b.toInt := by
  rw [Int64.toInt_add]
  exact Int.bmod_eq_of_le (by omega) (by omega)
theorem i64_sub {a b : Int64} (h1 : -2 ^ 63 ≤ a.toInt - b.toInt) (h2 : a.toInt - b.toInt < 2 ^ 63) : (a - b).toInt = a.toInt - b.toInt := by
  rw [Int64.toInt_sub]
  exact Int.bmod_eq_of_le (by omega) (by omega)
theorem i64_mul {a b : Int64} (h1 : -2 ^ 63 ≤ a.toInt * b.toInt) (h2 : a.toInt * b.toInt < 2 ^ 63) : (a * b).toInt = a.toInt * b.toInt := by
  rw [Int64.toInt_mul]
  exact Int.bmod_eq_of_le (by omega) (by omega)
theorem mxJ_toInt (x y : Int64) : (mxJ x y).toInt = max x.toInt y.toInt := by
  unfold mxJ
  split
  · rename_i h
    rw [Int64.lt_iff_toInt_lt] at h
    omega
  · rename_i h
    rw [Int64.lt_iff_toInt_lt] at h
    omega
theorem mnJ_toInt (x y : Int64) : (mnJ x y).toInt = min x.toInt y.toInt := by
  unfold mnJ
  split
  · rename_i h
    rw [Int64.lt_iff_toInt_lt] at h
    omega
  · rename_i h
    rw [Int64.lt_iff_toInt_lt] at h
    omega
section ZED
variable {s : ST} {c v : RT} {h : HP} {k : Option Nat}
theorem chg_bd (o : OK s) {p t : Nat} (hp : p < zP s) (ht : t < zT s) : -65000000 ≤ (chg s c p k t).toInt ∧ (chg s c p k t).toInt ≤ 65000000 := by
  have hd := dueN_le o hp t
  have hw := o.wgt (o.knd ht)
  have e : ((if c t = nI p then (720720 : Int32) else 0) - nI (dueN s p t)).toInt64.toInt = (if c t = nI p then 720720 else 0) - (dueN s p t : Int) := by
    rw [i64_i32]
    split
    · rw [show (720720 : Int32) = nI 720720 from rfl, pk_sub_toInt (by decide) (by omega)]
      rfl
    · rw [show (0 : Int32) = nI 0 from rfl, pk_sub_toInt (by decide) (by omega)]
      rfl
  have hb : -6486480 ≤ ((if c t = nI p then (720720 : Int32) else 0) - nI (dueN s p t)).toInt64.toInt ∧ ((if c t = nI p then (720720 : Int32) else 0) - nI (dueN s p t)).toInt64.toInt ≤ 720720 := by
    rw [e]
    split <;> omega
  cases k with
  | some k => exact ⟨by show _ ≤ (Int32.toInt64 _).toInt; omega, by show (Int32.toInt64 _).toInt ≤ _; omega⟩
  | none =>
    show _ ≤ (_ * _ : Int64).toInt ∧ (_ * _ : Int64).toInt ≤ _
    have ew : (nI (kW s (tK s t))).toInt64.toInt = (kW s (tK s t) : Int) := by rw [i64_i32, nI_toInt (by omega)]
    generalize ((if c t = nI p then (720720 : Int32) else 0) - nI (dueN s p t)).toInt64 = a at hb ⊢
    generalize kW s (tK s t) = w at hw ew ⊢
    have h1 : -65000000 ≤ a.toInt * (w : Int) := by
      have := Int.mul_le_mul_of_nonneg_right hb.1 (show (0 : Int) ≤ w by omega)
      have h9 : (-6486480 : Int) * 9 ≤ -6486480 * (w : Int) := by omega
      omega
    have h2 : a.toInt * (w : Int) ≤ 65000000 := by
      have := Int.mul_le_mul_of_nonneg_right hb.2 (show (0 : Int) ≤ w by omega)
      have h9 : (720720 : Int) * (w : Int) ≤ 720720 * 9 := by omega
      omega
    rw [i64_mul (by rw [ew]; omega) (by rw [ew]; omega), ew]
    exact ⟨h1, h2⟩
/-- the gap's fold, bounded -/
theorem gpT_bd (o : OK s) {p : Nat} (hp : p < zP s) : ∀ t, t ≤ zT s → (-65000000 * (t : Int) ≤ (gpT s c p k t).1.toInt ∧ (gpT s c p k t).1.toInt ≤ 65000000 * t) ∧ (0 ≤ (gpT s c p k t).2.1.toInt ∧ (gpT s c p k t).2.1.toInt ≤ 65000000 * t) ∧ (-65000000 * (t : Int) ≤ (gpT s c p k t).2.2.toInt ∧ (gpT s c p k t).2.2.toInt ≤ 0) ∧ (gpT s c p k t).2.2.toInt ≤ (gpT s c p k t).1.toInt ∧ (gpT s c p k t).1.toInt ≤ (gpT s c p k t).2.1.toInt
  | 0, _ => by
    have e : gpT s c p k 0 = (0, 0, 0) := rfl
    rw [e]
    decide
  | t + 1, ht => by
    have ih := gpT_bd o hp t (by omega)
    have hT := o.T
    have hc := chg_bd (c := c) (k := k) o hp (show t < zT s by omega)
    have e : gpT s c p k (t + 1) = if isO s k t = true then gpf s c p k (gpT s c p k t) t else gpT s c p k t := rfl
    rw [e]
    split
    · have e1 : (gpf s c p k (gpT s c p k t) t).1.toInt = (gpT s c p k t).1.toInt + (chg s c p k t).toInt := i64_add (by omega) (by omega)
      have e2 : (gpf s c p k (gpT s c p k t) t).2.1.toInt = max (gpT s c p k t).2.1.toInt (gpf s c p k (gpT s c p k t) t).1.toInt := mxJ_toInt _ _
      have e3 : (gpf s c p k (gpT s c p k t) t).2.2.toInt = min (gpT s c p k t).2.2.toInt (gpf s c p k (gpT s c p k t) t).1.toInt := mnJ_toInt _ _
      omega
    · omega
theorem gapV_toInt (o : OK s) {p : Nat} (hp : p < zP s) : (gapV s c p k).toInt = (gpT s c p k (zT s)).2.1.toInt - (gpT s c p k (zT s)).2.2.toInt := by
  have hT := o.T
  have := gpT_bd (c := c) (k := k) o hp (zT s) (Nat.le_refl _)
  exact i64_sub (by omega) (by omega)
theorem gapV_pos (o : OK s) {p : Nat} (hp : p < zP s) : 0 ≤ (gapV s c p k).toInt := by
  have := gpT_bd (c := c) (k := k) o hp (zT s) (Nat.le_refl _)
  rw [gapV_toInt o hp]
  omega
theorem r_E_gap (R : RC s c v h) (o : OK s) (hk : kOK s k) {p : Nat} (hp : p < zP s) : Run 3 j_E_gap [.ref 0, .int (nI p), .int (kV k)] h (some (.long (gapV s c p k))) h := by
  refine Run.of rfl ?_
  refine Wp.norm (L' := [_, _, _]) rfl ?_
  repeat (first | (refine W1 rfl ?_; try refine Wp.norm (L' := [_, _, _]) rfl ?_) | refine brT (by first | decide | omega) ?_ | refine brF (by first | decide | omega) ?_ | refine brTn (by first | decide | omega) ?_ | refine brFn (by first | decide | omega) ?_ | refine And.intro (vp_lit (by decide)) ?_ | refine And.intro (vp_in_nI (by omega) (by decide)) ?_ | ((first | change (_ → _) ∧ (_ → _) | change vp_in _ _ ∧ _ | change ¬ _ ∧ _); simp (disch := omega) only [nI_clamp, nI_leI, nI_ltI, nI_eq, nI_1, nI_add, nI_not_neg, nI_is_pos, nI_m1, nI_z]))
  try change _ ∧ _
  refine Cl.of (g_EP R o hp) (by decide) ?_
  repeat (first | (refine W1 rfl ?_; try refine Wp.norm (L' := [_, _, _]) rfl ?_) | refine brT (by first | decide | omega) ?_ | refine brF (by first | decide | omega) ?_ | refine brTn (by first | decide | omega) ?_ | refine brFn (by first | decide | omega) ?_ | refine And.intro (vp_lit (by decide)) ?_ | refine And.intro (vp_in_nI (by omega) (by decide)) ?_ | ((first | change (_ → _) ∧ (_ → _) | change vp_in _ _ ∧ _ | change ¬ _ ∧ _); simp (disch := omega) only [nI_clamp, nI_leI, nI_ltI, nI_eq, nI_1, nI_add, nI_not_neg, nI_is_pos, nI_m1, nI_z]))
  try change _ ∧ _
  refine Cl.of (g_EKN R o hk) (by decide) ?_
  repeat (first | (refine W1 rfl ?_; try refine Wp.norm (L' := [_, _, _]) rfl ?_) | refine brT (by first | decide | omega) ?_ | refine brF (by first | decide | omega) ?_ | refine brTn (by first | decide | omega) ?_ | refine brFn (by first | decide | omega) ?_ | refine And.intro (vp_lit (by decide)) ?_ | refine And.intro (vp_in_nI (by omega) (by decide)) ?_ | ((first | change (_ → _) ∧ (_ → _) | change vp_in _ _ ∧ _ | change ¬ _ ∧ _); simp (disch := omega) only [nI_clamp, nI_leI, nI_ltI, nI_eq, nI_1, nI_add, nI_not_neg, nI_is_pos, nI_m1, nI_z]))
  try change _ ∧ _
  refine Cl.of (r_Levels_gapOf R o hk hp) (by decide) ?_
  repeat (first | (refine W1 rfl ?_; try refine Wp.norm (L' := [_, _, _]) rfl ?_) | refine brT (by first | decide | omega) ?_ | refine brF (by first | decide | omega) ?_ | refine brTn (by first | decide | omega) ?_ | refine brFn (by first | decide | omega) ?_ | refine And.intro (vp_lit (by decide)) ?_ | refine And.intro (vp_in_nI (by omega) (by decide)) ?_ | ((first | change (_ → _) ∧ (_ → _) | change vp_in _ _ ∧ _ | change ¬ _ ∧ _); simp (disch := omega) only [nI_clamp, nI_leI, nI_ltI, nI_eq, nI_1, nI_add, nI_not_neg, nI_is_pos, nI_m1, nI_z]))
  try change _ ∧ _
  try first | exact ⟨rfl, rfl⟩ | exact ⟨Or.inr rfl, rfl, rfl⟩ | exact ⟨Or.inl rfl, rfl, rfl⟩ | exact ⟨trivial, trivial⟩ | exact ⟨rfl, trivial⟩ | exact ⟨Or.inr rfl, rfl, trivial⟩ | exact ⟨Or.inl rfl, rfl, trivial⟩
theorem r_E_gapN (R : RC s c v h) (o : OK s) {x y : Int32} (hb : ¬ (0 ≤ x ∧ x < nI (zP s)) ∨ (¬ y = -1 ∧ ¬ (0 ≤ y ∧ y < nI (zK s)))) : Run 3 j_E_gap [.ref 0, .int x, .int y] h (some (.long (-1))) h := by
  have hT := o.T; have hP := o.P; have hK := o.K; have hD := o.D; have hO := o.O; have hQ := o.Q; have hL := o.L
  refine Run.of rfl ?_
  refine Wp.norm (L' := [_, _, _]) rfl ?_
  repeat (first | (refine W1 rfl ?_; try refine Wp.norm (L' := [_, _, _]) rfl ?_) | refine brT (by first | decide | omega) ?_ | refine brF (by first | decide | omega) ?_ | refine brTn (by first | decide | omega) ?_ | refine brFn (by first | decide | omega) ?_ | refine And.intro (vp_lit (by decide)) ?_ | refine And.intro (vp_in_nI (by omega) (by decide)) ?_ | ((first | change (_ → _) ∧ (_ → _) | change vp_in _ _ ∧ _ | change ¬ _ ∧ _); simp (disch := omega) only [nI_clamp, nI_leI, nI_ltI, nI_eq, nI_1, nI_add, nI_not_neg, nI_is_pos, nI_m1, nI_z]))
  try change _ ∧ _
  rcases ix_cases x (n := zP s) (by omega) with ⟨p, hp, rfl⟩ | hx
  · refine Cl.of (g_EP R o hp) (by decide) ?_
    repeat (first | (refine W1 rfl ?_; try refine Wp.norm (L' := [_, _, _]) rfl ?_) | refine brT (by first | decide | omega) ?_ | refine brF (by first | decide | omega) ?_ | refine brTn (by first | decide | omega) ?_ | refine brFn (by first | decide | omega) ?_ | refine And.intro (vp_lit (by decide)) ?_ | refine And.intro (vp_in_nI (by omega) (by decide)) ?_ | ((first | change (_ → _) ∧ (_ → _) | change vp_in _ _ ∧ _ | change ¬ _ ∧ _); simp (disch := omega) only [nI_clamp, nI_leI, nI_ltI, nI_eq, nI_1, nI_add, nI_not_neg, nI_is_pos, nI_m1, nI_z]))
    try change _ ∧ _
    have hy := hb.resolve_left (fun z => z (ix_ok hp (by omega)))
    refine Cl.of (g_EKNn R hy.1 hy.2) (by decide) ?_
    repeat (first | (refine W1 rfl ?_; try refine Wp.norm (L' := [_, _, _]) rfl ?_) | refine brT (by first | decide | omega) ?_ | refine brF (by first | decide | omega) ?_ | refine brTn (by first | decide | omega) ?_ | refine brFn (by first | decide | omega) ?_ | refine And.intro (vp_lit (by decide)) ?_ | refine And.intro (vp_in_nI (by omega) (by decide)) ?_ | ((first | change (_ → _) ∧ (_ → _) | change vp_in _ _ ∧ _ | change ¬ _ ∧ _); simp (disch := omega) only [nI_clamp, nI_leI, nI_ltI, nI_eq, nI_1, nI_add, nI_not_neg, nI_is_pos, nI_m1, nI_z]))
    try change _ ∧ _
    try first | exact ⟨rfl, rfl⟩ | exact ⟨Or.inr rfl, rfl, rfl⟩ | exact ⟨Or.inl rfl, rfl, rfl⟩ | exact ⟨trivial, trivial⟩ | exact ⟨rfl, trivial⟩ | exact ⟨Or.inr rfl, rfl, trivial⟩ | exact ⟨Or.inl rfl, rfl, trivial⟩
  · refine Cl.of (g_EPn R hx) (by decide) ?_
    repeat (first | (refine W1 rfl ?_; try refine Wp.norm (L' := [_, _, _]) rfl ?_) | refine brT (by first | decide | omega) ?_ | refine brF (by first | decide | omega) ?_ | refine brTn (by first | decide | omega) ?_ | refine brFn (by first | decide | omega) ?_ | refine And.intro (vp_lit (by decide)) ?_ | refine And.intro (vp_in_nI (by omega) (by decide)) ?_ | ((first | change (_ → _) ∧ (_ → _) | change vp_in _ _ ∧ _ | change ¬ _ ∧ _); simp (disch := omega) only [nI_clamp, nI_leI, nI_ltI, nI_eq, nI_1, nI_add, nI_not_neg, nI_is_pos, nI_m1, nI_z]))
    try change _ ∧ _
    try first | exact ⟨rfl, rfl⟩ | exact ⟨Or.inr rfl, rfl, rfl⟩ | exact ⟨Or.inl rfl, rfl, rfl⟩ | exact ⟨trivial, trivial⟩ | exact ⟨rfl, trivial⟩ | exact ⟨Or.inr rfl, rfl, trivial⟩ | exact ⟨Or.inl rfl, rfl, trivial⟩
theorem r_M_gap (R : RM s c v h) (o : OK s) (hk : kOK s k) {p : Nat} (hp : p < zP s) : Run 4 j_M_gap [.ref 65, .int (nI p), .int (kV k)] h (some (.long (gapV s c p k))) h := by
  have hT := o.T; have hP := o.P; have hK := o.K; have hD := o.D; have hO := o.O; have hQ := o.Q; have hL := o.L
  refine Run.of rfl ?_
  refine Wp.norm (L' := [_, _, _]) rfl ?_
  repeat (first | (refine W1 rfl ?_; try refine Wp.norm (L' := [_, _, _]) rfl ?_) | refine brT (by first | decide | omega) ?_ | refine brF (by first | decide | omega) ?_ | refine brTn (by first | decide | omega) ?_ | refine brFn (by first | decide | omega) ?_ | refine And.intro (vp_lit (by decide)) ?_ | refine And.intro (vp_in_nI (by omega) (by decide)) ?_ | ((first | change (_ → _) ∧ (_ → _) | change vp_in _ _ ∧ _ | change ¬ _ ∧ _); simp (disch := omega) only [nI_clamp, nI_leI, nI_ltI, nI_eq, nI_1, nI_add, nI_not_neg, nI_is_pos, nI_m1, nI_z]))
  try change _ ∧ _
  refine Cl.of (g_MP R o hp) (by decide) ?_
  repeat (first | (refine W1 rfl ?_; try refine Wp.norm (L' := [_, _, _]) rfl ?_) | refine brT (by first | decide | omega) ?_ | refine brF (by first | decide | omega) ?_ | refine brTn (by first | decide | omega) ?_ | refine brFn (by first | decide | omega) ?_ | refine And.intro (vp_lit (by decide)) ?_ | refine And.intro (vp_in_nI (by omega) (by decide)) ?_ | ((first | change (_ → _) ∧ (_ → _) | change vp_in _ _ ∧ _ | change ¬ _ ∧ _); simp (disch := omega) only [nI_clamp, nI_leI, nI_ltI, nI_eq, nI_1, nI_add, nI_not_neg, nI_is_pos, nI_m1, nI_z]))
  try change _ ∧ _
  cases k with
  | none =>
    refine brT rfl ?_
    repeat (first | (refine W1 rfl ?_; try refine Wp.norm (L' := [_, _, _]) rfl ?_) | refine brT (by first | decide | omega) ?_ | refine brF (by first | decide | omega) ?_ | refine brTn (by first | decide | omega) ?_ | refine brFn (by first | decide | omega) ?_ | refine And.intro (vp_lit (by decide)) ?_ | refine And.intro (vp_in_nI (by omega) (by decide)) ?_ | ((first | change (_ → _) ∧ (_ → _) | change vp_in _ _ ∧ _ | change ¬ _ ∧ _); simp (disch := omega) only [nI_clamp, nI_leI, nI_ltI, nI_eq, nI_1, nI_add, nI_not_neg, nI_is_pos, nI_m1, nI_z]))
    try change _ ∧ _
    refine Cl.of (r_M_gapOf R o hk hp) (by decide) ?_
    repeat (first | (refine W1 rfl ?_; try refine Wp.norm (L' := [_, _, _]) rfl ?_) | refine brT (by first | decide | omega) ?_ | refine brF (by first | decide | omega) ?_ | refine brTn (by first | decide | omega) ?_ | refine brFn (by first | decide | omega) ?_ | refine And.intro (vp_lit (by decide)) ?_ | refine And.intro (vp_in_nI (by omega) (by decide)) ?_ | ((first | change (_ → _) ∧ (_ → _) | change vp_in _ _ ∧ _ | change ¬ _ ∧ _); simp (disch := omega) only [nI_clamp, nI_leI, nI_ltI, nI_eq, nI_1, nI_add, nI_not_neg, nI_is_pos, nI_m1, nI_z]))
    try change _ ∧ _
    try first | exact ⟨rfl, rfl⟩ | exact ⟨Or.inr rfl, rfl, rfl⟩ | exact ⟨Or.inl rfl, rfl, rfl⟩ | exact ⟨trivial, trivial⟩ | exact ⟨rfl, trivial⟩ | exact ⟨Or.inr rfl, rfl, trivial⟩ | exact ⟨Or.inl rfl, rfl, trivial⟩
  | some k =>
    have hk1 := hk k rfl
    refine brF (fun z => (nI_m1 (by omega)).mp z) ?_
    repeat (first | (refine W1 rfl ?_; try refine Wp.norm (L' := [_, _, _]) rfl ?_) | refine brT (by first | decide | omega) ?_ | refine brF (by first | decide | omega) ?_ | refine brTn (by first | decide | omega) ?_ | refine brFn (by first | decide | omega) ?_ | refine And.intro (vp_lit (by decide)) ?_ | refine And.intro (vp_in_nI (by omega) (by decide)) ?_ | ((first | change (_ → _) ∧ (_ → _) | change vp_in _ _ ∧ _ | change ¬ _ ∧ _); simp (disch := omega) only [nI_clamp, nI_leI, nI_ltI, nI_eq, nI_1, nI_add, nI_not_neg, nI_is_pos, nI_m1, nI_z]))
    try change _ ∧ _
    refine Cl.of (g_MK R o hk1) (by decide) ?_
    repeat (first | (refine W1 rfl ?_; try refine Wp.norm (L' := [_, _, _]) rfl ?_) | refine brT (by first | decide | omega) ?_ | refine brF (by first | decide | omega) ?_ | refine brTn (by first | decide | omega) ?_ | refine brFn (by first | decide | omega) ?_ | refine And.intro (vp_lit (by decide)) ?_ | refine And.intro (vp_in_nI (by omega) (by decide)) ?_ | ((first | change (_ → _) ∧ (_ → _) | change vp_in _ _ ∧ _ | change ¬ _ ∧ _); simp (disch := omega) only [nI_clamp, nI_leI, nI_ltI, nI_eq, nI_1, nI_add, nI_not_neg, nI_is_pos, nI_m1, nI_z]))
    try change _ ∧ _
    refine Cl.of (r_M_gapOf R o hk hp) (by decide) ?_
    repeat (first | (refine W1 rfl ?_; try refine Wp.norm (L' := [_, _, _]) rfl ?_) | refine brT (by first | decide | omega) ?_ | refine brF (by first | decide | omega) ?_ | refine brTn (by first | decide | omega) ?_ | refine brFn (by first | decide | omega) ?_ | refine And.intro (vp_lit (by decide)) ?_ | refine And.intro (vp_in_nI (by omega) (by decide)) ?_ | ((first | change (_ → _) ∧ (_ → _) | change vp_in _ _ ∧ _ | change ¬ _ ∧ _); simp (disch := omega) only [nI_clamp, nI_leI, nI_ltI, nI_eq, nI_1, nI_add, nI_not_neg, nI_is_pos, nI_m1, nI_z]))
    try change _ ∧ _
    try first | exact ⟨rfl, rfl⟩ | exact ⟨Or.inr rfl, rfl, rfl⟩ | exact ⟨Or.inl rfl, rfl, rfl⟩ | exact ⟨trivial, trivial⟩ | exact ⟨rfl, trivial⟩ | exact ⟨Or.inr rfl, rfl, trivial⟩ | exact ⟨Or.inl rfl, rfl, trivial⟩
theorem r_M_gapN (R : RM s c v h) (o : OK s) {x y : Int32} (hb : ¬ (0 ≤ x ∧ x < nI (zP s)) ∨ (¬ y = -1 ∧ ¬ (0 ≤ y ∧ y < nI (zK s)))) : Run 4 j_M_gap [.ref 65, .int x, .int y] h (some (.long (-1))) h := by
  have hT := o.T; have hP := o.P; have hK := o.K; have hD := o.D; have hO := o.O; have hQ := o.Q; have hL := o.L
  refine Run.of rfl ?_
  refine Wp.norm (L' := [_, _, _]) rfl ?_
  repeat (first | (refine W1 rfl ?_; try refine Wp.norm (L' := [_, _, _]) rfl ?_) | refine brT (by first | decide | omega) ?_ | refine brF (by first | decide | omega) ?_ | refine brTn (by first | decide | omega) ?_ | refine brFn (by first | decide | omega) ?_ | refine And.intro (vp_lit (by decide)) ?_ | refine And.intro (vp_in_nI (by omega) (by decide)) ?_ | ((first | change (_ → _) ∧ (_ → _) | change vp_in _ _ ∧ _ | change ¬ _ ∧ _); simp (disch := omega) only [nI_clamp, nI_leI, nI_ltI, nI_eq, nI_1, nI_add, nI_not_neg, nI_is_pos, nI_m1, nI_z]))
  try change _ ∧ _
  rcases ix_cases x (n := zP s) (by omega) with ⟨p, hp, rfl⟩ | hx
  · refine Cl.of (g_MP R o hp) (by decide) ?_
    repeat (first | (refine W1 rfl ?_; try refine Wp.norm (L' := [_, _, _]) rfl ?_) | refine brT (by first | decide | omega) ?_ | refine brF (by first | decide | omega) ?_ | refine brTn (by first | decide | omega) ?_ | refine brFn (by first | decide | omega) ?_ | refine And.intro (vp_lit (by decide)) ?_ | refine And.intro (vp_in_nI (by omega) (by decide)) ?_ | ((first | change (_ → _) ∧ (_ → _) | change vp_in _ _ ∧ _ | change ¬ _ ∧ _); simp (disch := omega) only [nI_clamp, nI_leI, nI_ltI, nI_eq, nI_1, nI_add, nI_not_neg, nI_is_pos, nI_m1, nI_z]))
    try change _ ∧ _
    have hy := hb.resolve_left (fun z => z (ix_ok hp (by omega)))
    refine brF hy.1 ?_
    repeat (first | (refine W1 rfl ?_; try refine Wp.norm (L' := [_, _, _]) rfl ?_) | refine brT (by first | decide | omega) ?_ | refine brF (by first | decide | omega) ?_ | refine brTn (by first | decide | omega) ?_ | refine brFn (by first | decide | omega) ?_ | refine And.intro (vp_lit (by decide)) ?_ | refine And.intro (vp_in_nI (by omega) (by decide)) ?_ | ((first | change (_ → _) ∧ (_ → _) | change vp_in _ _ ∧ _ | change ¬ _ ∧ _); simp (disch := omega) only [nI_clamp, nI_leI, nI_ltI, nI_eq, nI_1, nI_add, nI_not_neg, nI_is_pos, nI_m1, nI_z]))
    try change _ ∧ _
    refine Cl.of (g_MKn R o hy.2) (by decide) ?_
    repeat (first | (refine W1 rfl ?_; try refine Wp.norm (L' := [_, _, _]) rfl ?_) | refine brT (by first | decide | omega) ?_ | refine brF (by first | decide | omega) ?_ | refine brTn (by first | decide | omega) ?_ | refine brFn (by first | decide | omega) ?_ | refine And.intro (vp_lit (by decide)) ?_ | refine And.intro (vp_in_nI (by omega) (by decide)) ?_ | ((first | change (_ → _) ∧ (_ → _) | change vp_in _ _ ∧ _ | change ¬ _ ∧ _); simp (disch := omega) only [nI_clamp, nI_leI, nI_ltI, nI_eq, nI_1, nI_add, nI_not_neg, nI_is_pos, nI_m1, nI_z]))
    try change _ ∧ _
    try first | exact ⟨rfl, rfl⟩ | exact ⟨Or.inr rfl, rfl, rfl⟩ | exact ⟨Or.inl rfl, rfl, rfl⟩ | exact ⟨trivial, trivial⟩ | exact ⟨rfl, trivial⟩ | exact ⟨Or.inr rfl, rfl, trivial⟩ | exact ⟨Or.inl rfl, rfl, trivial⟩
  · refine Cl.of (g_MPn R o hx) (by decide) ?_
    repeat (first | (refine W1 rfl ?_; try refine Wp.norm (L' := [_, _, _]) rfl ?_) | refine brT (by first | decide | omega) ?_ | refine brF (by first | decide | omega) ?_ | refine brTn (by first | decide | omega) ?_ | refine brFn (by first | decide | omega) ?_ | refine And.intro (vp_lit (by decide)) ?_ | refine And.intro (vp_in_nI (by omega) (by decide)) ?_ | ((first | change (_ → _) ∧ (_ → _) | change vp_in _ _ ∧ _ | change ¬ _ ∧ _); simp (disch := omega) only [nI_clamp, nI_leI, nI_ltI, nI_eq, nI_1, nI_add, nI_not_neg, nI_is_pos, nI_m1, nI_z]))
    try change _ ∧ _
    try first | exact ⟨rfl, rfl⟩ | exact ⟨Or.inr rfl, rfl, rfl⟩ | exact ⟨Or.inl rfl, rfl, rfl⟩ | exact ⟨trivial, trivial⟩ | exact ⟨rfl, trivial⟩ | exact ⟨Or.inr rfl, rfl, trivial⟩ | exact ⟨Or.inl rfl, rfl, trivial⟩
theorem o_gap : op_10 Inv := fun x y => op_roL fun _ _ R M o _ => by
  rcases ix_cases x (n := zP _) (Nat.lt_of_le_of_lt o.P (by decide)) with ⟨p, hp, rfl⟩ | hx
  · rcases k_cases o y with ⟨k, hk, rfl⟩ | hy
    · exact ⟨_, (r_E_gap R o hk hp).d, (r_M_gap M o hk hp).d⟩
    · exact ⟨_, (r_E_gapN R o (Or.inr hy)).d, (r_M_gapN M o (Or.inr hy)).d⟩
  · exact ⟨_, (r_E_gapN R o (Or.inl hx)).d, (r_M_gapN M o (Or.inl hx)).d⟩
/-! worst: the gap, its kind, its person -/
abbrev W3 : Type := Int64 × Int32 × Int32
def wsp (s : ST) (c : RT) (k : Nat) (a : W3) : Nat → W3
  | 0 => a
  | p + 1 => if (wsp s c k a p).1 < gapV s c p (some k) then (gapV s c p (some k), nI k, nI p) else wsp s c k a p
def wsk (s : ST) (c : RT) : Nat → W3
  | 0 => (-1, -1, -1)
  | k + 1 => wsp s c k (wsk s c k) (zP s)
/-- how the class holds it -/
def wC49 (h : HP) (a : W3) : Prop := h.2 49 5 = a.1 ∧ (¬ a.1 = -1 → h.1 49 6 = a.2.1 ∧ h.1 49 7 = a.2.2)
theorem gap_ne (o : OK s) {p : Nat} (hp : p < zP s) : ¬ gapV s c p k = -1 := by
  intro z
  have := gapV_pos (c := c) (k := k) o hp
  rw [z] at this
  exact absurd this (by decide)
theorem lgc_eq (x y : Int64) : lg_cmp x y = 0 ↔ x = y := by
  unfold lg_cmp
  split
  · rename_i h
    refine ⟨fun z => absurd z (by decide), fun z => ?_⟩
    subst z
    have h : x < x := h
    rw [Int64.lt_iff_toInt_lt] at h
    omega
  · split
    · exact ⟨fun _ => by assumption, fun _ => rfl⟩
    · exact ⟨fun z => absurd z (by decide), fun z => absurd z (by assumption)⟩
theorem w_Levels_findWorst (R : RC s c v h) (o : OK s) {Q : QT} (KQ : ∀ h' x, Same h h' → (∀ k i, 65 ≤ k → h'.1 k i = h.1 k i) → wC49 h' (wsk s c (zK s)) → x = (if (wsk s c (zK s)).1 = -1 then (0 : Int32) else 1) → Q (some (.int x)) h') : Wp 3 j_Levels_findWorst 0 [.ref 49, .null, .null, .null, .null] [] h Q := by
  have hT := o.T; have hP := o.P; have hK := o.K; have hD := o.D; have hO := o.O; have hQ := o.Q; have hL := o.L
  have lp : ∀ i, i ≤ zK s → ∀ (h' : HP) (x2 x3 : Value), Same h h' → (∀ k i, 65 ≤ k → h'.1 k i = h.1 k i) → wC49 h' (wsk s c i) → Wp 3 j_Levels_findWorst 9 [.ref 49, .int (nI i), x2, x3, .null] [] h' Q := by
    refine up_ind ?_ (fun i hi ih => ?_)
    · intro h' x2 x3 S F W
      have R' := R.same S
      repeat (first | (refine W1 rfl ?_; try refine Wp.norm (L' := [_, _, _, _, _]) rfl ?_) | refine brT (by first | decide | omega) ?_ | refine brF (by first | decide | omega) ?_ | refine brTn (by first | decide | omega) ?_ | refine brFn (by first | decide | omega) ?_ | refine And.intro (vp_lit (by decide)) ?_ | refine And.intro (vp_in_nI (by omega) (by decide)) ?_ | ((first | change (_ → _) ∧ (_ → _) | change vp_in _ _ ∧ _ | change ¬ _ ∧ _); simp (disch := omega) only [nI_clamp, nI_leI, nI_ltI, nI_eq, nI_1, nI_add, nI_not_neg, nI_is_pos, nI_m1, nI_z, R'.K]))
      try change _ ∧ _
      rw [W.1, lgc_eq]
      refine ⟨fun hc => ?_, fun hc => ?_⟩
      · repeat (first | (refine W1 rfl ?_; try refine Wp.norm (L' := [_, _, _, _, _]) rfl ?_) | refine brT (by first | decide | omega) ?_ | refine brF (by first | decide | omega) ?_ | refine brTn (by first | decide | omega) ?_ | refine brFn (by first | decide | omega) ?_ | refine And.intro (vp_lit (by decide)) ?_ | refine And.intro (vp_in_nI (by omega) (by decide)) ?_ | ((first | change (_ → _) ∧ (_ → _) | change vp_in _ _ ∧ _ | change ¬ _ ∧ _); simp (disch := omega) only [nI_clamp, nI_leI, nI_ltI, nI_eq, nI_1, nI_add, nI_not_neg, nI_is_pos, nI_m1, nI_z]))
        try change _ ∧ _
        exact ⟨Or.inl rfl, KQ h' _ S F W (by rw [if_pos hc])⟩
      · repeat (first | (refine W1 rfl ?_; try refine Wp.norm (L' := [_, _, _, _, _]) rfl ?_) | refine brT (by first | decide | omega) ?_ | refine brF (by first | decide | omega) ?_ | refine brTn (by first | decide | omega) ?_ | refine brFn (by first | decide | omega) ?_ | refine And.intro (vp_lit (by decide)) ?_ | refine And.intro (vp_in_nI (by omega) (by decide)) ?_ | ((first | change (_ → _) ∧ (_ → _) | change vp_in _ _ ∧ _ | change ¬ _ ∧ _); simp (disch := omega) only [nI_clamp, nI_leI, nI_ltI, nI_eq, nI_1, nI_add, nI_not_neg, nI_is_pos, nI_m1, nI_z]))
        try change _ ∧ _
        exact ⟨Or.inr rfl, KQ h' _ S F W (by rw [if_neg hc])⟩
    · have inner : ∀ p, p ≤ zP s → ∀ (h' : HP) (x3 : Value), Same h h' → (∀ k i, 65 ≤ k → h'.1 k i = h.1 k i) → wC49 h' (wsp s c i (wsk s c i) p) → Wp 3 j_Levels_findWorst 22 [.ref 49, .int (nI i), .int (nI p), x3, .null] [] h' Q := by
        refine up_ind ?_ (fun p hp ih2 => ?_)
        · intro h' x3 S F W
          have R' := R.same S
          have ih := ih h' (.int (nI (zP s))) x3 S F W
          (refine W1 rfl ?_; try refine Wp.norm (L' := [_, _, _, _, _]) rfl ?_)
          repeat (first | refine Wp.at ih rfl rfl ?_ rfl | (refine W1 rfl ?_; try refine Wp.norm (L' := [_, _, _, _, _]) rfl ?_) | refine brT (by first | decide | omega) ?_ | refine brF (by first | decide | omega) ?_ | refine brTn (by first | decide | omega) ?_ | refine brFn (by first | decide | omega) ?_ | refine And.intro (vp_lit (by decide)) ?_ | refine And.intro (vp_in_nI (by omega) (by decide)) ?_ | ((first | change (_ → _) ∧ (_ → _) | change vp_in _ _ ∧ _ | change ¬ _ ∧ _); simp (disch := omega) only [nI_clamp, nI_leI, nI_ltI, nI_eq, nI_1, nI_add, nI_not_neg, nI_is_pos, nI_m1, nI_z, R'.P]))
          try change _ ∧ _
          first | rfl | (simp (disch := omega) only [nI_1, nI_add, nI_clamp] <;> first | done | rfl)
        · intro h' x3 S F W
          have R' := R.same S
          (refine W1 rfl ?_; try refine Wp.norm (L' := [_, _, _, _, _]) rfl ?_)
          repeat (first | (refine W1 rfl ?_; try refine Wp.norm (L' := [_, _, _, _, _]) rfl ?_) | refine brT (by first | decide | omega) ?_ | refine brF (by first | decide | omega) ?_ | refine brTn (by first | decide | omega) ?_ | refine brFn (by first | decide | omega) ?_ | refine And.intro (vp_lit (by decide)) ?_ | refine And.intro (vp_in_nI (by omega) (by decide)) ?_ | ((first | change (_ → _) ∧ (_ → _) | change vp_in _ _ ∧ _ | change ¬ _ ∧ _); simp (disch := omega) only [nI_clamp, nI_leI, nI_ltI, nI_eq, nI_1, nI_add, nI_not_neg, nI_is_pos, nI_m1, nI_z, R'.P]))
          try change _ ∧ _
          refine Cl.of (r_Levels_gapOf (k := some i) R' o (fun k' hk' => by cases hk'; exact hi) hp) (by decide) ?_
          repeat (first | (refine W1 rfl ?_; try refine Wp.norm (L' := [_, _, _, _, _]) rfl ?_) | refine brT (by first | decide | omega) ?_ | refine brF (by first | decide | omega) ?_ | refine brTn (by first | decide | omega) ?_ | refine brFn (by first | decide | omega) ?_ | refine And.intro (vp_lit (by decide)) ?_ | refine And.intro (vp_in_nI (by omega) (by decide)) ?_ | ((first | change (_ → _) ∧ (_ → _) | change vp_in _ _ ∧ _ | change ¬ _ ∧ _); simp (disch := omega) only [nI_clamp, nI_leI, nI_ltI, nI_eq, nI_1, nI_add, nI_not_neg, nI_is_pos, nI_m1, nI_z]))
          try change _ ∧ _
          rw [W.1, lgc_le]
          have e : wsp s c i (wsk s c i) (p + 1) = if (wsp s c i (wsk s c i) p).1 < gapV s c p (some i) then (gapV s c p (some i), nI i, nI p) else wsp s c i (wsk s c i) p := rfl
          refine ⟨fun hc => ?_, fun hc => ?_⟩
          · rw [if_neg (Int64.not_lt.mpr hc)] at e
            have ih := ih2 h' (.long (gapV s c p (some i))) S F (by rw [e]; exact W)
            repeat (first | refine Wp.at ih rfl rfl ?_ rfl | (refine W1 rfl ?_; try refine Wp.norm (L' := [_, _, _, _, _]) rfl ?_) | refine brT (by first | decide | omega) ?_ | refine brF (by first | decide | omega) ?_ | refine brTn (by first | decide | omega) ?_ | refine brFn (by first | decide | omega) ?_ | refine And.intro (vp_lit (by decide)) ?_ | refine And.intro (vp_in_nI (by omega) (by decide)) ?_ | ((first | change (_ → _) ∧ (_ → _) | change vp_in _ _ ∧ _ | change ¬ _ ∧ _); simp (disch := omega) only [nI_clamp, nI_leI, nI_ltI, nI_eq, nI_1, nI_add, nI_not_neg, nI_is_pos, nI_m1, nI_z]))
            try change _ ∧ _
            first | rfl | (simp (disch := omega) only [nI_1, nI_add, nI_clamp] <;> first | done | rfl)
          · rw [if_pos (Int64.not_le.mp hc)] at e
            have ih := ih2 (wI (wI (wJ h' 49 5 (gapV s c p (some i))) 49 6 (nI i)) 49 7 (nI p)) (.long (gapV s c p (some i))) (((S.addJ rfl).addI rfl).addI rfl) (fun k j hk => by rw [wI_ne _ _ _ (show k ≠ 49 by omega), wI_ne _ _ _ (show k ≠ 49 by omega), wJ_1]; exact F k j hk) (by
              rw [e]
              refine ⟨?_, fun _ => ⟨?_, wI_same _ _ _ _⟩⟩
              · rw [wI_2, wI_2, wJ_2, if_pos rfl]
                exact pk_uLs
              · rw [wI_ne2 _ _ (by decide)]
                exact wI_same _ _ _ _)
            repeat (first | refine Wp.at ih rfl rfl ?_ rfl | (refine W1 rfl ?_; try refine Wp.norm (L' := [_, _, _, _, _]) rfl ?_) | refine brT (by first | decide | omega) ?_ | refine brF (by first | decide | omega) ?_ | refine brTn (by first | decide | omega) ?_ | refine brFn (by first | decide | omega) ?_ | refine And.intro (vp_lit (by decide)) ?_ | refine And.intro (vp_in_nI (by omega) (by decide)) ?_ | ((first | change (_ → _) ∧ (_ → _) | change vp_in _ _ ∧ _ | change ¬ _ ∧ _); simp (disch := omega) only [nI_clamp, nI_leI, nI_ltI, nI_eq, nI_1, nI_add, nI_not_neg, nI_is_pos, nI_m1, nI_z]))
            try change _ ∧ _
            first | rfl | (simp (disch := omega) only [nI_1, nI_add, nI_clamp] <;> first | done | rfl)
      intro h' x2 x3 S F W
      have R' := R.same S
      have ih := inner 0 (Nat.zero_le _) h' x3 S F W
      (refine W1 rfl ?_; try refine Wp.norm (L' := [_, _, _, _, _]) rfl ?_)
      repeat (first | refine Wp.at ih rfl rfl ?_ rfl | (refine W1 rfl ?_; try refine Wp.norm (L' := [_, _, _, _, _]) rfl ?_) | refine brT (by first | decide | omega) ?_ | refine brF (by first | decide | omega) ?_ | refine brTn (by first | decide | omega) ?_ | refine brFn (by first | decide | omega) ?_ | refine And.intro (vp_lit (by decide)) ?_ | refine And.intro (vp_in_nI (by omega) (by decide)) ?_ | ((first | change (_ → _) ∧ (_ → _) | change vp_in _ _ ∧ _ | change ¬ _ ∧ _); simp (disch := omega) only [nI_clamp, nI_leI, nI_ltI, nI_eq, nI_1, nI_add, nI_not_neg, nI_is_pos, nI_m1, nI_z, R'.K]))
      try change _ ∧ _
      first | rfl | (simp (disch := omega) only [nI_1, nI_add, nI_clamp] <;> first | done | rfl)
  have ih := lp 0 (Nat.zero_le _) (wJ h 49 5 (-1)) .null .null ((Same.rfl h).addJ rfl) (fun _ _ _ => rfl) ⟨by rw [wJ_2, if_pos rfl]; exact pk_uLs, fun z => absurd rfl z⟩
  repeat (first | refine Wp.at ih rfl rfl ?_ rfl | (refine W1 rfl ?_; try refine Wp.norm (L' := [_, _, _, _, _]) rfl ?_) | refine brT (by first | decide | omega) ?_ | refine brF (by first | decide | omega) ?_ | refine brTn (by first | decide | omega) ?_ | refine brFn (by first | decide | omega) ?_ | refine And.intro (vp_lit (by decide)) ?_ | refine And.intro (vp_in_nI (by omega) (by decide)) ?_ | ((first | change (_ → _) ∧ (_ → _) | change vp_in _ _ ∧ _ | change ¬ _ ∧ _); simp (disch := omega) only [nI_clamp, nI_leI, nI_ltI, nI_eq, nI_1, nI_add, nI_not_neg, nI_is_pos, nI_m1, nI_z]))
  try change _ ∧ _
  first | rfl | (simp (disch := omega) only [nI_1, nI_add, nI_clamp] <;> first | done | rfl)
theorem wsk_pos (o : OK s) : ∀ k, 0 < k → k ≤ zK s → 0 < zP s → ¬ (wsk s c k).1 = -1 := by
  have h1 : ∀ k a p, 0 < p → p ≤ zP s → (a.1 = -1 ∨ 0 ≤ a.1.toInt) → 0 ≤ (wsp s c k a p).1.toInt := by
    intro k a p
    induction p with
    | zero => intro h _ _; omega
    | succ p ih =>
      intro _ hp ha
      have hg := gapV_pos (c := c) (k := some k) o (show p < zP s by omega)
      unfold wsp
      split
      · exact hg
      · rename_i hlt
        by_cases h0 : 0 < p
        · exact ih h0 (by omega) ha
        · obtain rfl : p = 0 := by omega
          have hlt : ¬ a.1 < gapV s c 0 (some k) := hlt
          rcases ha with e | e
          · exfalso
            apply hlt
            rw [e, Int64.lt_iff_toInt_lt, show (-1 : Int64).toInt = -1 from rfl]
            omega
          · exact e
  have h2 : ∀ k, k ≤ zK s → 0 < zP s → ((wsk s c k).1 = -1 ∧ k = 0) ∨ 0 ≤ (wsk s c k).1.toInt := by
    intro k
    induction k with
    | zero => intro _ _; exact Or.inl ⟨rfl, rfl⟩
    | succ k ih =>
      intro hk hP
      refine Or.inr (h1 k _ (zP s) hP (Nat.le_refl _) ?_)
      rcases ih (by omega) hP with e | e
      · exact Or.inl e.1
      · exact Or.inr e
  intro k h0 hk hP z
  rcases h2 k hk hP with e | e
  · omega
  · rw [z] at e
    exact absurd e (by decide)
theorem wsk_none (h0 : zP s = 0) : ∀ k, (wsk s c k).1 = -1
  | 0 => rfl
  | k + 1 => by
    have := wsk_none h0 k
    unfold wsk
    rw [h0]
    exact this
/-- what worst answers -/
def worstA (s : ST) (c : RT) (x : Int32) : Int64 := if zP s = 0 ∨ zK s = 0 then -1 else if x = 0 then (wsk s c (zK s)).1 else if x = 1 then (wsk s c (zK s)).2.1.toInt64 else if x = 2 then (wsk s c (zK s)).2.2.toInt64 else -1
theorem w_E_worst (R : RC s c v h) (o : OK s) (x : Int32) : ∃ w h', Run 4 j_E_worst [.ref 0, .int x] h w h' ∧ (w = some (.long (worstA s c x)) ∧ Same h h' ∧ (∀ k i, 65 ≤ k → h'.1 k i = h.1 k i)) := by
  have hT := o.T; have hP := o.P; have hK := o.K; have hD := o.D; have hO := o.O; have hQ := o.Q; have hL := o.L
  refine Run.ofP rfl ?_
  refine Wp.norm (L' := [_, _]) rfl ?_
  have low : (x < 0 ∨ 2 < x) → ¬ x = 0 ∧ ¬ x = 1 ∧ ¬ x = 2 := by
    intro hx
    refine ⟨?_, ?_, ?_⟩ <;> (rintro rfl; revert hx; decide)
  have bad : (x < 0 ∨ 2 < x) → worstA s c x = -1 := by
    intro hx
    have := low hx
    unfold worstA
    rw [if_neg this.1, if_neg this.2.1, if_neg this.2.2]
    split <;> rfl
  repeat (first | (refine W1 rfl ?_; try refine Wp.norm (L' := [_, _]) rfl ?_) | refine brT (by first | decide | omega) ?_ | refine brF (by first | decide | omega) ?_ | refine brTn (by first | decide | omega) ?_ | refine brFn (by first | decide | omega) ?_ | refine And.intro (vp_lit (by decide)) ?_ | refine And.intro (vp_in_nI (by omega) (by decide)) ?_ | ((first | change (_ → _) ∧ (_ → _) | change vp_in _ _ ∧ _ | change ¬ _ ∧ _); simp (disch := omega) only [nI_clamp, nI_leI, nI_ltI, nI_eq, nI_1, nI_add, nI_not_neg, nI_is_pos, nI_m1, nI_z]))
  try change _ ∧ _
  refine ⟨fun hx => ?_, fun hx => ?_⟩
  · repeat (first | (refine W1 rfl ?_; try refine Wp.norm (L' := [_, _]) rfl ?_) | refine brT (by first | decide | omega) ?_ | refine brF (by first | decide | omega) ?_ | refine brTn (by first | decide | omega) ?_ | refine brFn (by first | decide | omega) ?_ | refine And.intro (vp_lit (by decide)) ?_ | refine And.intro (vp_in_nI (by omega) (by decide)) ?_ | ((first | change (_ → _) ∧ (_ → _) | change vp_in _ _ ∧ _ | change ¬ _ ∧ _); simp (disch := omega) only [nI_clamp, nI_leI, nI_ltI, nI_eq, nI_1, nI_add, nI_not_neg, nI_is_pos, nI_m1, nI_z]))
    try change _ ∧ _
    exact ⟨by rw [bad (Or.inl hx)], Same.rfl h, fun _ _ _ => rfl⟩
  · repeat (first | (refine W1 rfl ?_; try refine Wp.norm (L' := [_, _]) rfl ?_) | refine brT (by first | decide | omega) ?_ | refine brF (by first | decide | omega) ?_ | refine brTn (by first | decide | omega) ?_ | refine brFn (by first | decide | omega) ?_ | refine And.intro (vp_lit (by decide)) ?_ | refine And.intro (vp_in_nI (by omega) (by decide)) ?_ | ((first | change (_ → _) ∧ (_ → _) | change vp_in _ _ ∧ _ | change ¬ _ ∧ _); simp (disch := omega) only [nI_clamp, nI_leI, nI_ltI, nI_eq, nI_1, nI_add, nI_not_neg, nI_is_pos, nI_m1, nI_z]))
    try change _ ∧ _
    refine ⟨fun hx2 => ?_, fun hx2 => ?_⟩
    · repeat (first | (refine W1 rfl ?_; try refine Wp.norm (L' := [_, _]) rfl ?_) | refine brT (by first | decide | omega) ?_ | refine brF (by first | decide | omega) ?_ | refine brTn (by first | decide | omega) ?_ | refine brFn (by first | decide | omega) ?_ | refine And.intro (vp_lit (by decide)) ?_ | refine And.intro (vp_in_nI (by omega) (by decide)) ?_ | ((first | change (_ → _) ∧ (_ → _) | change vp_in _ _ ∧ _ | change ¬ _ ∧ _); simp (disch := omega) only [nI_clamp, nI_leI, nI_ltI, nI_eq, nI_1, nI_add, nI_not_neg, nI_is_pos, nI_m1, nI_z]))
      try change _ ∧ _
      exact ⟨by rw [bad (Or.inr hx2)], Same.rfl h, fun _ _ _ => rfl⟩
    · repeat (first | (refine W1 rfl ?_; try refine Wp.norm (L' := [_, _]) rfl ?_) | refine brT (by first | decide | omega) ?_ | refine brF (by first | decide | omega) ?_ | refine brTn (by first | decide | omega) ?_ | refine brFn (by first | decide | omega) ?_ | refine And.intro (vp_lit (by decide)) ?_ | refine And.intro (vp_in_nI (by omega) (by decide)) ?_ | ((first | change (_ → _) ∧ (_ → _) | change vp_in _ _ ∧ _ | change ¬ _ ∧ _); simp (disch := omega) only [nI_clamp, nI_leI, nI_ltI, nI_eq, nI_1, nI_add, nI_not_neg, nI_is_pos, nI_m1, nI_z]))
      try change _ ∧ _
      obtain ⟨w, h', hr, hw⟩ := Run.ofP (d := 3) (as := [.ref 49]) (P := fun w h' => ∃ y, w = some (.int y) ∧ Same h h' ∧ (∀ k i, 65 ≤ k → h'.1 k i = h.1 k i) ∧ wC49 h' (wsk s c (zK s)) ∧ y = (if (wsk s c (zK s)).1 = -1 then (0 : Int32) else 1)) rfl (w_Levels_findWorst R o (fun h' x a b c d => ⟨x, rfl, a, b, c, d⟩))
      obtain ⟨y, rfl, S, F, W, rfl⟩ := hw
      refine Cl.of hr (by decide) ?_
      have hx3 : ∀ j : Nat, x = nI j → j < 3 → True := fun _ _ _ => trivial
      by_cases hn : (wsk s c (zK s)).1 = -1
      · rw [if_pos hn]
        have hz : zP s = 0 ∨ zK s = 0 := by
          rcases Nat.eq_zero_or_pos (zP s) with e | e
          · exact Or.inl e
          · rcases Nat.eq_zero_or_pos (zK s) with e2 | e2
            · exact Or.inr e2
            · exact absurd hn (wsk_pos o (zK s) e2 (Nat.le_refl _) e)
        repeat (first | (refine W1 rfl ?_; try refine Wp.norm (L' := [_, _]) rfl ?_) | refine brT (by first | decide | omega) ?_ | refine brF (by first | decide | omega) ?_ | refine brTn (by first | decide | omega) ?_ | refine brFn (by first | decide | omega) ?_ | refine And.intro (vp_lit (by decide)) ?_ | refine And.intro (vp_in_nI (by omega) (by decide)) ?_ | ((first | change (_ → _) ∧ (_ → _) | change vp_in _ _ ∧ _ | change ¬ _ ∧ _); simp (disch := omega) only [nI_clamp, nI_leI, nI_ltI, nI_eq, nI_1, nI_add, nI_not_neg, nI_is_pos, nI_m1, nI_z]))
        try change _ ∧ _
        refine ⟨?_, S, F⟩
        unfold worstA
        rw [if_pos hz]
      · rw [if_neg hn]
        have hz : ¬ (zP s = 0 ∨ zK s = 0) := by
          rintro (e | e)
          · exact hn (wsk_none e _)
          · exact hn (by rw [e]; rfl)
        unfold worstA
        rw [if_neg hz]
        repeat (first | (refine W1 rfl ?_; try refine Wp.norm (L' := [_, _]) rfl ?_) | refine brT (by first | decide | omega) ?_ | refine brF (by first | decide | omega) ?_ | refine brTn (by first | decide | omega) ?_ | refine brFn (by first | decide | omega) ?_ | refine And.intro (vp_lit (by decide)) ?_ | refine And.intro (vp_in_nI (by omega) (by decide)) ?_ | ((first | change (_ → _) ∧ (_ → _) | change vp_in _ _ ∧ _ | change ¬ _ ∧ _); simp (disch := omega) only [nI_clamp, nI_leI, nI_ltI, nI_eq, nI_1, nI_add, nI_not_neg, nI_is_pos, nI_m1, nI_z]))
        try change _ ∧ _
        refine ⟨fun h0 => ?_, fun h0 => ?_⟩
        · repeat (first | (refine W1 rfl ?_; try refine Wp.norm (L' := [_, _]) rfl ?_) | refine brT (by first | decide | omega) ?_ | refine brF (by first | decide | omega) ?_ | refine brTn (by first | decide | omega) ?_ | refine brFn (by first | decide | omega) ?_ | refine And.intro (vp_lit (by decide)) ?_ | refine And.intro (vp_in_nI (by omega) (by decide)) ?_ | ((first | change (_ → _) ∧ (_ → _) | change vp_in _ _ ∧ _ | change ¬ _ ∧ _); simp (disch := omega) only [nI_clamp, nI_leI, nI_ltI, nI_eq, nI_1, nI_add, nI_not_neg, nI_is_pos, nI_m1, nI_z]))
          try change _ ∧ _
          refine ⟨fun h1 => ?_, fun h1 => ?_⟩
          · repeat (first | (refine W1 rfl ?_; try refine Wp.norm (L' := [_, _]) rfl ?_) | refine brT (by first | decide | omega) ?_ | refine brF (by first | decide | omega) ?_ | refine brTn (by first | decide | omega) ?_ | refine brFn (by first | decide | omega) ?_ | refine And.intro (vp_lit (by decide)) ?_ | refine And.intro (vp_in_nI (by omega) (by decide)) ?_ | ((first | change (_ → _) ∧ (_ → _) | change vp_in _ _ ∧ _ | change ¬ _ ∧ _); simp (disch := omega) only [nI_clamp, nI_leI, nI_ltI, nI_eq, nI_1, nI_add, nI_not_neg, nI_is_pos, nI_m1, nI_z]))
            try change _ ∧ _
            have h2 : x = 2 := by
              rw [← Int32.toInt_inj] at h0 h1 ⊢
              rw [Int32.lt_iff_toInt_lt] at hx hx2
              simp only [Int32.toInt_zero, i32_lits] at *
              omega
            refine ⟨?_, S, F⟩
            rw [if_neg h0, if_neg h1, if_pos h2, (W.2 hn).2]
          · repeat (first | (refine W1 rfl ?_; try refine Wp.norm (L' := [_, _]) rfl ?_) | refine brT (by first | decide | omega) ?_ | refine brF (by first | decide | omega) ?_ | refine brTn (by first | decide | omega) ?_ | refine brFn (by first | decide | omega) ?_ | refine And.intro (vp_lit (by decide)) ?_ | refine And.intro (vp_in_nI (by omega) (by decide)) ?_ | ((first | change (_ → _) ∧ (_ → _) | change vp_in _ _ ∧ _ | change ¬ _ ∧ _); simp (disch := omega) only [nI_clamp, nI_leI, nI_ltI, nI_eq, nI_1, nI_add, nI_not_neg, nI_is_pos, nI_m1, nI_z]))
            try change _ ∧ _
            refine ⟨?_, S, F⟩
            rw [if_neg h0, if_pos h1, (W.2 hn).1]
        · repeat (first | (refine W1 rfl ?_; try refine Wp.norm (L' := [_, _]) rfl ?_) | refine brT (by first | decide | omega) ?_ | refine brF (by first | decide | omega) ?_ | refine brTn (by first | decide | omega) ?_ | refine brFn (by first | decide | omega) ?_ | refine And.intro (vp_lit (by decide)) ?_ | refine And.intro (vp_in_nI (by omega) (by decide)) ?_ | ((first | change (_ → _) ∧ (_ → _) | change vp_in _ _ ∧ _ | change ¬ _ ∧ _); simp (disch := omega) only [nI_clamp, nI_leI, nI_ltI, nI_eq, nI_1, nI_add, nI_not_neg, nI_is_pos, nI_m1, nI_z]))
          try change _ ∧ _
          refine ⟨?_, S, F⟩
          rw [if_pos h0, W.1]
/-- how the model holds it -/
def wM65 (h : HP) (a : W3) : Prop := ¬ a.1 = -1 → h.1 65 62 = a.2.1 ∧ h.1 65 63 = a.2.2
theorem w_M_worstGap (R : RM s c v h) (o : OK s) {Q : QT} (KQ : ∀ h', Same h h' → (∀ k i, k < 65 → h'.1 k i = h.1 k i) → (∀ k i, 65 < k → h'.1 k i = h.1 k i) → wM65 h' (wsk s c (zK s)) → Q (some (.long (wsk s c (zK s)).1)) h') : Wp 4 j_M_worstGap 0 [.ref 65, .null, .null, .null, .null, .null, .null] [] h Q := by
  have hT := o.T; have hP := o.P; have hK := o.K; have hD := o.D; have hO := o.O; have hQ := o.Q; have hL := o.L
  have lp : ∀ i, i ≤ zK s → ∀ (h' : HP) (x2 x3 : Value), Same h h' → (∀ k i, k < 65 → h'.1 k i = h.1 k i) → (∀ k i, 65 < k → h'.1 k i = h.1 k i) → wM65 h' (wsk s c i) → Wp 4 j_M_worstGap 6 [.ref 65, .long (wsk s c i).1, .null, .int (nI i), x2, x3, .null] [] h' Q := by
    refine up_ind ?_ (fun i hi ih => ?_)
    · intro h' x2 x3 S F G W
      have R' := R.same S
      repeat (first | (refine W1 rfl ?_; try refine Wp.norm (L' := [_, _, _, _, _, _, _]) rfl ?_) | refine brT (by first | decide | omega) ?_ | refine brF (by first | decide | omega) ?_ | refine brTn (by first | decide | omega) ?_ | refine brFn (by first | decide | omega) ?_ | refine And.intro (vp_lit (by decide)) ?_ | refine And.intro (vp_in_nI (by omega) (by decide)) ?_ | ((first | change (_ → _) ∧ (_ → _) | change vp_in _ _ ∧ _ | change ¬ _ ∧ _); simp (disch := omega) only [nI_clamp, nI_leI, nI_ltI, nI_eq, nI_1, nI_add, nI_not_neg, nI_is_pos, nI_m1, nI_z, show Int32.toNatClampNeg 1 = 1 from rfl, R'.K]))
      try change _ ∧ _
      exact KQ h' S F G W
    · have inner : ∀ p, p ≤ zP s → ∀ (h' : HP) (x3 : Value), Same h h' → (∀ k i, k < 65 → h'.1 k i = h.1 k i) → (∀ k i, 65 < k → h'.1 k i = h.1 k i) → wM65 h' (wsp s c i (wsk s c i) p) → Wp 4 j_M_worstGap 19 [.ref 65, .long (wsp s c i (wsk s c i) p).1, .null, .int (nI i), .int (nI p), x3, .null] [] h' Q := by
        refine up_ind ?_ (fun p hp ih2 => ?_)
        · intro h' x3 S F G W
          have R' := R.same S
          have ih := ih h' (.int (nI (zP s))) x3 S F G W
          (refine W1 rfl ?_; try refine Wp.norm (L' := [_, _, _, _, _, _, _]) rfl ?_)
          repeat (first | refine Wp.at ih rfl rfl ?_ rfl | (refine W1 rfl ?_; try refine Wp.norm (L' := [_, _, _, _, _, _, _]) rfl ?_) | refine brT (by first | decide | omega) ?_ | refine brF (by first | decide | omega) ?_ | refine brTn (by first | decide | omega) ?_ | refine brFn (by first | decide | omega) ?_ | refine And.intro (vp_lit (by decide)) ?_ | refine And.intro (vp_in_nI (by omega) (by decide)) ?_ | ((first | change (_ → _) ∧ (_ → _) | change vp_in _ _ ∧ _ | change ¬ _ ∧ _); simp (disch := omega) only [nI_clamp, nI_leI, nI_ltI, nI_eq, nI_1, nI_add, nI_not_neg, nI_is_pos, nI_m1, nI_z, show Int32.toNatClampNeg 1 = 1 from rfl, R'.P]))
          try change _ ∧ _
          first | rfl | (simp (disch := omega) only [nI_1, nI_add, nI_clamp] <;> first | done | rfl)
        · intro h' x3 S F G W
          have R' := R.same S
          (refine W1 rfl ?_; try refine Wp.norm (L' := [_, _, _, _, _, _, _]) rfl ?_)
          repeat (first | (refine W1 rfl ?_; try refine Wp.norm (L' := [_, _, _, _, _, _, _]) rfl ?_) | refine brT (by first | decide | omega) ?_ | refine brF (by first | decide | omega) ?_ | refine brTn (by first | decide | omega) ?_ | refine brFn (by first | decide | omega) ?_ | refine And.intro (vp_lit (by decide)) ?_ | refine And.intro (vp_in_nI (by omega) (by decide)) ?_ | ((first | change (_ → _) ∧ (_ → _) | change vp_in _ _ ∧ _ | change ¬ _ ∧ _); simp (disch := omega) only [nI_clamp, nI_leI, nI_ltI, nI_eq, nI_1, nI_add, nI_not_neg, nI_is_pos, nI_m1, nI_z, show Int32.toNatClampNeg 1 = 1 from rfl, R'.P]))
          try change _ ∧ _
          refine Cl.of (r_M_gapOf (k := some i) R' o (fun k' hk' => by cases hk'; exact hi) hp) (by decide) ?_
          repeat (first | (refine W1 rfl ?_; try refine Wp.norm (L' := [_, _, _, _, _, _, _]) rfl ?_) | refine brT (by first | decide | omega) ?_ | refine brF (by first | decide | omega) ?_ | refine brTn (by first | decide | omega) ?_ | refine brFn (by first | decide | omega) ?_ | refine And.intro (vp_lit (by decide)) ?_ | refine And.intro (vp_in_nI (by omega) (by decide)) ?_ | ((first | change (_ → _) ∧ (_ → _) | change vp_in _ _ ∧ _ | change ¬ _ ∧ _); simp (disch := omega) only [nI_clamp, nI_leI, nI_ltI, nI_eq, nI_1, nI_add, nI_not_neg, nI_is_pos, nI_m1, nI_z]))
          try change _ ∧ _
          rw [lgc_gt]
          have e : wsp s c i (wsk s c i) (p + 1) = if (wsp s c i (wsk s c i) p).1 < gapV s c p (some i) then (gapV s c p (some i), nI i, nI p) else wsp s c i (wsk s c i) p := rfl
          refine ⟨fun hc => ?_, fun hc => ?_⟩
          · rw [if_pos hc] at e
            have ih := ih2 (wI (wI h' 65 62 (nI i)) 65 63 (nI p)) (.long (gapV s c p (some i))) ((S.addI rfl).addI rfl) (fun k j hk => by rw [wI_ne _ _ _ (show k ≠ 65 by omega), wI_ne _ _ _ (show k ≠ 65 by omega)]; exact F k j hk) (fun k j hk => by rw [wI_ne _ _ _ (show k ≠ 65 by omega), wI_ne _ _ _ (show k ≠ 65 by omega)]; exact G k j hk) (by
              rw [e]
              refine fun _ => ⟨?_, wI_same _ _ _ _⟩
              rw [wI_ne2 _ _ (by decide)]
              exact wI_same _ _ _ _)
            rw [e] at ih
            repeat (first | refine Wp.at ih rfl rfl ?_ rfl | (refine W1 rfl ?_; try refine Wp.norm (L' := [_, _, _, _, _, _, _]) rfl ?_) | refine brT (by first | decide | omega) ?_ | refine brF (by first | decide | omega) ?_ | refine brTn (by first | decide | omega) ?_ | refine brFn (by first | decide | omega) ?_ | refine And.intro (vp_lit (by decide)) ?_ | refine And.intro (vp_in_nI (by omega) (by decide)) ?_ | ((first | change (_ → _) ∧ (_ → _) | change vp_in _ _ ∧ _ | change ¬ _ ∧ _); simp (disch := omega) only [nI_clamp, nI_leI, nI_ltI, nI_eq, nI_1, nI_add, nI_not_neg, nI_is_pos, nI_m1, nI_z]))
            try change _ ∧ _
            first | rfl | (simp (disch := omega) only [nI_1, nI_add, nI_clamp] <;> first | done | rfl)
          · rw [if_neg hc] at e
            have ih := ih2 h' (.long (gapV s c p (some i))) S F G (by rw [e]; exact W)
            rw [e] at ih
            repeat (first | refine Wp.at ih rfl rfl ?_ rfl | (refine W1 rfl ?_; try refine Wp.norm (L' := [_, _, _, _, _, _, _]) rfl ?_) | refine brT (by first | decide | omega) ?_ | refine brF (by first | decide | omega) ?_ | refine brTn (by first | decide | omega) ?_ | refine brFn (by first | decide | omega) ?_ | refine And.intro (vp_lit (by decide)) ?_ | refine And.intro (vp_in_nI (by omega) (by decide)) ?_ | ((first | change (_ → _) ∧ (_ → _) | change vp_in _ _ ∧ _ | change ¬ _ ∧ _); simp (disch := omega) only [nI_clamp, nI_leI, nI_ltI, nI_eq, nI_1, nI_add, nI_not_neg, nI_is_pos, nI_m1, nI_z]))
            try change _ ∧ _
            first | rfl | (simp (disch := omega) only [nI_1, nI_add, nI_clamp] <;> first | done | rfl)
      intro h' x2 x3 S F G W
      have R' := R.same S
      have ih := inner 0 (Nat.zero_le _) h' x3 S F G W
      (refine W1 rfl ?_; try refine Wp.norm (L' := [_, _, _, _, _, _, _]) rfl ?_)
      repeat (first | refine Wp.at ih rfl rfl ?_ rfl | (refine W1 rfl ?_; try refine Wp.norm (L' := [_, _, _, _, _, _, _]) rfl ?_) | refine brT (by first | decide | omega) ?_ | refine brF (by first | decide | omega) ?_ | refine brTn (by first | decide | omega) ?_ | refine brFn (by first | decide | omega) ?_ | refine And.intro (vp_lit (by decide)) ?_ | refine And.intro (vp_in_nI (by omega) (by decide)) ?_ | ((first | change (_ → _) ∧ (_ → _) | change vp_in _ _ ∧ _ | change ¬ _ ∧ _); simp (disch := omega) only [nI_clamp, nI_leI, nI_ltI, nI_eq, nI_1, nI_add, nI_not_neg, nI_is_pos, nI_m1, nI_z, show Int32.toNatClampNeg 1 = 1 from rfl, R'.K]))
      try change _ ∧ _
      first | rfl | (simp (disch := omega) only [nI_1, nI_add, nI_clamp] <;> first | done | rfl)
  have ih := lp 0 (Nat.zero_le _) h .null .null (Same.rfl h) (fun _ _ _ => rfl) (fun _ _ _ => rfl) (fun z => absurd rfl z)
  repeat (first | refine Wp.at ih rfl rfl ?_ rfl | (refine W1 rfl ?_; try refine Wp.norm (L' := [_, _, _, _, _, _, _]) rfl ?_) | refine brT (by first | decide | omega) ?_ | refine brF (by first | decide | omega) ?_ | refine brTn (by first | decide | omega) ?_ | refine brFn (by first | decide | omega) ?_ | refine And.intro (vp_lit (by decide)) ?_ | refine And.intro (vp_in_nI (by omega) (by decide)) ?_ | ((first | change (_ → _) ∧ (_ → _) | change vp_in _ _ ∧ _ | change ¬ _ ∧ _); simp (disch := omega) only [nI_clamp, nI_leI, nI_ltI, nI_eq, nI_1, nI_add, nI_not_neg, nI_is_pos, nI_m1, nI_z]))
  try change _ ∧ _
  first | rfl | (simp (disch := omega) only [nI_1, nI_add, nI_clamp] <;> first | done | rfl)
theorem r_M_worstGap (R : RM s c v h) (o : OK s) : ∃ h', Run 4 j_M_worstGap [.ref 65] h (some (.long (wsk s c (zK s)).1)) h' ∧ Same h h' ∧ (∀ k i, k < 65 → h'.1 k i = h.1 k i) ∧ (∀ k i, 65 < k → h'.1 k i = h.1 k i) ∧ wM65 h' (wsk s c (zK s)) := by
  obtain ⟨w, h', hr, hw, h1, h2⟩ := Run.ofP (d := 4) (as := [.ref 65]) (P := fun w h' => w = some (.long (wsk s c (zK s)).1) ∧ Same h h' ∧ (∀ k i, k < 65 → h'.1 k i = h.1 k i) ∧ (∀ k i, 65 < k → h'.1 k i = h.1 k i) ∧ wM65 h' (wsk s c (zK s))) rfl (w_M_worstGap R o (fun h' a b c d => ⟨rfl, a, b, c, d⟩))
  subst hw
  exact ⟨h', hr, h1, h2⟩
theorem w_M_worst (R : RM s c v h) (o : OK s) (x : Int32) : ∃ w h', Run 5 j_M_worst [.ref 65, .int x] h w h' ∧ (w = some (.long (worstA s c x)) ∧ Same h h') := by
  have hT := o.T; have hP := o.P; have hK := o.K; have hD := o.D; have hO := o.O; have hQ := o.Q; have hL := o.L
  refine Run.ofP rfl ?_
  refine Wp.norm (L' := [_, _, _, _]) rfl ?_
  repeat (first | (refine W1 rfl ?_; try refine Wp.norm (L' := [_, _, _, _]) rfl ?_) | refine brT (by first | decide | omega) ?_ | refine brF (by first | decide | omega) ?_ | refine brTn (by first | decide | omega) ?_ | refine brFn (by first | decide | omega) ?_ | refine And.intro (vp_lit (by decide)) ?_ | refine And.intro (vp_in_nI (by omega) (by decide)) ?_ | ((first | change (_ → _) ∧ (_ → _) | change vp_in _ _ ∧ _ | change ¬ _ ∧ _); simp (disch := omega) only [nI_clamp, nI_leI, nI_ltI, nI_eq, nI_1, nI_add, nI_not_neg, nI_is_pos, nI_m1, nI_z, show Int32.toNatClampNeg 1 = 1 from rfl, R.P]))
  try change _ ∧ _
  refine ⟨fun hx => ?_, fun hx => ?_⟩
  · repeat (first | (refine W1 rfl ?_; try refine Wp.norm (L' := [_, _, _, _]) rfl ?_) | refine brT (by first | decide | omega) ?_ | refine brF (by first | decide | omega) ?_ | refine brTn (by first | decide | omega) ?_ | refine brFn (by first | decide | omega) ?_ | refine And.intro (vp_lit (by decide)) ?_ | refine And.intro (vp_in_nI (by omega) (by decide)) ?_ | ((first | change (_ → _) ∧ (_ → _) | change vp_in _ _ ∧ _ | change ¬ _ ∧ _); simp (disch := omega) only [nI_clamp, nI_leI, nI_ltI, nI_eq, nI_1, nI_add, nI_not_neg, nI_is_pos, nI_m1, nI_z]))
    try change _ ∧ _
    refine ⟨?_, Same.rfl h⟩
    unfold worstA
    rw [if_pos (Or.inl hx)]
  · repeat (first | (refine W1 rfl ?_; try refine Wp.norm (L' := [_, _, _, _]) rfl ?_) | refine brT (by first | decide | omega) ?_ | refine brF (by first | decide | omega) ?_ | refine brTn (by first | decide | omega) ?_ | refine brFn (by first | decide | omega) ?_ | refine And.intro (vp_lit (by decide)) ?_ | refine And.intro (vp_in_nI (by omega) (by decide)) ?_ | ((first | change (_ → _) ∧ (_ → _) | change vp_in _ _ ∧ _ | change ¬ _ ∧ _); simp (disch := omega) only [nI_clamp, nI_leI, nI_ltI, nI_eq, nI_1, nI_add, nI_not_neg, nI_is_pos, nI_m1, nI_z, show Int32.toNatClampNeg 1 = 1 from rfl, R.K]))
    try change _ ∧ _
    refine ⟨fun hx2 => ?_, fun hx2 => ?_⟩
    · repeat (first | (refine W1 rfl ?_; try refine Wp.norm (L' := [_, _, _, _]) rfl ?_) | refine brT (by first | decide | omega) ?_ | refine brF (by first | decide | omega) ?_ | refine brTn (by first | decide | omega) ?_ | refine brFn (by first | decide | omega) ?_ | refine And.intro (vp_lit (by decide)) ?_ | refine And.intro (vp_in_nI (by omega) (by decide)) ?_ | ((first | change (_ → _) ∧ (_ → _) | change vp_in _ _ ∧ _ | change ¬ _ ∧ _); simp (disch := omega) only [nI_clamp, nI_leI, nI_ltI, nI_eq, nI_1, nI_add, nI_not_neg, nI_is_pos, nI_m1, nI_z]))
      try change _ ∧ _
      obtain ⟨h', hr, S, _, _, W⟩ := r_M_worstGap R o
      have W := W (wsk_pos o (zK s) (by omega) (Nat.le_refl _) (by omega))
      refine Cl.of hr (by decide) ?_
      unfold worstA
      rw [if_neg (show ¬ (zP s = 0 ∨ zK s = 0) by omega)]
      repeat (first | (refine W1 rfl ?_; try refine Wp.norm (L' := [_, _, _, _]) rfl ?_) | refine brT (by first | decide | omega) ?_ | refine brF (by first | decide | omega) ?_ | refine brTn (by first | decide | omega) ?_ | refine brFn (by first | decide | omega) ?_ | refine And.intro (vp_lit (by decide)) ?_ | refine And.intro (vp_in_nI (by omega) (by decide)) ?_ | ((first | change (_ → _) ∧ (_ → _) | change vp_in _ _ ∧ _ | change ¬ _ ∧ _); simp (disch := omega) only [nI_clamp, nI_leI, nI_ltI, nI_eq, nI_1, nI_add, nI_not_neg, nI_is_pos, nI_m1, nI_z]))
      try change _ ∧ _
      refine ⟨fun h0 => ?_, fun h0 => ?_⟩
      · repeat (first | (refine W1 rfl ?_; try refine Wp.norm (L' := [_, _, _, _]) rfl ?_) | refine brT (by first | decide | omega) ?_ | refine brF (by first | decide | omega) ?_ | refine brTn (by first | decide | omega) ?_ | refine brFn (by first | decide | omega) ?_ | refine And.intro (vp_lit (by decide)) ?_ | refine And.intro (vp_in_nI (by omega) (by decide)) ?_ | ((first | change (_ → _) ∧ (_ → _) | change vp_in _ _ ∧ _ | change ¬ _ ∧ _); simp (disch := omega) only [nI_clamp, nI_leI, nI_ltI, nI_eq, nI_1, nI_add, nI_not_neg, nI_is_pos, nI_m1, nI_z]))
        try change _ ∧ _
        refine ⟨fun h1 => ?_, fun h1 => ?_⟩
        · repeat (first | (refine W1 rfl ?_; try refine Wp.norm (L' := [_, _, _, _]) rfl ?_) | refine brT (by first | decide | omega) ?_ | refine brF (by first | decide | omega) ?_ | refine brTn (by first | decide | omega) ?_ | refine brFn (by first | decide | omega) ?_ | refine And.intro (vp_lit (by decide)) ?_ | refine And.intro (vp_in_nI (by omega) (by decide)) ?_ | ((first | change (_ → _) ∧ (_ → _) | change vp_in _ _ ∧ _ | change ¬ _ ∧ _); simp (disch := omega) only [nI_clamp, nI_leI, nI_ltI, nI_eq, nI_1, nI_add, nI_not_neg, nI_is_pos, nI_m1, nI_z]))
          try change _ ∧ _
          refine ⟨fun h2 => ?_, fun h2 => ?_⟩
          · repeat (first | (refine W1 rfl ?_; try refine Wp.norm (L' := [_, _, _, _]) rfl ?_) | refine brT (by first | decide | omega) ?_ | refine brF (by first | decide | omega) ?_ | refine brTn (by first | decide | omega) ?_ | refine brFn (by first | decide | omega) ?_ | refine And.intro (vp_lit (by decide)) ?_ | refine And.intro (vp_in_nI (by omega) (by decide)) ?_ | ((first | change (_ → _) ∧ (_ → _) | change vp_in _ _ ∧ _ | change ¬ _ ∧ _); simp (disch := omega) only [nI_clamp, nI_leI, nI_ltI, nI_eq, nI_1, nI_add, nI_not_neg, nI_is_pos, nI_m1, nI_z]))
            try change _ ∧ _
            refine ⟨?_, S⟩
            rw [if_neg h0, if_neg h1, if_neg h2]
          · repeat (first | (refine W1 rfl ?_; try refine Wp.norm (L' := [_, _, _, _]) rfl ?_) | refine brT (by first | decide | omega) ?_ | refine brF (by first | decide | omega) ?_ | refine brTn (by first | decide | omega) ?_ | refine brFn (by first | decide | omega) ?_ | refine And.intro (vp_lit (by decide)) ?_ | refine And.intro (vp_in_nI (by omega) (by decide)) ?_ | ((first | change (_ → _) ∧ (_ → _) | change vp_in _ _ ∧ _ | change ¬ _ ∧ _); simp (disch := omega) only [nI_clamp, nI_leI, nI_ltI, nI_eq, nI_1, nI_add, nI_not_neg, nI_is_pos, nI_m1, nI_z]))
            try change _ ∧ _
            refine ⟨?_, S⟩
            rw [if_neg h0, if_neg h1, if_pos h2, W.2]
        · repeat (first | (refine W1 rfl ?_; try refine Wp.norm (L' := [_, _, _, _]) rfl ?_) | refine brT (by first | decide | omega) ?_ | refine brF (by first | decide | omega) ?_ | refine brTn (by first | decide | omega) ?_ | refine brFn (by first | decide | omega) ?_ | refine And.intro (vp_lit (by decide)) ?_ | refine And.intro (vp_in_nI (by omega) (by decide)) ?_ | ((first | change (_ → _) ∧ (_ → _) | change vp_in _ _ ∧ _ | change ¬ _ ∧ _); simp (disch := omega) only [nI_clamp, nI_leI, nI_ltI, nI_eq, nI_1, nI_add, nI_not_neg, nI_is_pos, nI_m1, nI_z]))
          try change _ ∧ _
          refine ⟨?_, S⟩
          rw [if_neg h0, if_pos h1, W.1]
      · repeat (first | (refine W1 rfl ?_; try refine Wp.norm (L' := [_, _, _, _]) rfl ?_) | refine brT (by first | decide | omega) ?_ | refine brF (by first | decide | omega) ?_ | refine brTn (by first | decide | omega) ?_ | refine brFn (by first | decide | omega) ?_ | refine And.intro (vp_lit (by decide)) ?_ | refine And.intro (vp_in_nI (by omega) (by decide)) ?_ | ((first | change (_ → _) ∧ (_ → _) | change vp_in _ _ ∧ _ | change ¬ _ ∧ _); simp (disch := omega) only [nI_clamp, nI_leI, nI_ltI, nI_eq, nI_1, nI_add, nI_not_neg, nI_is_pos, nI_m1, nI_z]))
        try change _ ∧ _
        refine ⟨?_, S⟩
        rw [if_pos h0]
    · repeat (first | (refine W1 rfl ?_; try refine Wp.norm (L' := [_, _, _, _]) rfl ?_) | refine brT (by first | decide | omega) ?_ | refine brF (by first | decide | omega) ?_ | refine brTn (by first | decide | omega) ?_ | refine brFn (by first | decide | omega) ?_ | refine And.intro (vp_lit (by decide)) ?_ | refine And.intro (vp_in_nI (by omega) (by decide)) ?_ | ((first | change (_ → _) ∧ (_ → _) | change vp_in _ _ ∧ _ | change ¬ _ ∧ _); simp (disch := omega) only [nI_clamp, nI_leI, nI_ltI, nI_eq, nI_1, nI_add, nI_not_neg, nI_is_pos, nI_m1, nI_z]))
      try change _ ∧ _
      refine ⟨?_, Same.rfl h⟩
      unfold worstA
      rw [if_pos (Or.inr hx2)]
end ZED
theorem o_worst : op_12 Inv := fun x h I => by
  obtain ⟨t, m, s, c, v, R, M, o, ro⟩ := id I
  obtain ⟨w, h1, r1, e1, S1, F1⟩ := w_E_worst R o x
  obtain ⟨w2, h2, r2, e2, S2⟩ := w_M_worst (M.same S1) o x
  subst e1
  subst e2
  exact ⟨_, _, _, r1.d, r2.d, (I.same S1).same S2⟩
