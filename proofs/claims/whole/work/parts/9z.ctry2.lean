/-! ===== TESTS ARE TRIED: the class, a test ===== -/
section CTS3
variable {h h' : HP}
theorem ll2 {a b : Int} (ha : bE a) (hb : bE b) : ((iI a).toInt64 + (iI b).toInt64).toInt = a + b ∧ ((iI a).toInt64 - (iI b).toInt64).toInt = a - b ∧ ((iI a).toInt64 * (iI b).toInt64).toInt = a * b := by
  have h3 : (a * b).natAbs ≤ 1000000000 * 1000000000 := by
    rw [Int.natAbs_mul]
    unfold bE at ha hb
    exact Nat.mul_le_mul (by omega) (by omega)
  refine ⟨?_, ?_, ?_⟩
  · rw [Int64.toInt_add, Int32.toInt_toInt64, Int32.toInt_toInt64, ha.t, hb.t]
    unfold bE at ha hb
    exact bm64 (by omega) (by omega)
  · rw [Int64.toInt_sub, Int32.toInt_toInt64, Int32.toInt_toInt64, ha.t, hb.t]
    unfold bE at ha hb
    exact bm64 (by omega) (by omega)
  · rw [Int64.toInt_mul, Int32.toInt_toInt64, Int32.toInt_toInt64, ha.t, hb.t]
    exact bm64 (by omega) (by omega)
theorem r_j1 {a b : Int} (h : HP) (ha : bE a) (hb : bE b) : Run 2 j_Tests_joined [.int (-6), .int (iI a), .int (iI b)] h (some (.int (iI (clE (a + b))))) h := by
  obtain ⟨e1, e2, e3⟩ := ll2 ha hb
  have r := r_within h ((iI a).toInt64 + (iI b).toInt64)
  rw [e1] at r
  refine Run.of rfl ?_
  refine Wp.norm (L' := [_, _, _]) rfl ?_
  iterate 2 refine W1 rfl ?_
  refine ⟨fun z => absurd z (by decide), fun _ _ => ?_⟩
  refine Wp.normS (pc' := 52) (L' := [_, _, _]) (S' := []) rfl rfl rfl ?_
  show Wp 2 j_Tests_joined _ _ _ _ _
  repeat (first | (refine W1 rfl ?_; try refine Wp.norm (L' := [_, _, _]) rfl ?_) | ((first | change (_ → _) ∧ (_ → _) | change vp_in _ _ ∧ _ | change ¬ _ ∧ _); simp (disch := omega) only [nI_clamp, nI_leI, nI_ltI, nI_eq, nI_1, nI_add, nI_not_neg, nI_is_pos, nI_m1, nI_z]) | refine brT (by first | assumption | decide | omega) ?_ | refine brF (by first | assumption | decide | omega) ?_ | refine brTn (by first | assumption | decide | omega) ?_ | refine brFn (by first | assumption | decide | omega) ?_ | refine And.intro (vp_in_nI (by omega) (by decide)) ?_ | refine And.intro (vp_lit (by decide)) ?_ | refine divJ (by decide) ?_ | refine divI (by decide) ?_)
  try change _ ∧ _
  refine Cl.of r (by decide) ?_
  refine Wp.normS (pc' := 60) (L' := [_, _, _]) (S' := [_]) rfl rfl rfl ?_
  repeat (first | (refine W1 rfl ?_; try refine Wp.norm (L' := [_, _, _]) rfl ?_) | ((first | change (_ → _) ∧ (_ → _) | change vp_in _ _ ∧ _ | change ¬ _ ∧ _); simp (disch := omega) only [nI_clamp, nI_leI, nI_ltI, nI_eq, nI_1, nI_add, nI_not_neg, nI_is_pos, nI_m1, nI_z]) | refine brT (by first | assumption | decide | omega) ?_ | refine brF (by first | assumption | decide | omega) ?_ | refine brTn (by first | assumption | decide | omega) ?_ | refine brFn (by first | assumption | decide | omega) ?_ | refine And.intro (vp_in_nI (by omega) (by decide)) ?_ | refine And.intro (vp_lit (by decide)) ?_ | refine divJ (by decide) ?_ | refine divI (by decide) ?_)
  try change _ ∧ _
  try first | exact ⟨rfl, rfl⟩ | exact ⟨Or.inr rfl, rfl, rfl⟩ | exact ⟨Or.inl rfl, rfl, rfl⟩ | exact ⟨trivial, trivial⟩ | exact ⟨rfl, trivial⟩ | exact ⟨Or.inr rfl, rfl, trivial⟩ | exact ⟨Or.inl rfl, rfl, trivial⟩
theorem op_e1 (a b : Int) : opE 1 a b = (clE (a + b)) := by
  unfold opE
  rw [if_pos rfl]
theorem r_j2 {a b : Int} (h : HP) (ha : bE a) (hb : bE b) : Run 2 j_Tests_joined [.int (-7), .int (iI a), .int (iI b)] h (some (.int (iI (clE (a - b))))) h := by
  obtain ⟨e1, e2, e3⟩ := ll2 ha hb
  have r := r_within h ((iI a).toInt64 - (iI b).toInt64)
  rw [e2] at r
  refine Run.of rfl ?_
  refine Wp.norm (L' := [_, _, _]) rfl ?_
  iterate 2 refine W1 rfl ?_
  refine ⟨fun z => absurd z (by decide), fun _ _ => ?_⟩
  refine Wp.normS (pc' := 61) (L' := [_, _, _]) (S' := []) rfl rfl rfl ?_
  show Wp 2 j_Tests_joined _ _ _ _ _
  repeat (first | (refine W1 rfl ?_; try refine Wp.norm (L' := [_, _, _]) rfl ?_) | ((first | change (_ → _) ∧ (_ → _) | change vp_in _ _ ∧ _ | change ¬ _ ∧ _); simp (disch := omega) only [nI_clamp, nI_leI, nI_ltI, nI_eq, nI_1, nI_add, nI_not_neg, nI_is_pos, nI_m1, nI_z]) | refine brT (by first | assumption | decide | omega) ?_ | refine brF (by first | assumption | decide | omega) ?_ | refine brTn (by first | assumption | decide | omega) ?_ | refine brFn (by first | assumption | decide | omega) ?_ | refine And.intro (vp_in_nI (by omega) (by decide)) ?_ | refine And.intro (vp_lit (by decide)) ?_ | refine divJ (by decide) ?_ | refine divI (by decide) ?_)
  try change _ ∧ _
  refine Cl.of r (by decide) ?_
  refine Wp.normS (pc' := 69) (L' := [_, _, _]) (S' := [_]) rfl rfl rfl ?_
  repeat (first | (refine W1 rfl ?_; try refine Wp.norm (L' := [_, _, _]) rfl ?_) | ((first | change (_ → _) ∧ (_ → _) | change vp_in _ _ ∧ _ | change ¬ _ ∧ _); simp (disch := omega) only [nI_clamp, nI_leI, nI_ltI, nI_eq, nI_1, nI_add, nI_not_neg, nI_is_pos, nI_m1, nI_z]) | refine brT (by first | assumption | decide | omega) ?_ | refine brF (by first | assumption | decide | omega) ?_ | refine brTn (by first | assumption | decide | omega) ?_ | refine brFn (by first | assumption | decide | omega) ?_ | refine And.intro (vp_in_nI (by omega) (by decide)) ?_ | refine And.intro (vp_lit (by decide)) ?_ | refine divJ (by decide) ?_ | refine divI (by decide) ?_)
  try change _ ∧ _
  try first | exact ⟨rfl, rfl⟩ | exact ⟨Or.inr rfl, rfl, rfl⟩ | exact ⟨Or.inl rfl, rfl, rfl⟩ | exact ⟨trivial, trivial⟩ | exact ⟨rfl, trivial⟩ | exact ⟨Or.inr rfl, rfl, trivial⟩ | exact ⟨Or.inl rfl, rfl, trivial⟩
theorem op_e2 (a b : Int) : opE 2 a b = (clE (a - b)) := by
  unfold opE
  rw [if_neg (by decide), if_pos rfl]
theorem r_j3 {a b : Int} (h : HP) (ha : bE a) (hb : bE b) : Run 2 j_Tests_joined [.int (-8), .int (iI a), .int (iI b)] h (some (.int (iI (clE (a * b))))) h := by
  obtain ⟨e1, e2, e3⟩ := ll2 ha hb
  have r := r_within h ((iI a).toInt64 * (iI b).toInt64)
  rw [e3] at r
  refine Run.of rfl ?_
  refine Wp.norm (L' := [_, _, _]) rfl ?_
  iterate 2 refine W1 rfl ?_
  refine ⟨fun z => absurd z (by decide), fun _ _ => ?_⟩
  refine Wp.normS (pc' := 70) (L' := [_, _, _]) (S' := []) rfl rfl rfl ?_
  show Wp 2 j_Tests_joined _ _ _ _ _
  repeat (first | (refine W1 rfl ?_; try refine Wp.norm (L' := [_, _, _]) rfl ?_) | ((first | change (_ → _) ∧ (_ → _) | change vp_in _ _ ∧ _ | change ¬ _ ∧ _); simp (disch := omega) only [nI_clamp, nI_leI, nI_ltI, nI_eq, nI_1, nI_add, nI_not_neg, nI_is_pos, nI_m1, nI_z]) | refine brT (by first | assumption | decide | omega) ?_ | refine brF (by first | assumption | decide | omega) ?_ | refine brTn (by first | assumption | decide | omega) ?_ | refine brFn (by first | assumption | decide | omega) ?_ | refine And.intro (vp_in_nI (by omega) (by decide)) ?_ | refine And.intro (vp_lit (by decide)) ?_ | refine divJ (by decide) ?_ | refine divI (by decide) ?_)
  try change _ ∧ _
  refine Cl.of r (by decide) ?_
  refine Wp.normS (pc' := 78) (L' := [_, _, _]) (S' := [_]) rfl rfl rfl ?_
  repeat (first | (refine W1 rfl ?_; try refine Wp.norm (L' := [_, _, _]) rfl ?_) | ((first | change (_ → _) ∧ (_ → _) | change vp_in _ _ ∧ _ | change ¬ _ ∧ _); simp (disch := omega) only [nI_clamp, nI_leI, nI_ltI, nI_eq, nI_1, nI_add, nI_not_neg, nI_is_pos, nI_m1, nI_z]) | refine brT (by first | assumption | decide | omega) ?_ | refine brF (by first | assumption | decide | omega) ?_ | refine brTn (by first | assumption | decide | omega) ?_ | refine brFn (by first | assumption | decide | omega) ?_ | refine And.intro (vp_in_nI (by omega) (by decide)) ?_ | refine And.intro (vp_lit (by decide)) ?_ | refine divJ (by decide) ?_ | refine divI (by decide) ?_)
  try change _ ∧ _
  try first | exact ⟨rfl, rfl⟩ | exact ⟨Or.inr rfl, rfl, rfl⟩ | exact ⟨Or.inl rfl, rfl, rfl⟩ | exact ⟨trivial, trivial⟩ | exact ⟨rfl, trivial⟩ | exact ⟨Or.inr rfl, rfl, trivial⟩ | exact ⟨Or.inl rfl, rfl, trivial⟩
theorem op_e3 (a b : Int) : opE 3 a b = (clE (a * b)) := by
  unfold opE
  rw [if_neg (by decide), if_neg (by decide), if_pos rfl]
theorem r_j4 {a b : Int} (h : HP) (ha : bE a) (hb : bE b) : Run 2 j_Tests_joined [.int (-9), .int (iI a), .int (iI b)] h (some (.int (iI (if b = 0 then 0 else flE a b)))) h := by
  by_cases z0 : b = 0
  · rw [if_pos z0]
    have hz : iI b = 0 := by rw [z0]; rfl
    refine Run.of rfl ?_
    refine Wp.norm (L' := [_, _, _]) rfl ?_
    iterate 2 refine W1 rfl ?_
    refine ⟨fun z => absurd z (by decide), fun _ _ => ?_⟩
    refine Wp.normS (pc' := 79) (L' := [_, _, _]) (S' := []) rfl rfl rfl ?_
    show Wp 2 j_Tests_joined _ _ _ _ _
    repeat (first | (refine W1 rfl ?_; try refine Wp.norm (L' := [_, _, _]) rfl ?_) | ((first | change (_ → _) ∧ (_ → _) | change vp_in _ _ ∧ _ | change ¬ _ ∧ _); simp (disch := omega) only [nI_clamp, nI_leI, nI_ltI, nI_eq, nI_1, nI_add, nI_not_neg, nI_is_pos, nI_m1, nI_z, hz]) | refine brT (by first | assumption | decide | omega) ?_ | refine brF (by first | assumption | decide | omega) ?_ | refine brTn (by first | assumption | decide | omega) ?_ | refine brFn (by first | assumption | decide | omega) ?_ | refine And.intro (vp_in_nI (by omega) (by decide)) ?_ | refine And.intro (vp_lit (by decide)) ?_ | refine divJ (by decide) ?_ | refine divI (by decide) ?_)
    try change _ ∧ _
    try first | exact ⟨rfl, rfl⟩ | exact ⟨Or.inr rfl, rfl, rfl⟩ | exact ⟨Or.inl rfl, rfl, rfl⟩ | exact ⟨trivial, trivial⟩ | exact ⟨rfl, trivial⟩ | exact ⟨Or.inr rfl, rfl, trivial⟩ | exact ⟨Or.inl rfl, rfl, trivial⟩
  · rw [if_neg z0]
    have hn : ¬ iI b = 0 := fun z => z0 ((iI_eq hb bE_0).mp z)
    have r := r_fdiv h ha hb z0
    refine Run.of rfl ?_
    refine Wp.norm (L' := [_, _, _]) rfl ?_
    iterate 2 refine W1 rfl ?_
    refine ⟨fun z => absurd z (by decide), fun _ _ => ?_⟩
    refine Wp.normS (pc' := 79) (L' := [_, _, _]) (S' := []) rfl rfl rfl ?_
    show Wp 2 j_Tests_joined _ _ _ _ _
    repeat (first | (refine W1 rfl ?_; try refine Wp.norm (L' := [_, _, _]) rfl ?_) | ((first | change (_ → _) ∧ (_ → _) | change vp_in _ _ ∧ _ | change ¬ _ ∧ _); simp (disch := omega) only [nI_clamp, nI_leI, nI_ltI, nI_eq, nI_1, nI_add, nI_not_neg, nI_is_pos, nI_m1, nI_z]) | refine brT (by first | assumption | decide | omega) ?_ | refine brF (by first | assumption | decide | omega) ?_ | refine brTn (by first | assumption | decide | omega) ?_ | refine brFn (by first | assumption | decide | omega) ?_ | refine And.intro (vp_in_nI (by omega) (by decide)) ?_ | refine And.intro (vp_lit (by decide)) ?_ | refine divJ (by decide) ?_ | refine divI (by decide) ?_)
    try change _ ∧ _
    refine Cl.of r (by decide) ?_
    refine Wp.normS (pc' := 92) (L' := [_, _, _]) (S' := [_]) rfl rfl rfl ?_
    repeat (first | (refine W1 rfl ?_; try refine Wp.norm (L' := [_, _, _]) rfl ?_) | ((first | change (_ → _) ∧ (_ → _) | change vp_in _ _ ∧ _ | change ¬ _ ∧ _); simp (disch := omega) only [nI_clamp, nI_leI, nI_ltI, nI_eq, nI_1, nI_add, nI_not_neg, nI_is_pos, nI_m1, nI_z]) | refine brT (by first | assumption | decide | omega) ?_ | refine brF (by first | assumption | decide | omega) ?_ | refine brTn (by first | assumption | decide | omega) ?_ | refine brFn (by first | assumption | decide | omega) ?_ | refine And.intro (vp_in_nI (by omega) (by decide)) ?_ | refine And.intro (vp_lit (by decide)) ?_ | refine divJ (by decide) ?_ | refine divI (by decide) ?_)
    try change _ ∧ _
    try first | exact ⟨rfl, rfl⟩ | exact ⟨Or.inr rfl, rfl, rfl⟩ | exact ⟨Or.inl rfl, rfl, rfl⟩ | exact ⟨trivial, trivial⟩ | exact ⟨rfl, trivial⟩ | exact ⟨Or.inr rfl, rfl, trivial⟩ | exact ⟨Or.inl rfl, rfl, trivial⟩
theorem op_e4 (a b : Int) : opE 4 a b = (if b = 0 then 0 else flE a b) := by
  unfold opE
  rw [if_neg (by decide), if_neg (by decide), if_neg (by decide), if_pos rfl]
theorem r_j5 {a b : Int} (h : HP) (ha : bE a) (hb : bE b) : Run 2 j_Tests_joined [.int (-10), .int (iI a), .int (iI b)] h (some (.int (iI (if b = 0 then 0 else a - b * flE a b)))) h := by
  by_cases z0 : b = 0
  · rw [if_pos z0]
    have hz : iI b = 0 := by rw [z0]; rfl
    refine Run.of rfl ?_
    refine Wp.norm (L' := [_, _, _]) rfl ?_
    iterate 2 refine W1 rfl ?_
    refine ⟨fun z => absurd z (by decide), fun _ _ => ?_⟩
    refine Wp.normS (pc' := 93) (L' := [_, _, _]) (S' := []) rfl rfl rfl ?_
    show Wp 2 j_Tests_joined _ _ _ _ _
    repeat (first | (refine W1 rfl ?_; try refine Wp.norm (L' := [_, _, _]) rfl ?_) | ((first | change (_ → _) ∧ (_ → _) | change vp_in _ _ ∧ _ | change ¬ _ ∧ _); simp (disch := omega) only [nI_clamp, nI_leI, nI_ltI, nI_eq, nI_1, nI_add, nI_not_neg, nI_is_pos, nI_m1, nI_z, hz]) | refine brT (by first | assumption | decide | omega) ?_ | refine brF (by first | assumption | decide | omega) ?_ | refine brTn (by first | assumption | decide | omega) ?_ | refine brFn (by first | assumption | decide | omega) ?_ | refine And.intro (vp_in_nI (by omega) (by decide)) ?_ | refine And.intro (vp_lit (by decide)) ?_ | refine divJ (by decide) ?_ | refine divI (by decide) ?_)
    try change _ ∧ _
    try first | exact ⟨rfl, rfl⟩ | exact ⟨Or.inr rfl, rfl, rfl⟩ | exact ⟨Or.inl rfl, rfl, rfl⟩ | exact ⟨trivial, trivial⟩ | exact ⟨rfl, trivial⟩ | exact ⟨Or.inr rfl, rfl, trivial⟩ | exact ⟨Or.inl rfl, rfl, trivial⟩
  · rw [if_neg z0]
    have hn : ¬ iI b = 0 := fun z => z0 ((iI_eq hb bE_0).mp z)
    have r := r_fmod h ha hb z0
    refine Run.of rfl ?_
    refine Wp.norm (L' := [_, _, _]) rfl ?_
    iterate 2 refine W1 rfl ?_
    refine ⟨fun z => absurd z (by decide), fun _ _ => ?_⟩
    refine Wp.normS (pc' := 93) (L' := [_, _, _]) (S' := []) rfl rfl rfl ?_
    show Wp 2 j_Tests_joined _ _ _ _ _
    repeat (first | (refine W1 rfl ?_; try refine Wp.norm (L' := [_, _, _]) rfl ?_) | ((first | change (_ → _) ∧ (_ → _) | change vp_in _ _ ∧ _ | change ¬ _ ∧ _); simp (disch := omega) only [nI_clamp, nI_leI, nI_ltI, nI_eq, nI_1, nI_add, nI_not_neg, nI_is_pos, nI_m1, nI_z]) | refine brT (by first | assumption | decide | omega) ?_ | refine brF (by first | assumption | decide | omega) ?_ | refine brTn (by first | assumption | decide | omega) ?_ | refine brFn (by first | assumption | decide | omega) ?_ | refine And.intro (vp_in_nI (by omega) (by decide)) ?_ | refine And.intro (vp_lit (by decide)) ?_ | refine divJ (by decide) ?_ | refine divI (by decide) ?_)
    try change _ ∧ _
    refine Cl.of r (by decide) ?_
    refine Wp.normS (pc' := 106) (L' := [_, _, _]) (S' := [_]) rfl rfl rfl ?_
    repeat (first | (refine W1 rfl ?_; try refine Wp.norm (L' := [_, _, _]) rfl ?_) | ((first | change (_ → _) ∧ (_ → _) | change vp_in _ _ ∧ _ | change ¬ _ ∧ _); simp (disch := omega) only [nI_clamp, nI_leI, nI_ltI, nI_eq, nI_1, nI_add, nI_not_neg, nI_is_pos, nI_m1, nI_z]) | refine brT (by first | assumption | decide | omega) ?_ | refine brF (by first | assumption | decide | omega) ?_ | refine brTn (by first | assumption | decide | omega) ?_ | refine brFn (by first | assumption | decide | omega) ?_ | refine And.intro (vp_in_nI (by omega) (by decide)) ?_ | refine And.intro (vp_lit (by decide)) ?_ | refine divJ (by decide) ?_ | refine divI (by decide) ?_)
    try change _ ∧ _
    try first | exact ⟨rfl, rfl⟩ | exact ⟨Or.inr rfl, rfl, rfl⟩ | exact ⟨Or.inl rfl, rfl, rfl⟩ | exact ⟨trivial, trivial⟩ | exact ⟨rfl, trivial⟩ | exact ⟨Or.inr rfl, rfl, trivial⟩ | exact ⟨Or.inl rfl, rfl, trivial⟩
theorem op_e5 (a b : Int) : opE 5 a b = (if b = 0 then 0 else a - b * flE a b) := by
  unfold opE
  rw [if_neg (by decide), if_neg (by decide), if_neg (by decide), if_neg (by decide), if_pos rfl]
theorem r_j11 {a b : Int} (h : HP) (ha : bE a) (hb : bE b) : Run 2 j_Tests_joined [.int (-11), .int (iI a), .int (iI b)] h (some (.int (iI (if a < b then 1 else 0)))) h := by
  have k1 := iI_le hb ha
  refine Run.of rfl ?_
  refine Wp.norm (L' := [_, _, _]) rfl ?_
  iterate 2 refine W1 rfl ?_
  refine ⟨fun z => absurd z (by decide), fun _ _ => ?_⟩
  refine Wp.normS (pc' := 107) (L' := [_, _, _]) (S' := []) rfl rfl rfl ?_
  show Wp 2 j_Tests_joined _ _ _ _ _
  by_cases c : a < b
  · rw [if_pos c]
    have k1 : ¬ iI b ≤ iI a := fun z => by have := k1.mp z; omega
    repeat (first | (refine W1 rfl ?_; try refine Wp.norm (L' := [_, _, _]) rfl ?_) | ((first | change (_ → _) ∧ (_ → _) | change vp_in _ _ ∧ _ | change ¬ _ ∧ _); simp (disch := omega) only [nI_clamp, nI_leI, nI_ltI, nI_eq, nI_1, nI_add, nI_not_neg, nI_is_pos, nI_m1, nI_z]) | refine brT (by first | assumption | decide | omega) ?_ | refine brF (by first | assumption | decide | omega) ?_ | refine brTn (by first | assumption | decide | omega) ?_ | refine brFn (by first | assumption | decide | omega) ?_ | refine And.intro (vp_in_nI (by omega) (by decide)) ?_ | refine And.intro (vp_lit (by decide)) ?_ | refine divJ (by decide) ?_ | refine divI (by decide) ?_)
    try change _ ∧ _
    try first | exact ⟨rfl, rfl⟩ | exact ⟨Or.inr rfl, rfl, rfl⟩ | exact ⟨Or.inl rfl, rfl, rfl⟩ | exact ⟨trivial, trivial⟩ | exact ⟨rfl, trivial⟩ | exact ⟨Or.inr rfl, rfl, trivial⟩ | exact ⟨Or.inl rfl, rfl, trivial⟩
  · rw [if_neg c]
    have k1 : iI b ≤ iI a := k1.mpr (by omega)
    repeat (first | (refine W1 rfl ?_; try refine Wp.norm (L' := [_, _, _]) rfl ?_) | ((first | change (_ → _) ∧ (_ → _) | change vp_in _ _ ∧ _ | change ¬ _ ∧ _); simp (disch := omega) only [nI_clamp, nI_leI, nI_ltI, nI_eq, nI_1, nI_add, nI_not_neg, nI_is_pos, nI_m1, nI_z]) | refine brT (by first | assumption | decide | omega) ?_ | refine brF (by first | assumption | decide | omega) ?_ | refine brTn (by first | assumption | decide | omega) ?_ | refine brFn (by first | assumption | decide | omega) ?_ | refine And.intro (vp_in_nI (by omega) (by decide)) ?_ | refine And.intro (vp_lit (by decide)) ?_ | refine divJ (by decide) ?_ | refine divI (by decide) ?_)
    try change _ ∧ _
    try first | exact ⟨rfl, rfl⟩ | exact ⟨Or.inr rfl, rfl, rfl⟩ | exact ⟨Or.inl rfl, rfl, rfl⟩ | exact ⟨trivial, trivial⟩ | exact ⟨rfl, trivial⟩ | exact ⟨Or.inr rfl, rfl, trivial⟩ | exact ⟨Or.inl rfl, rfl, trivial⟩
theorem op_e11 (a b : Int) : opE 11 a b = (if a < b then 1 else 0) := by
  unfold opE
  rw [if_neg (by decide), if_neg (by decide), if_neg (by decide), if_neg (by decide), if_neg (by decide), if_pos rfl]
theorem r_j12 {a b : Int} (h : HP) (ha : bE a) (hb : bE b) : Run 2 j_Tests_joined [.int (-12), .int (iI a), .int (iI b)] h (some (.int (iI (if b < a then 1 else 0)))) h := by
  have k1 := iI_le ha hb
  refine Run.of rfl ?_
  refine Wp.norm (L' := [_, _, _]) rfl ?_
  iterate 2 refine W1 rfl ?_
  refine ⟨fun z => absurd z (by decide), fun _ _ => ?_⟩
  refine Wp.normS (pc' := 118) (L' := [_, _, _]) (S' := []) rfl rfl rfl ?_
  show Wp 2 j_Tests_joined _ _ _ _ _
  by_cases c : b < a
  · rw [if_pos c]
    have k1 : ¬ iI a ≤ iI b := fun z => by have := k1.mp z; omega
    repeat (first | (refine W1 rfl ?_; try refine Wp.norm (L' := [_, _, _]) rfl ?_) | ((first | change (_ → _) ∧ (_ → _) | change vp_in _ _ ∧ _ | change ¬ _ ∧ _); simp (disch := omega) only [nI_clamp, nI_leI, nI_ltI, nI_eq, nI_1, nI_add, nI_not_neg, nI_is_pos, nI_m1, nI_z]) | refine brT (by first | assumption | decide | omega) ?_ | refine brF (by first | assumption | decide | omega) ?_ | refine brTn (by first | assumption | decide | omega) ?_ | refine brFn (by first | assumption | decide | omega) ?_ | refine And.intro (vp_in_nI (by omega) (by decide)) ?_ | refine And.intro (vp_lit (by decide)) ?_ | refine divJ (by decide) ?_ | refine divI (by decide) ?_)
    try change _ ∧ _
    try first | exact ⟨rfl, rfl⟩ | exact ⟨Or.inr rfl, rfl, rfl⟩ | exact ⟨Or.inl rfl, rfl, rfl⟩ | exact ⟨trivial, trivial⟩ | exact ⟨rfl, trivial⟩ | exact ⟨Or.inr rfl, rfl, trivial⟩ | exact ⟨Or.inl rfl, rfl, trivial⟩
  · rw [if_neg c]
    have k1 : iI a ≤ iI b := k1.mpr (by omega)
    repeat (first | (refine W1 rfl ?_; try refine Wp.norm (L' := [_, _, _]) rfl ?_) | ((first | change (_ → _) ∧ (_ → _) | change vp_in _ _ ∧ _ | change ¬ _ ∧ _); simp (disch := omega) only [nI_clamp, nI_leI, nI_ltI, nI_eq, nI_1, nI_add, nI_not_neg, nI_is_pos, nI_m1, nI_z]) | refine brT (by first | assumption | decide | omega) ?_ | refine brF (by first | assumption | decide | omega) ?_ | refine brTn (by first | assumption | decide | omega) ?_ | refine brFn (by first | assumption | decide | omega) ?_ | refine And.intro (vp_in_nI (by omega) (by decide)) ?_ | refine And.intro (vp_lit (by decide)) ?_ | refine divJ (by decide) ?_ | refine divI (by decide) ?_)
    try change _ ∧ _
    try first | exact ⟨rfl, rfl⟩ | exact ⟨Or.inr rfl, rfl, rfl⟩ | exact ⟨Or.inl rfl, rfl, rfl⟩ | exact ⟨trivial, trivial⟩ | exact ⟨rfl, trivial⟩ | exact ⟨Or.inr rfl, rfl, trivial⟩ | exact ⟨Or.inl rfl, rfl, trivial⟩
theorem op_e12 (a b : Int) : opE 12 a b = (if b < a then 1 else 0) := by
  unfold opE
  rw [if_neg (by decide), if_neg (by decide), if_neg (by decide), if_neg (by decide), if_neg (by decide), if_neg (by decide), if_pos rfl]
theorem r_j13 {a b : Int} (h : HP) (ha : bE a) (hb : bE b) : Run 2 j_Tests_joined [.int (-13), .int (iI a), .int (iI b)] h (some (.int (iI (if a = b then 1 else 0)))) h := by
  have k1 := iI_eq ha hb
  refine Run.of rfl ?_
  refine Wp.norm (L' := [_, _, _]) rfl ?_
  iterate 2 refine W1 rfl ?_
  refine ⟨fun z => absurd z (by decide), fun _ _ => ?_⟩
  refine Wp.normS (pc' := 129) (L' := [_, _, _]) (S' := []) rfl rfl rfl ?_
  show Wp 2 j_Tests_joined _ _ _ _ _
  by_cases c : a = b
  · rw [if_pos c]
    have k1 := k1.mpr c
    repeat (first | (refine W1 rfl ?_; try refine Wp.norm (L' := [_, _, _]) rfl ?_) | ((first | change (_ → _) ∧ (_ → _) | change vp_in _ _ ∧ _ | change ¬ _ ∧ _); simp (disch := omega) only [nI_clamp, nI_leI, nI_ltI, nI_eq, nI_1, nI_add, nI_not_neg, nI_is_pos, nI_m1, nI_z]) | refine brT (by first | assumption | decide | omega) ?_ | refine brF (by first | assumption | decide | omega) ?_ | refine brTn (by first | assumption | decide | omega) ?_ | refine brFn (by first | assumption | decide | omega) ?_ | refine And.intro (vp_in_nI (by omega) (by decide)) ?_ | refine And.intro (vp_lit (by decide)) ?_ | refine divJ (by decide) ?_ | refine divI (by decide) ?_)
    try change _ ∧ _
    try first | exact ⟨rfl, rfl⟩ | exact ⟨Or.inr rfl, rfl, rfl⟩ | exact ⟨Or.inl rfl, rfl, rfl⟩ | exact ⟨trivial, trivial⟩ | exact ⟨rfl, trivial⟩ | exact ⟨Or.inr rfl, rfl, trivial⟩ | exact ⟨Or.inl rfl, rfl, trivial⟩
  · rw [if_neg c]
    have k1 : ¬ iI a = iI b := fun z => c (k1.mp z)
    repeat (first | (refine W1 rfl ?_; try refine Wp.norm (L' := [_, _, _]) rfl ?_) | ((first | change (_ → _) ∧ (_ → _) | change vp_in _ _ ∧ _ | change ¬ _ ∧ _); simp (disch := omega) only [nI_clamp, nI_leI, nI_ltI, nI_eq, nI_1, nI_add, nI_not_neg, nI_is_pos, nI_m1, nI_z]) | refine brT (by first | assumption | decide | omega) ?_ | refine brF (by first | assumption | decide | omega) ?_ | refine brTn (by first | assumption | decide | omega) ?_ | refine brFn (by first | assumption | decide | omega) ?_ | refine And.intro (vp_in_nI (by omega) (by decide)) ?_ | refine And.intro (vp_lit (by decide)) ?_ | refine divJ (by decide) ?_ | refine divI (by decide) ?_)
    try change _ ∧ _
    try first | exact ⟨rfl, rfl⟩ | exact ⟨Or.inr rfl, rfl, rfl⟩ | exact ⟨Or.inl rfl, rfl, rfl⟩ | exact ⟨trivial, trivial⟩ | exact ⟨rfl, trivial⟩ | exact ⟨Or.inr rfl, rfl, trivial⟩ | exact ⟨Or.inl rfl, rfl, trivial⟩
theorem op_e13 (a b : Int) : opE 13 a b = (if a = b then 1 else 0) := by
  unfold opE
  rw [if_neg (by decide), if_neg (by decide), if_neg (by decide), if_neg (by decide), if_neg (by decide), if_neg (by decide), if_neg (by decide), if_pos rfl]
theorem r_j14 {a b : Int} (h : HP) (ha : bE a) (hb : bE b) (hl : (a = 0 ∨ a = 1) ∧ (b = 0 ∨ b = 1)) : Run 2 j_Tests_joined [.int (-14), .int (iI a), .int (iI b)] h (some (.int (iI (if a = 1 ∧ b = 1 then 1 else 0)))) h := by
  obtain ⟨h1, h2⟩ := hl
  have e : iI a &&& iI b = iI (if a = 1 ∧ b = 1 then 1 else 0) := by
    rcases h1 with rfl | rfl <;> rcases h2 with rfl | rfl <;> decide
  refine Run.of rfl ?_
  refine Wp.norm (L' := [_, _, _]) rfl ?_
  iterate 2 refine W1 rfl ?_
  refine ⟨fun z => absurd z (by decide), fun _ _ => ?_⟩
  refine Wp.normS (pc' := 140) (L' := [_, _, _]) (S' := []) rfl rfl rfl ?_
  show Wp 2 j_Tests_joined _ _ _ _ _
  repeat (first | (refine W1 rfl ?_; try refine Wp.norm (L' := [_, _, _]) rfl ?_) | ((first | change (_ → _) ∧ (_ → _) | change vp_in _ _ ∧ _ | change ¬ _ ∧ _); simp (disch := omega) only [nI_clamp, nI_leI, nI_ltI, nI_eq, nI_1, nI_add, nI_not_neg, nI_is_pos, nI_m1, nI_z]) | refine brT (by first | assumption | decide | omega) ?_ | refine brF (by first | assumption | decide | omega) ?_ | refine brTn (by first | assumption | decide | omega) ?_ | refine brFn (by first | assumption | decide | omega) ?_ | refine And.intro (vp_in_nI (by omega) (by decide)) ?_ | refine And.intro (vp_lit (by decide)) ?_ | refine divJ (by decide) ?_ | refine divI (by decide) ?_)
  try change _ ∧ _
  exact ⟨congrArg (fun z => some (Value.int z)) e, rfl⟩
theorem op_e14 (a b : Int) : opE 14 a b = (if a = 1 ∧ b = 1 then 1 else 0) := by
  unfold opE
  rw [if_neg (by decide), if_neg (by decide), if_neg (by decide), if_neg (by decide), if_neg (by decide), if_neg (by decide), if_neg (by decide), if_neg (by decide), if_pos rfl]
theorem r_j15 {a b : Int} (h : HP) (ha : bE a) (hb : bE b) (hl : (a = 0 ∨ a = 1) ∧ (b = 0 ∨ b = 1)) : Run 2 j_Tests_joined [.int (-15), .int (iI a), .int (iI b)] h (some (.int (iI (if a = 1 ∨ b = 1 then 1 else 0)))) h := by
  obtain ⟨h1, h2⟩ := hl
  have e : iI a ||| iI b = iI (if a = 1 ∨ b = 1 then 1 else 0) := by
    rcases h1 with rfl | rfl <;> rcases h2 with rfl | rfl <;> decide
  refine Run.of rfl ?_
  refine Wp.norm (L' := [_, _, _]) rfl ?_
  iterate 2 refine W1 rfl ?_
  refine ⟨fun _ => ?_, fun z1 z2 => absurd (show (-15 : Int32).toInt < -14 by decide) z1⟩
  refine Wp.normS (pc' := 144) (L' := [_, _, _]) (S' := []) rfl rfl rfl ?_
  show Wp 2 j_Tests_joined _ _ _ _ _
  repeat (first | (refine W1 rfl ?_; try refine Wp.norm (L' := [_, _, _]) rfl ?_) | ((first | change (_ → _) ∧ (_ → _) | change vp_in _ _ ∧ _ | change ¬ _ ∧ _); simp (disch := omega) only [nI_clamp, nI_leI, nI_ltI, nI_eq, nI_1, nI_add, nI_not_neg, nI_is_pos, nI_m1, nI_z]) | refine brT (by first | assumption | decide | omega) ?_ | refine brF (by first | assumption | decide | omega) ?_ | refine brTn (by first | assumption | decide | omega) ?_ | refine brFn (by first | assumption | decide | omega) ?_ | refine And.intro (vp_in_nI (by omega) (by decide)) ?_ | refine And.intro (vp_lit (by decide)) ?_ | refine divJ (by decide) ?_ | refine divI (by decide) ?_)
  try change _ ∧ _
  exact ⟨congrArg (fun z => some (Value.int z)) e, rfl⟩
theorem op_e15 (a b : Int) : opE 15 a b = (if a = 1 ∨ b = 1 then 1 else 0) := by
  unfold opE
  rw [if_neg (by decide), if_neg (by decide), if_neg (by decide), if_neg (by decide), if_neg (by decide), if_neg (by decide), if_neg (by decide), if_neg (by decide), if_neg (by decide)]
theorem r_joined {c : Nat} {a b : Int} (h : HP) (hc : (1 ≤ c ∧ c ≤ 5) ∨ (11 ≤ c ∧ c ≤ 15)) (ha : bE a) (hb : bE b) (hl : c = 14 ∨ c = 15 → (a = 0 ∨ a = 1) ∧ (b = 0 ∨ b = 1)) : Run 2 j_Tests_joined [.int (cvC c), .int (iI a), .int (iI b)] h (some (.int (iI (opE c a b)))) h := by
  have cc : c = 1 ∨ c = 2 ∨ c = 3 ∨ c = 4 ∨ c = 5 ∨ c = 11 ∨ c = 12 ∨ c = 13 ∨ c = 14 ∨ c = 15 := by omega
  rcases cc with rfl | rfl | rfl | rfl | rfl | rfl | rfl | rfl | rfl | rfl
  · rw [op_e1]; exact r_j1 h ha hb
  · rw [op_e2]; exact r_j2 h ha hb
  · rw [op_e3]; exact r_j3 h ha hb
  · rw [op_e4]; exact r_j4 h ha hb
  · rw [op_e5]; exact r_j5 h ha hb
  · rw [op_e11]; exact r_j11 h ha hb
  · rw [op_e12]; exact r_j12 h ha hb
  · rw [op_e13]; exact r_j13 h ha hb
  · rw [op_e14]; exact r_j14 h ha hb (hl (Or.inl rfl))
  · rw [op_e15]; exact r_j15 h ha hb (hl (Or.inr rfl))
theorem cv_num {c : Nat} (h1 : 1000 ≤ c) : cvC c = nI (c - 1000) := by unfold cvC; rw [if_pos h1]
theorem n7 {d : Nat} (hd : d < 200) : nI d / 7 = nI (d / 7) ∧ nI d - nI d / 7 * 7 = nI (d % 7) := by
  have e1 : nI d / 7 = nI (d / 7) := by rw [show (7 : Int32) = nI 7 from rfl, pk_div (by omega) (by decide) (by decide)]
  refine ⟨e1, ?_⟩
  rw [e1, show (7 : Int32) = nI 7 from rfl, pk_mul, nI_subN (by omega)]
  congr 1
  omega
theorem r_leaf {c d : Nat} (h : HP) (hc : (1000 ≤ c ∧ c < 11000) ∨ c = 6 ∨ c = 7 ∨ c = 8 ∨ c = 17) (hd : d < 200) : Run 0 j_Tests_leaf [.int (cvC c), .int (nI d)] h (some (.int (iI (lfE c d)))) h := by
  obtain ⟨e7, e8⟩ := n7 hd
  rcases hc with hc | rfl | rfl | rfl | rfl
  · rw [cv_num hc.1]
    have e : lfE c d = ((c - 1000 : Nat) : Int) := by unfold lfE; rw [if_pos hc.1]
    have ht : (nI (c - 1000)).toInt = ((c - 1000 : Nat) : Int) := nI_toInt (by omega)
    rw [e, ← nI_iI]
    refine Run.of rfl ?_
    refine Wp.norm (L' := [_, _]) rfl ?_
    iterate 2 refine W1 rfl ?_
    refine ⟨fun _ => ?_, fun z1 z2 => by exfalso; rw [ht] at z2; omega⟩
    show Wp 0 j_Tests_leaf _ _ _ _ _
    repeat (first | (refine W1 rfl ?_; try refine Wp.norm (L' := [_, _]) rfl ?_) | ((first | change (_ → _) ∧ (_ → _) | change vp_in _ _ ∧ _ | change ¬ _ ∧ _); simp (disch := omega) only [nI_clamp, nI_leI, nI_ltI, nI_eq, nI_1, nI_add, nI_not_neg, nI_is_pos, nI_m1, nI_z]) | refine brT (by first | assumption | decide | omega) ?_ | refine brF (by first | assumption | decide | omega) ?_ | refine brTn (by first | assumption | decide | omega) ?_ | refine brFn (by first | assumption | decide | omega) ?_ | refine And.intro (vp_in_nI (by omega) (by decide)) ?_ | refine And.intro (vp_lit (by decide)) ?_ | refine divJ (by decide) ?_ | refine divI (by decide) ?_)
    try change _ ∧ _
    try first | exact ⟨rfl, rfl⟩ | exact ⟨Or.inr rfl, rfl, rfl⟩ | exact ⟨Or.inl rfl, rfl, rfl⟩ | exact ⟨trivial, trivial⟩ | exact ⟨rfl, trivial⟩ | exact ⟨Or.inr rfl, rfl, trivial⟩ | exact ⟨Or.inl rfl, rfl, trivial⟩
  · show Run 0 j_Tests_leaf [.int (-1), .int (nI d)] _ (some (.int (iI (d : Int)))) _
    rw [← nI_iI]
    refine Run.of rfl ?_
    refine Wp.norm (L' := [_, _]) rfl ?_
    iterate 2 refine W1 rfl ?_
    refine ⟨fun z => absurd z (by decide), fun _ _ => ?_⟩
    show Wp 0 j_Tests_leaf _ _ _ _ _
    repeat (first | (refine W1 rfl ?_; try refine Wp.norm (L' := [_, _]) rfl ?_) | ((first | change (_ → _) ∧ (_ → _) | change vp_in _ _ ∧ _ | change ¬ _ ∧ _); simp (disch := omega) only [nI_clamp, nI_leI, nI_ltI, nI_eq, nI_1, nI_add, nI_not_neg, nI_is_pos, nI_m1, nI_z]) | refine brT (by first | assumption | decide | omega) ?_ | refine brF (by first | assumption | decide | omega) ?_ | refine brTn (by first | assumption | decide | omega) ?_ | refine brFn (by first | assumption | decide | omega) ?_ | refine And.intro (vp_in_nI (by omega) (by decide)) ?_ | refine And.intro (vp_lit (by decide)) ?_ | refine divJ (by decide) ?_ | refine divI (by decide) ?_)
    try change _ ∧ _
    try first | exact ⟨rfl, rfl⟩ | exact ⟨Or.inr rfl, rfl, rfl⟩ | exact ⟨Or.inl rfl, rfl, rfl⟩ | exact ⟨trivial, trivial⟩ | exact ⟨rfl, trivial⟩ | exact ⟨Or.inr rfl, rfl, trivial⟩ | exact ⟨Or.inl rfl, rfl, trivial⟩
  · show Run 0 j_Tests_leaf [.int (-2), .int (nI d)] _ (some (.int (iI ((d / 7 : Nat) : Int)))) _
    rw [← nI_iI]
    refine Run.of rfl ?_
    refine Wp.norm (L' := [_, _]) rfl ?_
    iterate 2 refine W1 rfl ?_
    refine ⟨fun z => absurd z (by decide), fun _ _ => ?_⟩
    show Wp 0 j_Tests_leaf _ _ _ _ _
    repeat (first | (refine W1 rfl ?_; try refine Wp.norm (L' := [_, _]) rfl ?_) | ((first | change (_ → _) ∧ (_ → _) | change vp_in _ _ ∧ _ | change ¬ _ ∧ _); simp (disch := omega) only [nI_clamp, nI_leI, nI_ltI, nI_eq, nI_1, nI_add, nI_not_neg, nI_is_pos, nI_m1, nI_z]) | refine brT (by first | assumption | decide | omega) ?_ | refine brF (by first | assumption | decide | omega) ?_ | refine brTn (by first | assumption | decide | omega) ?_ | refine brFn (by first | assumption | decide | omega) ?_ | refine And.intro (vp_in_nI (by omega) (by decide)) ?_ | refine And.intro (vp_lit (by decide)) ?_ | refine divJ (by decide) ?_ | refine divI (by decide) ?_)
    try change _ ∧ _
    exact ⟨congrArg (fun z => some (Value.int z)) e7, rfl⟩
  · show Run 0 j_Tests_leaf [.int (-3), .int (nI d)] _ (some (.int (iI ((d % 7 : Nat) : Int)))) _
    rw [← nI_iI]
    refine Run.of rfl ?_
    refine Wp.norm (L' := [_, _]) rfl ?_
    iterate 2 refine W1 rfl ?_
    refine ⟨fun z => absurd z (by decide), fun _ _ => ?_⟩
    show Wp 0 j_Tests_leaf _ _ _ _ _
    repeat (first | (refine W1 rfl ?_; try refine Wp.norm (L' := [_, _]) rfl ?_) | ((first | change (_ → _) ∧ (_ → _) | change vp_in _ _ ∧ _ | change ¬ _ ∧ _); simp (disch := omega) only [nI_clamp, nI_leI, nI_ltI, nI_eq, nI_1, nI_add, nI_not_neg, nI_is_pos, nI_m1, nI_z]) | refine brT (by first | assumption | decide | omega) ?_ | refine brF (by first | assumption | decide | omega) ?_ | refine brTn (by first | assumption | decide | omega) ?_ | refine brFn (by first | assumption | decide | omega) ?_ | refine And.intro (vp_in_nI (by omega) (by decide)) ?_ | refine And.intro (vp_lit (by decide)) ?_ | refine divJ (by decide) ?_ | refine divI (by decide) ?_)
    try change _ ∧ _
    exact ⟨congrArg (fun z => some (Value.int z)) e8, rfl⟩
  · show Run 0 j_Tests_leaf [.int (-4), .int (nI d)] _ (some (.int 1)) _
    refine Run.of rfl ?_
    refine Wp.norm (L' := [_, _]) rfl ?_
    iterate 2 refine W1 rfl ?_
    refine ⟨fun z => absurd z (by decide), fun _ _ => ?_⟩
    show Wp 0 j_Tests_leaf _ _ _ _ _
    repeat (first | (refine W1 rfl ?_; try refine Wp.norm (L' := [_, _]) rfl ?_) | ((first | change (_ → _) ∧ (_ → _) | change vp_in _ _ ∧ _ | change ¬ _ ∧ _); simp (disch := omega) only [nI_clamp, nI_leI, nI_ltI, nI_eq, nI_1, nI_add, nI_not_neg, nI_is_pos, nI_m1, nI_z]) | refine brT (by first | assumption | decide | omega) ?_ | refine brF (by first | assumption | decide | omega) ?_ | refine brTn (by first | assumption | decide | omega) ?_ | refine brFn (by first | assumption | decide | omega) ?_ | refine And.intro (vp_in_nI (by omega) (by decide)) ?_ | refine And.intro (vp_lit (by decide)) ?_ | refine divJ (by decide) ?_ | refine divI (by decide) ?_)
    try change _ ∧ _
    try first | exact ⟨rfl, rfl⟩ | exact ⟨Or.inr rfl, rfl, rfl⟩ | exact ⟨Or.inl rfl, rfl, rfl⟩ | exact ⟨trivial, trivial⟩ | exact ⟨rfl, trivial⟩ | exact ⟨Or.inr rfl, rfl, trivial⟩ | exact ⟨Or.inl rfl, rfl, trivial⟩
/-- the stack -/
def SV : List Int → HP → Prop
  | [], _ => True
  | v :: S, h => h.1 34 S.length = iI v ∧ SV S h
theorem SV.w {k : Nat} {x : Int32} : ∀ {S : List Int}, SV S h → S.length ≤ k → SV S (wI h 34 k x)
  | [], _, _ => trivial
  | v :: S, hS, hk => by
    have hk : S.length + 1 ≤ k := hk
    exact ⟨by rw [wI_ne2 _ _ (by omega)]; exact hS.1, SV.w hS.2 (by omega)⟩
theorem lf_ge {c : Nat} (hc : (1000 ≤ c ∧ c < 11000) ∨ c = 6 ∨ c = 7 ∨ c = 8 ∨ c = 17) : ¬ cvC c < -4 := by
  rcases hc with hc | rfl | rfl | rfl | rfl
  · rw [cv_num hc.1, Int32.lt_iff_toInt_lt, nI_toInt (by omega), show (-4 : Int32).toInt = -4 from rfl]
    omega
  all_goals decide
theorem op_lt {c : Nat} (hc : (1 ≤ c ∧ c ≤ 5) ∨ (11 ≤ c ∧ c ≤ 15)) : cvC c < -4 ∧ ¬ cvC c = -5 := by
  have cc : c = 1 ∨ c = 2 ∨ c = 3 ∨ c = 4 ∨ c = 5 ∨ c = 11 ∨ c = 12 ∨ c = 13 ∨ c = 14 ∨ c = 15 := by omega
  rcases cc with rfl | rfl | rfl | rfl | rfl | rfl | rfl | rfl | rfl | rfl <;> decide
theorem m1p (k : Nat) : nI (k + 1) + (-1) = nI k := by rw [show (-1 : Int32) = -(1 : Int32) from rfl, ← Int32.sub_eq_add_neg]; exact nI_s1 k
theorem ev_fin {d : Nat} {S : List Int} (hv : VT [true] S) : ∃ v, S = [v] ∧ (v = 0 ∨ v = 1) := by
  obtain ⟨v, S', rfl, h1, h2⟩ := hv.ex
  rw [if_pos rfl] at h1
  cases S' with
  | nil => exact ⟨v, rfl, h1⟩
  | cons _ _ => exact False.elim h2
theorem c_isTrue {e d x : Nat} {Q : QT} (hd : d < 200) (hx : x < 60) (he : e ≤ 900) {h0 : HP} : ∀ (R : List Nat) (k : Nat) (B : List Bool) (S : List Int) (g : HP) (st : Int32) (y : Value), (∀ q, q < R.length → g.1 29 (k + q) = cvC (R.getD q 0)) → k + R.length = e → g.1 32 x = nI e → tyC R B = some [true] → VT B S → SV S g → S.length ≤ 60 → onlyJ [34] [] h0 g → (∀ g', onlyJ [34] [] h0 g' → Q (some (.int (bI (decide (evL R d S = [1]))))) g') → Wp 3 j_Tests_isTrue 24 [.ref 28, .int (nI x), .int (nI d), .int (nI S.length), .int st, .int (nI k), y] [] g Q := by
  intro R
  induction R with
  | nil =>
    intro k B S g st y hc hk hE ht hv hS hl O hQ
    have hk : k + 0 = e := hk
    have ht : some B = some [true] := ht
    cases ht
    obtain ⟨v, rfl, h1⟩ := ev_fin (d := d) hv
    have s0 : g.1 34 0 = iI v := hS.1
    have fin1 := hQ g O
    have hke : k = e := by omega
    subst hke
    have e1 : nI (List.length [v]) = 1 := rfl
    rcases h1 with rfl | rfl
    · have fin1 : Q (some (.int 0)) g := fin1
      have s0 : g.1 34 0 = 0 := s0
      show Wp 3 j_Tests_isTrue _ _ _ _ _
      repeat (first | (refine W1 rfl ?_; try refine Wp.norm (L' := [_, _, _, _, _, _, _]) rfl ?_) | ((first | change (_ → _) ∧ (_ → _) | change vp_in _ _ ∧ _ | change ¬ _ ∧ _); simp (disch := omega) only [nI_clamp, nI_leI, nI_ltI, nI_eq, nI_1, nI_add, nI_not_neg, nI_is_pos, nI_m1, nI_z, hE, s0, e1, i32_c0]) | refine brT (by first | assumption | decide | omega) ?_ | refine brF (by first | assumption | decide | omega) ?_ | refine brTn (by first | assumption | decide | omega) ?_ | refine brFn (by first | assumption | decide | omega) ?_ | refine And.intro (vp_in_nI (by omega) (by decide)) ?_ | refine And.intro (vp_lit (by decide)) ?_ | refine divJ (by decide) ?_ | refine divI (by decide) ?_)
      try change _ ∧ _
      exact ⟨Or.inl rfl, fin1⟩
    · have fin1 : Q (some (.int 1)) g := fin1
      have s0 : g.1 34 0 = 1 := s0
      show Wp 3 j_Tests_isTrue _ _ _ _ _
      repeat (first | (refine W1 rfl ?_; try refine Wp.norm (L' := [_, _, _, _, _, _, _]) rfl ?_) | ((first | change (_ → _) ∧ (_ → _) | change vp_in _ _ ∧ _ | change ¬ _ ∧ _); simp (disch := omega) only [nI_clamp, nI_leI, nI_ltI, nI_eq, nI_1, nI_add, nI_not_neg, nI_is_pos, nI_m1, nI_z, hE, s0, e1, i32_c0]) | refine brT (by first | assumption | decide | omega) ?_ | refine brF (by first | assumption | decide | omega) ?_ | refine brTn (by first | assumption | decide | omega) ?_ | refine brFn (by first | assumption | decide | omega) ?_ | refine And.intro (vp_in_nI (by omega) (by decide)) ?_ | refine And.intro (vp_lit (by decide)) ?_ | refine divJ (by decide) ?_ | refine divI (by decide) ?_)
      try change _ ∧ _
      exact ⟨Or.inr rfl, fin1⟩
  | cons c R ih =>
    intro k B S g st y hc hk hE ht hv hS hl O hQ
    have hk : k + (R.length + 1) = e := hk
    have hck : g.1 29 k = cvC c := hc 0 (Nat.succ_pos _)
    have hcn : ∀ (z : Int32) (j q : Nat), q < R.length → (wI g 34 j z).1 29 (k + 1 + q) = cvC (R.getD q 0) := fun z j q hq => by
      rw [wI_ne _ _ _ (by decide), show k + 1 + q = k + (q + 1) by omega]
      exact hc (q + 1) (Nat.succ_lt_succ hq)
    have hEn : ∀ (z : Int32) (j : Nat), (wI g 34 j z).1 32 x = nI e := fun z j => hE
    have ht : (match tyS c B with | none => none | some S' => tyC R S') = some [true] := ht
    cases hB : tyS c B with
    | none => rw [hB] at ht; cases ht
    | some B' =>
      rw [hB] at ht
      have ht2 : tyC R B' = some [true] := ht
      rcases ty_ev hd hB hv with ⟨h1, h2, h3, h4, h5⟩ | ⟨rfl, v, S', rfl, h1, h2, h3⟩ | ⟨h1, u, v, S', rfl, hu, hvv, h2, h3, h4⟩
      · have hge := lf_ge h1
        have rl := r_leaf g h1 hd
        have ih := ih (k + 1) B' (lfE c d :: S) (wI g 34 S.length (iI (lfE c d))) st (.int (cvC c)) (hcn _ _) (by omega) (hEn _ _) ht2 h4 ⟨wI_same _ _ _ _, hS.w (Nat.le_refl _)⟩ (by show S.length + 1 ≤ 60; omega) (O.addI (by decide)) (fun g' O' => by have := hQ g' O'; rw [show evL (c :: R) d S = evL R d (lfE c d :: S) by show evL R d (evS c d S) = _; rw [h2]] at this; exact this)
        have ih : Wp 3 j_Tests_isTrue 24 [.ref 28, .int (nI x), .int (nI d), .int (nI (S.length + 1)), .int st, .int (nI (k + 1)), .int (cvC c)] [] (wI g 34 S.length (iI (lfE c d))) Q := ih
        show Wp 3 j_Tests_isTrue _ _ _ _ _
        (refine W1 rfl ?_; try refine Wp.norm (L' := [_, _, _, _, _, _, _]) rfl ?_)
        repeat (first | (refine W1 rfl ?_; try refine Wp.norm (L' := [_, _, _, _, _, _, _]) rfl ?_) | ((first | change (_ → _) ∧ (_ → _) | change vp_in _ _ ∧ _ | change ¬ _ ∧ _); simp (disch := omega) only [nI_clamp, nI_leI, nI_ltI, nI_eq, nI_1, nI_add, nI_not_neg, nI_is_pos, nI_m1, nI_z, hE, hck, show (64 : Int32) = nI 64 from rfl]) | refine brT (by first | assumption | decide | omega) ?_ | refine brF (by first | assumption | decide | omega) ?_ | refine brTn (by first | assumption | decide | omega) ?_ | refine brFn (by first | assumption | decide | omega) ?_ | refine And.intro (vp_in_nI (by omega) (by decide)) ?_ | refine And.intro (vp_lit (by decide)) ?_ | refine divJ (by decide) ?_ | refine divI (by decide) ?_)
        try change _ ∧ _
        refine Cl.of rl (by decide) ?_
        show Wp 3 j_Tests_isTrue _ _ _ _ _
        repeat (first | refine Wp.at ih rfl rfl ?_ rfl | (refine W1 rfl ?_; try refine Wp.norm (L' := [_, _, _, _, _, _, _]) rfl ?_) | ((first | change (_ → _) ∧ (_ → _) | change vp_in _ _ ∧ _ | change ¬ _ ∧ _); simp (disch := omega) only [nI_clamp, nI_leI, nI_ltI, nI_eq, nI_1, nI_add, nI_not_neg, nI_is_pos, nI_m1, nI_z]) | refine brT (by first | assumption | decide | omega) ?_ | refine brF (by first | assumption | decide | omega) ?_ | refine brTn (by first | assumption | decide | omega) ?_ | refine brFn (by first | assumption | decide | omega) ?_ | refine And.intro (vp_in_nI (by omega) (by decide)) ?_ | refine And.intro (vp_lit (by decide)) ?_ | refine divJ (by decide) ?_ | refine divI (by decide) ?_)
        try change _ ∧ _
        first | done | rfl | (simp (disch := omega) only [nI_1, nI_add, nI_clamp] <;> first | done | rfl)
      · have s0 : g.1 34 S'.length = iI v := hS.1
        have hck : g.1 29 k = -5 := hck
        have e1 : (1 : Int32) - iI v = iI (1 - v) := q_sub bE_1 (b01 h1) (b01 (by omega))
        have ih := ih (k + 1) B' ((1 - v) :: S') (wI g 34 S'.length (iI (1 - v))) st (.int (-5)) (hcn _ _) (by omega) (hEn _ _) ht2 h3 ⟨wI_same _ _ _ _, hS.2.w (Nat.le_refl _)⟩ hl (O.addI (by decide)) (fun g' O' => by have := hQ g' O'; rw [show evL (16 :: R) d (v :: S') = evL R d ((1 - v) :: S') by show evL R d (evS 16 d (v :: S')) = _; rw [h2]] at this; exact this)
        have ih : Wp 3 j_Tests_isTrue 24 [.ref 28, .int (nI x), .int (nI d), .int (nI (S'.length + 1)), .int st, .int (nI (k + 1)), .int (-5)] [] (wI g 34 S'.length (iI (1 - v))) Q := ih
        have hl : S'.length + 1 ≤ 60 := hl
        have hp : ¬ nI (S'.length + 1) ≤ 0 := fun z => by
          rw [show (0 : Int32) = nI 0 from rfl, nI_leI (by omega) (by decide)] at z
          omega
        show Wp 3 j_Tests_isTrue 24 [.ref 28, .int (nI x), .int (nI d), .int (nI (S'.length + 1)), .int st, .int (nI k), y] [] g Q
        (refine W1 rfl ?_; try refine Wp.norm (L' := [_, _, _, _, _, _, _]) rfl ?_)
        repeat (first | refine Wp.at ih rfl rfl ?_ ?_ | (refine W1 rfl ?_; try refine Wp.norm (L' := [_, _, _, _, _, _, _]) rfl ?_) | ((first | change (_ → _) ∧ (_ → _) | change vp_in _ _ ∧ _ | change ¬ _ ∧ _); simp (disch := omega) only [nI_clamp, nI_leI, nI_ltI, nI_eq, nI_1, nI_add, nI_not_neg, nI_is_pos, nI_m1, nI_z, hE, hck, nI_s1, s0, e1]) | refine brT (by first | assumption | decide | omega) ?_ | refine brF (by first | assumption | decide | omega) ?_ | refine brTn (by first | assumption | decide | omega) ?_ | refine brFn (by first | assumption | decide | omega) ?_ | refine And.intro (vp_in_nI (by omega) (by decide)) ?_ | refine And.intro (vp_lit (by decide)) ?_ | refine divJ (by decide) ?_ | refine divI (by decide) ?_)
        try change _ ∧ _
        · first | done | rfl | (simp (disch := omega) only [nI_1, nI_add, nI_clamp] <;> first | done | rfl)
        · first | done | rfl | (simp (disch := omega) only [nI_1, nI_add, nI_clamp, s0, e1, nI_s1] <;> first | done | rfl)
      · obtain ⟨hlt, hn5⟩ := op_lt h1
        have s0 : g.1 34 (S'.length + 1) = iI v := hS.1
        have s1 : g.1 34 S'.length = iI u := hS.2.1
        have hl : S'.length + 1 + 1 ≤ 60 := hl
        have rj := r_joined g h1 hu hvv h2
        have hp : ¬ nI (S'.length + 1 + 1) ≤ 1 := fun z => by
          rw [show (1 : Int32) = nI 1 from rfl, nI_leI (by omega) (by decide)] at z
          omega
        have ih := ih (k + 1) B' (opE c u v :: S') (wI g 34 S'.length (iI (opE c u v))) st (.int (cvC c)) (hcn _ _) (by omega) (hEn _ _) ht2 h4 ⟨wI_same _ _ _ _, hS.2.2.w (Nat.le_refl _)⟩ (by show S'.length + 1 ≤ 60; omega) (O.addI (by decide)) (fun g' O' => by have := hQ g' O'; rw [show evL (c :: R) d (v :: u :: S') = evL R d (opE c u v :: S') by show evL R d (evS c d (v :: u :: S')) = _; rw [h3]] at this; exact this)
        have ih : Wp 3 j_Tests_isTrue 24 [.ref 28, .int (nI x), .int (nI d), .int (nI (S'.length + 1)), .int st, .int (nI (k + 1)), .int (cvC c)] [] (wI g 34 S'.length (iI (opE c u v))) Q := ih
        show Wp 3 j_Tests_isTrue 24 [.ref 28, .int (nI x), .int (nI d), .int (nI (S'.length + 1 + 1)), .int st, .int (nI k), y] [] g Q
        (refine W1 rfl ?_; try refine Wp.norm (L' := [_, _, _, _, _, _, _]) rfl ?_)
        repeat (first | (refine W1 rfl ?_; try refine Wp.norm (L' := [_, _, _, _, _, _, _]) rfl ?_) | ((first | change (_ → _) ∧ (_ → _) | change vp_in _ _ ∧ _ | change ¬ _ ∧ _); simp (disch := omega) only [nI_clamp, nI_leI, nI_ltI, nI_eq, nI_1, nI_add, nI_not_neg, nI_is_pos, nI_m1, nI_z, hE, hck, m1p, nI_s1, s0, s1]) | refine brT (by first | assumption | decide | omega) ?_ | refine brF (by first | assumption | decide | omega) ?_ | refine brTn (by first | assumption | decide | omega) ?_ | refine brFn (by first | assumption | decide | omega) ?_ | refine And.intro (vp_in_nI (by omega) (by decide)) ?_ | refine And.intro (vp_lit (by decide)) ?_ | refine divJ (by decide) ?_ | refine divI (by decide) ?_)
        try change _ ∧ _
        refine Cl.ofA rj (by first | done | rfl | (simp (disch := omega) only [nI_1, nI_add, nI_clamp, s0, s1, m1p, nI_s1] <;> first | done | rfl)) (by decide) ?_
        show Wp 3 j_Tests_isTrue _ _ _ _ _
        repeat (first | refine Wp.at ih rfl rfl ?_ rfl | (refine W1 rfl ?_; try refine Wp.norm (L' := [_, _, _, _, _, _, _]) rfl ?_) | ((first | change (_ → _) ∧ (_ → _) | change vp_in _ _ ∧ _ | change ¬ _ ∧ _); simp (disch := omega) only [nI_clamp, nI_leI, nI_ltI, nI_eq, nI_1, nI_add, nI_not_neg, nI_is_pos, nI_m1, nI_z, m1p, nI_s1]) | refine brT (by first | assumption | decide | omega) ?_ | refine brF (by first | assumption | decide | omega) ?_ | refine brTn (by first | assumption | decide | omega) ?_ | refine brFn (by first | assumption | decide | omega) ?_ | refine And.intro (vp_in_nI (by omega) (by decide)) ?_ | refine And.intro (vp_lit (by decide)) ?_ | refine divJ (by decide) ?_ | refine divI (by decide) ?_)
        try change _ ∧ _
        first | done | rfl | (simp (disch := omega) only [nI_1, nI_add, nI_clamp, m1p, nI_s1] <;> first | done | rfl)
end CTS3
