/-! ===== OWES; IMAGES ===== -/
section OWE
variable {s : ST} {c v : RT} {h : HP}
def owC (c v : RT) (a b : Int32) (n : Nat) : Nat := cnt (fun t => v t = a ∧ c t = b) n
theorem r_Rota_servedInstead (R : RC s c v h) (o : OK s) (a b : Int32) : Run 0 j_Rota_servedInstead [.ref 45, .int a, .int b] h (some (.int (nI (owC c v a b (zT s))))) h := by
  have hT := o.T; have hP := o.P; have hK := o.K; have hD := o.D; have hO := o.O; have hQ := o.Q; have hL := o.L
  refine Run.of rfl ?_
  refine Wp.norm (L' := [_, _, _, _, _]) rfl ?_
  have lp : ∀ i, i ≤ zT s → Wp 0 j_Rota_servedInstead 5 [.ref 45, .int a, .int b, .int (nI (owC c v a b i)), .int (nI i)] [] h (fun v' h2 => v' = some (.int (nI (owC c v a b (zT s)))) ∧ h2 = h) := by
    refine up_ind ?_ (fun i hi ih => ?_)
    · repeat (first | (refine W1 rfl ?_; try refine Wp.norm (L' := [_, _, _, _, _]) rfl ?_) | refine brT (by first | decide | omega) ?_ | refine brF (by first | decide | omega) ?_ | refine brTn (by first | decide | omega) ?_ | refine brFn (by first | decide | omega) ?_ | refine And.intro (vp_lit (by decide)) ?_ | refine And.intro (vp_in_nI (by omega) (by decide)) ?_ | ((first | change (_ → _) ∧ (_ → _) | change vp_in _ _ ∧ _ | change ¬ _ ∧ _); simp (disch := omega) only [nI_clamp, nI_leI, nI_ltI, nI_eq, nI_1, nI_add, nI_not_neg, nI_is_pos, nI_m1, nI_z, R.T]))
      try change _ ∧ _
      try first | exact ⟨rfl, rfl⟩ | exact ⟨Or.inr rfl, rfl, rfl⟩ | exact ⟨Or.inl rfl, rfl, rfl⟩ | exact ⟨trivial, trivial⟩ | exact ⟨rfl, trivial⟩ | exact ⟨Or.inr rfl, rfl, trivial⟩ | exact ⟨Or.inl rfl, rfl, trivial⟩
    · have e : owC c v a b (i + 1) = owC c v a b i + (if v i = a ∧ c i = b then 1 else 0) := rfl
      rw [e] at ih
      repeat (first | (refine W1 rfl ?_; try refine Wp.norm (L' := [_, _, _, _, _]) rfl ?_) | refine brT (by first | decide | omega) ?_ | refine brF (by first | decide | omega) ?_ | refine brTn (by first | decide | omega) ?_ | refine brFn (by first | decide | omega) ?_ | refine And.intro (vp_lit (by decide)) ?_ | refine And.intro (vp_in_nI (by omega) (by decide)) ?_ | ((first | change (_ → _) ∧ (_ → _) | change vp_in _ _ ∧ _ | change ¬ _ ∧ _); simp (disch := omega) only [nI_clamp, nI_leI, nI_ltI, nI_eq, nI_1, nI_add, nI_not_neg, nI_is_pos, nI_m1, nI_z, R.T, R.srv, R.cts]))
      try change _ ∧ _
      refine ⟨fun hc => ?_, fun hc => ?_⟩
      · rw [if_neg (fun z => hc z.1)] at ih
        repeat (first | refine Wp.at ih rfl rfl ?_ rfl | (refine W1 rfl ?_; try refine Wp.norm (L' := [_, _, _, _, _]) rfl ?_) | refine brT (by first | decide | omega) ?_ | refine brF (by first | decide | omega) ?_ | refine brTn (by first | decide | omega) ?_ | refine brFn (by first | decide | omega) ?_ | refine And.intro (vp_lit (by decide)) ?_ | refine And.intro (vp_in_nI (by omega) (by decide)) ?_ | ((first | change (_ → _) ∧ (_ → _) | change vp_in _ _ ∧ _ | change ¬ _ ∧ _); simp (disch := omega) only [nI_clamp, nI_leI, nI_ltI, nI_eq, nI_1, nI_add, nI_not_neg, nI_is_pos, nI_m1, nI_z]))
        try change _ ∧ _
        first | rfl | (simp (disch := omega) only [nI_1, nI_add, nI_clamp] <;> first | done | rfl)
      · repeat (first | (refine W1 rfl ?_; try refine Wp.norm (L' := [_, _, _, _, _]) rfl ?_) | refine brT (by first | decide | omega) ?_ | refine brF (by first | decide | omega) ?_ | refine brTn (by first | decide | omega) ?_ | refine brFn (by first | decide | omega) ?_ | refine And.intro (vp_lit (by decide)) ?_ | refine And.intro (vp_in_nI (by omega) (by decide)) ?_ | ((first | change (_ → _) ∧ (_ → _) | change vp_in _ _ ∧ _ | change ¬ _ ∧ _); simp (disch := omega) only [nI_clamp, nI_leI, nI_ltI, nI_eq, nI_1, nI_add, nI_not_neg, nI_is_pos, nI_m1, nI_z, R.srv, R.cts]))
        try change _ ∧ _
        refine ⟨fun hc2 => ?_, fun hc2 => ?_⟩
        · rw [if_neg (fun z => hc2 z.2)] at ih
          repeat (first | refine Wp.at ih rfl rfl ?_ rfl | (refine W1 rfl ?_; try refine Wp.norm (L' := [_, _, _, _, _]) rfl ?_) | refine brT (by first | decide | omega) ?_ | refine brF (by first | decide | omega) ?_ | refine brTn (by first | decide | omega) ?_ | refine brFn (by first | decide | omega) ?_ | refine And.intro (vp_lit (by decide)) ?_ | refine And.intro (vp_in_nI (by omega) (by decide)) ?_ | ((first | change (_ → _) ∧ (_ → _) | change vp_in _ _ ∧ _ | change ¬ _ ∧ _); simp (disch := omega) only [nI_clamp, nI_leI, nI_ltI, nI_eq, nI_1, nI_add, nI_not_neg, nI_is_pos, nI_m1, nI_z]))
          try change _ ∧ _
          first | rfl | (simp (disch := omega) only [nI_1, nI_add, nI_clamp] <;> first | done | rfl)
        · rw [if_pos ⟨hc, hc2⟩] at ih
          repeat (first | refine Wp.at ih rfl rfl ?_ rfl | (refine W1 rfl ?_; try refine Wp.norm (L' := [_, _, _, _, _]) rfl ?_) | refine brT (by first | decide | omega) ?_ | refine brF (by first | decide | omega) ?_ | refine brTn (by first | decide | omega) ?_ | refine brFn (by first | decide | omega) ?_ | refine And.intro (vp_lit (by decide)) ?_ | refine And.intro (vp_in_nI (by omega) (by decide)) ?_ | ((first | change (_ → _) ∧ (_ → _) | change vp_in _ _ ∧ _ | change ¬ _ ∧ _); simp (disch := omega) only [nI_clamp, nI_leI, nI_ltI, nI_eq, nI_1, nI_add, nI_not_neg, nI_is_pos, nI_m1, nI_z]))
          try change _ ∧ _
          first | rfl | (simp (disch := omega) only [nI_1, nI_add, nI_clamp] <;> first | done | rfl)
  have ih := lp 0 (Nat.zero_le _)
  repeat (first | refine Wp.at ih rfl rfl ?_ rfl | (refine W1 rfl ?_; try refine Wp.norm (L' := [_, _, _, _, _]) rfl ?_) | refine brT (by first | decide | omega) ?_ | refine brF (by first | decide | omega) ?_ | refine brTn (by first | decide | omega) ?_ | refine brFn (by first | decide | omega) ?_ | refine And.intro (vp_lit (by decide)) ?_ | refine And.intro (vp_in_nI (by omega) (by decide)) ?_ | ((first | change (_ → _) ∧ (_ → _) | change vp_in _ _ ∧ _ | change ¬ _ ∧ _); simp (disch := omega) only [nI_clamp, nI_leI, nI_ltI, nI_eq, nI_1, nI_add, nI_not_neg, nI_is_pos, nI_m1, nI_z]))
  try change _ ∧ _
  first | rfl | (simp (disch := omega) only [nI_1, nI_add, nI_clamp] <;> first | done | rfl)
theorem r_E_owes (R : RC s c v h) (o : OK s) {a b : Nat} (ha : a < zP s) (hb : b < zP s) : Run 1 j_E_owes [.ref 0, .int (nI a), .int (nI b)] h (some (.int (nI (owC c v (nI b) (nI a) (zT s)) - nI (owC c v (nI a) (nI b) (zT s))))) h := by
  refine Run.of rfl ?_
  refine Wp.norm (L' := [_, _, _]) rfl ?_
  repeat (first | (refine W1 rfl ?_; try refine Wp.norm (L' := [_, _, _]) rfl ?_) | refine brT (by first | decide | omega) ?_ | refine brF (by first | decide | omega) ?_ | refine brTn (by first | decide | omega) ?_ | refine brFn (by first | decide | omega) ?_ | refine And.intro (vp_lit (by decide)) ?_ | refine And.intro (vp_in_nI (by omega) (by decide)) ?_ | ((first | change (_ → _) ∧ (_ → _) | change vp_in _ _ ∧ _ | change ¬ _ ∧ _); simp (disch := omega) only [nI_clamp, nI_leI, nI_ltI, nI_eq, nI_1, nI_add, nI_not_neg, nI_is_pos, nI_m1, nI_z]))
  try change _ ∧ _
  refine Cl.of (g_EP R o ha) (by decide) ?_
  repeat (first | (refine W1 rfl ?_; try refine Wp.norm (L' := [_, _, _]) rfl ?_) | refine brT (by first | decide | omega) ?_ | refine brF (by first | decide | omega) ?_ | refine brTn (by first | decide | omega) ?_ | refine brFn (by first | decide | omega) ?_ | refine And.intro (vp_lit (by decide)) ?_ | refine And.intro (vp_in_nI (by omega) (by decide)) ?_ | ((first | change (_ → _) ∧ (_ → _) | change vp_in _ _ ∧ _ | change ¬ _ ∧ _); simp (disch := omega) only [nI_clamp, nI_leI, nI_ltI, nI_eq, nI_1, nI_add, nI_not_neg, nI_is_pos, nI_m1, nI_z]))
  try change _ ∧ _
  refine Cl.of (g_EP R o hb) (by decide) ?_
  repeat (first | (refine W1 rfl ?_; try refine Wp.norm (L' := [_, _, _]) rfl ?_) | refine brT (by first | decide | omega) ?_ | refine brF (by first | decide | omega) ?_ | refine brTn (by first | decide | omega) ?_ | refine brFn (by first | decide | omega) ?_ | refine And.intro (vp_lit (by decide)) ?_ | refine And.intro (vp_in_nI (by omega) (by decide)) ?_ | ((first | change (_ → _) ∧ (_ → _) | change vp_in _ _ ∧ _ | change ¬ _ ∧ _); simp (disch := omega) only [nI_clamp, nI_leI, nI_ltI, nI_eq, nI_1, nI_add, nI_not_neg, nI_is_pos, nI_m1, nI_z]))
  try change _ ∧ _
  refine Cl.of (r_Rota_servedInstead R o _ _) (by decide) ?_
  repeat (first | (refine W1 rfl ?_; try refine Wp.norm (L' := [_, _, _]) rfl ?_) | refine brT (by first | decide | omega) ?_ | refine brF (by first | decide | omega) ?_ | refine brTn (by first | decide | omega) ?_ | refine brFn (by first | decide | omega) ?_ | refine And.intro (vp_lit (by decide)) ?_ | refine And.intro (vp_in_nI (by omega) (by decide)) ?_ | ((first | change (_ → _) ∧ (_ → _) | change vp_in _ _ ∧ _ | change ¬ _ ∧ _); simp (disch := omega) only [nI_clamp, nI_leI, nI_ltI, nI_eq, nI_1, nI_add, nI_not_neg, nI_is_pos, nI_m1, nI_z]))
  try change _ ∧ _
  refine Cl.of (r_Rota_servedInstead R o _ _) (by decide) ?_
  repeat (first | (refine W1 rfl ?_; try refine Wp.norm (L' := [_, _, _]) rfl ?_) | refine brT (by first | decide | omega) ?_ | refine brF (by first | decide | omega) ?_ | refine brTn (by first | decide | omega) ?_ | refine brFn (by first | decide | omega) ?_ | refine And.intro (vp_lit (by decide)) ?_ | refine And.intro (vp_in_nI (by omega) (by decide)) ?_ | ((first | change (_ → _) ∧ (_ → _) | change vp_in _ _ ∧ _ | change ¬ _ ∧ _); simp (disch := omega) only [nI_clamp, nI_leI, nI_ltI, nI_eq, nI_1, nI_add, nI_not_neg, nI_is_pos, nI_m1, nI_z]))
  try change _ ∧ _
  try first | exact ⟨rfl, rfl⟩ | exact ⟨Or.inr rfl, rfl, rfl⟩ | exact ⟨Or.inl rfl, rfl, rfl⟩ | exact ⟨trivial, trivial⟩ | exact ⟨rfl, trivial⟩ | exact ⟨Or.inr rfl, rfl, trivial⟩ | exact ⟨Or.inl rfl, rfl, trivial⟩
theorem r_E_owesN (R : RC s c v h) (o : OK s) {x y : Int32} (hb : ¬ (0 ≤ x ∧ x < nI (zP s)) ∨ ¬ (0 ≤ y ∧ y < nI (zP s))) : Run 1 j_E_owes [.ref 0, .int x, .int y] h (some (.int (-1000000000))) h := by
  have hT := o.T; have hP := o.P; have hK := o.K; have hD := o.D; have hO := o.O; have hQ := o.Q; have hL := o.L
  refine Run.of rfl ?_
  refine Wp.norm (L' := [_, _, _]) rfl ?_
  repeat (first | (refine W1 rfl ?_; try refine Wp.norm (L' := [_, _, _]) rfl ?_) | refine brT (by first | decide | omega) ?_ | refine brF (by first | decide | omega) ?_ | refine brTn (by first | decide | omega) ?_ | refine brFn (by first | decide | omega) ?_ | refine And.intro (vp_lit (by decide)) ?_ | refine And.intro (vp_in_nI (by omega) (by decide)) ?_ | ((first | change (_ → _) ∧ (_ → _) | change vp_in _ _ ∧ _ | change ¬ _ ∧ _); simp (disch := omega) only [nI_clamp, nI_leI, nI_ltI, nI_eq, nI_1, nI_add, nI_not_neg, nI_is_pos, nI_m1, nI_z]))
  try change _ ∧ _
  rcases ix_cases x (n := zP s) (by omega) with ⟨p, hp, rfl⟩ | hx
  · refine Cl.of (g_EP R o hp) (by decide) ?_
    repeat (first | (refine W1 rfl ?_; try refine Wp.norm (L' := [_, _, _]) rfl ?_) | refine brT (by first | decide | omega) ?_ | refine brF (by first | decide | omega) ?_ | refine brTn (by first | decide | omega) ?_ | refine brFn (by first | decide | omega) ?_ | refine And.intro (vp_lit (by decide)) ?_ | refine And.intro (vp_in_nI (by omega) (by decide)) ?_ | ((first | change (_ → _) ∧ (_ → _) | change vp_in _ _ ∧ _ | change ¬ _ ∧ _); simp (disch := omega) only [nI_clamp, nI_leI, nI_ltI, nI_eq, nI_1, nI_add, nI_not_neg, nI_is_pos, nI_m1, nI_z]))
    try change _ ∧ _
    refine Cl.of (g_EPn R (hb.resolve_left (fun z => z (ix_ok hp (by omega))))) (by decide) ?_
    repeat (first | (refine W1 rfl ?_; try refine Wp.norm (L' := [_, _, _]) rfl ?_) | refine brT (by first | decide | omega) ?_ | refine brF (by first | decide | omega) ?_ | refine brTn (by first | decide | omega) ?_ | refine brFn (by first | decide | omega) ?_ | refine And.intro (vp_lit (by decide)) ?_ | refine And.intro (vp_in_nI (by omega) (by decide)) ?_ | ((first | change (_ → _) ∧ (_ → _) | change vp_in _ _ ∧ _ | change ¬ _ ∧ _); simp (disch := omega) only [nI_clamp, nI_leI, nI_ltI, nI_eq, nI_1, nI_add, nI_not_neg, nI_is_pos, nI_m1, nI_z]))
    try change _ ∧ _
    try first | exact ⟨rfl, rfl⟩ | exact ⟨Or.inr rfl, rfl, rfl⟩ | exact ⟨Or.inl rfl, rfl, rfl⟩ | exact ⟨trivial, trivial⟩ | exact ⟨rfl, trivial⟩ | exact ⟨Or.inr rfl, rfl, trivial⟩ | exact ⟨Or.inl rfl, rfl, trivial⟩
  · refine Cl.of (g_EPn R hx) (by decide) ?_
    repeat (first | (refine W1 rfl ?_; try refine Wp.norm (L' := [_, _, _]) rfl ?_) | refine brT (by first | decide | omega) ?_ | refine brF (by first | decide | omega) ?_ | refine brTn (by first | decide | omega) ?_ | refine brFn (by first | decide | omega) ?_ | refine And.intro (vp_lit (by decide)) ?_ | refine And.intro (vp_in_nI (by omega) (by decide)) ?_ | ((first | change (_ → _) ∧ (_ → _) | change vp_in _ _ ∧ _ | change ¬ _ ∧ _); simp (disch := omega) only [nI_clamp, nI_leI, nI_ltI, nI_eq, nI_1, nI_add, nI_not_neg, nI_is_pos, nI_m1, nI_z]))
    try change _ ∧ _
    try first | exact ⟨rfl, rfl⟩ | exact ⟨Or.inr rfl, rfl, rfl⟩ | exact ⟨Or.inl rfl, rfl, rfl⟩ | exact ⟨trivial, trivial⟩ | exact ⟨rfl, trivial⟩ | exact ⟨Or.inr rfl, rfl, trivial⟩ | exact ⟨Or.inl rfl, rfl, trivial⟩
theorem r_M_owesN (R : RM s c v h) (o : OK s) {x y : Int32} (hb : ¬ (0 ≤ x ∧ x < nI (zP s)) ∨ ¬ (0 ≤ y ∧ y < nI (zP s))) : Run 2 j_M_owes [.ref 65, .int x, .int y] h (some (.int (-1000000000))) h := by
  have hT := o.T; have hP := o.P; have hK := o.K; have hD := o.D; have hO := o.O; have hQ := o.Q; have hL := o.L
  refine Run.of rfl ?_
  refine Wp.norm (L' := [_, _, _, _, _]) rfl ?_
  repeat (first | (refine W1 rfl ?_; try refine Wp.norm (L' := [_, _, _, _, _]) rfl ?_) | refine brT (by first | decide | omega) ?_ | refine brF (by first | decide | omega) ?_ | refine brTn (by first | decide | omega) ?_ | refine brFn (by first | decide | omega) ?_ | refine And.intro (vp_lit (by decide)) ?_ | refine And.intro (vp_in_nI (by omega) (by decide)) ?_ | ((first | change (_ → _) ∧ (_ → _) | change vp_in _ _ ∧ _ | change ¬ _ ∧ _); simp (disch := omega) only [nI_clamp, nI_leI, nI_ltI, nI_eq, nI_1, nI_add, nI_not_neg, nI_is_pos, nI_m1, nI_z]))
  try change _ ∧ _
  rcases ix_cases x (n := zP s) (by omega) with ⟨p, hp, rfl⟩ | hx
  · refine Cl.of (g_MP R o hp) (by decide) ?_
    repeat (first | (refine W1 rfl ?_; try refine Wp.norm (L' := [_, _, _, _, _]) rfl ?_) | refine brT (by first | decide | omega) ?_ | refine brF (by first | decide | omega) ?_ | refine brTn (by first | decide | omega) ?_ | refine brFn (by first | decide | omega) ?_ | refine And.intro (vp_lit (by decide)) ?_ | refine And.intro (vp_in_nI (by omega) (by decide)) ?_ | ((first | change (_ → _) ∧ (_ → _) | change vp_in _ _ ∧ _ | change ¬ _ ∧ _); simp (disch := omega) only [nI_clamp, nI_leI, nI_ltI, nI_eq, nI_1, nI_add, nI_not_neg, nI_is_pos, nI_m1, nI_z]))
    try change _ ∧ _
    refine Cl.of (g_MPn R o (hb.resolve_left (fun z => z (ix_ok hp (by omega))))) (by decide) ?_
    repeat (first | (refine W1 rfl ?_; try refine Wp.norm (L' := [_, _, _, _, _]) rfl ?_) | refine brT (by first | decide | omega) ?_ | refine brF (by first | decide | omega) ?_ | refine brTn (by first | decide | omega) ?_ | refine brFn (by first | decide | omega) ?_ | refine And.intro (vp_lit (by decide)) ?_ | refine And.intro (vp_in_nI (by omega) (by decide)) ?_ | ((first | change (_ → _) ∧ (_ → _) | change vp_in _ _ ∧ _ | change ¬ _ ∧ _); simp (disch := omega) only [nI_clamp, nI_leI, nI_ltI, nI_eq, nI_1, nI_add, nI_not_neg, nI_is_pos, nI_m1, nI_z]))
    try change _ ∧ _
    try first | exact ⟨rfl, rfl⟩ | exact ⟨Or.inr rfl, rfl, rfl⟩ | exact ⟨Or.inl rfl, rfl, rfl⟩ | exact ⟨trivial, trivial⟩ | exact ⟨rfl, trivial⟩ | exact ⟨Or.inr rfl, rfl, trivial⟩ | exact ⟨Or.inl rfl, rfl, trivial⟩
  · refine Cl.of (g_MPn R o hx) (by decide) ?_
    repeat (first | (refine W1 rfl ?_; try refine Wp.norm (L' := [_, _, _, _, _]) rfl ?_) | refine brT (by first | decide | omega) ?_ | refine brF (by first | decide | omega) ?_ | refine brTn (by first | decide | omega) ?_ | refine brFn (by first | decide | omega) ?_ | refine And.intro (vp_lit (by decide)) ?_ | refine And.intro (vp_in_nI (by omega) (by decide)) ?_ | ((first | change (_ → _) ∧ (_ → _) | change vp_in _ _ ∧ _ | change ¬ _ ∧ _); simp (disch := omega) only [nI_clamp, nI_leI, nI_ltI, nI_eq, nI_1, nI_add, nI_not_neg, nI_is_pos, nI_m1, nI_z]))
    try change _ ∧ _
    try first | exact ⟨rfl, rfl⟩ | exact ⟨Or.inr rfl, rfl, rfl⟩ | exact ⟨Or.inl rfl, rfl, rfl⟩ | exact ⟨trivial, trivial⟩ | exact ⟨rfl, trivial⟩ | exact ⟨Or.inr rfl, rfl, trivial⟩ | exact ⟨Or.inl rfl, rfl, trivial⟩
theorem i32_up (a b : Nat) : nI a - nI b + 1 = nI (a + 1) - nI b := by rw [nI_succ, Int32.sub_eq_add_neg, Int32.sub_eq_add_neg, Int32.add_assoc, Int32.add_comm (-nI b) 1, ← Int32.add_assoc]
theorem i32_dn (a b : Nat) : nI a - nI b + (-1) = nI a - nI (b + 1) := by rw [nI_succ, Int32.sub_eq_add_neg, Int32.sub_eq_add_neg, Int32.neg_add, Int32.add_assoc, Int32.sub_eq_add_neg]
theorem r_M_owes (R : RM s c v h) (o : OK s) {a b : Nat} (ha : a < zP s) (hb : b < zP s) : Run 2 j_M_owes [.ref 65, .int (nI a), .int (nI b)] h (some (.int (nI (owC c v (nI b) (nI a) (zT s)) - nI (owC c v (nI a) (nI b) (zT s))))) h := by
  have hT := o.T; have hP := o.P; have hK := o.K; have hD := o.D; have hO := o.O; have hQ := o.Q; have hL := o.L
  have lp : ∀ i, i ≤ zT s → Wp 2 j_M_owes 25 [.ref 65, .int (nI a), .int (nI b), .int (nI (owC c v (nI b) (nI a) i) - nI (owC c v (nI a) (nI b) i)), .int (nI i)] [] h (fun v' h2 => v' = some (.int (nI (owC c v (nI b) (nI a) (zT s)) - nI (owC c v (nI a) (nI b) (zT s)))) ∧ h2 = h) := by
    refine up_ind ?_ (fun i hi ih => ?_)
    · repeat (first | (refine W1 rfl ?_; try refine Wp.norm (L' := [_, _, _, _, _]) rfl ?_) | refine brT (by first | decide | omega) ?_ | refine brF (by first | decide | omega) ?_ | refine brTn (by first | decide | omega) ?_ | refine brFn (by first | decide | omega) ?_ | refine And.intro (vp_lit (by decide)) ?_ | refine And.intro (vp_in_nI (by omega) (by decide)) ?_ | ((first | change (_ → _) ∧ (_ → _) | change vp_in _ _ ∧ _ | change ¬ _ ∧ _); simp (disch := omega) only [nI_clamp, nI_leI, nI_ltI, nI_eq, nI_1, nI_add, nI_not_neg, nI_is_pos, nI_m1, nI_z, R.T]))
      try change _ ∧ _
      try first | exact ⟨rfl, rfl⟩ | exact ⟨Or.inr rfl, rfl, rfl⟩ | exact ⟨Or.inl rfl, rfl, rfl⟩ | exact ⟨trivial, trivial⟩ | exact ⟨rfl, trivial⟩ | exact ⟨Or.inr rfl, rfl, trivial⟩ | exact ⟨Or.inl rfl, rfl, trivial⟩
    · have e : ∀ x y, owC c v x y (i + 1) = owC c v x y i + (if v i = x ∧ c i = y then 1 else 0) := fun _ _ => rfl
      rw [e, e] at ih
      have snd : ∀ z, (z = nI (owC c v (nI b) (nI a) i + (if v i = nI b ∧ c i = nI a then 1 else 0)) - nI (owC c v (nI a) (nI b) i)) → Wp 2 j_M_owes 59 [.ref 65, .int (nI a), .int (nI b), .int z, .int (nI i)] [] h (fun v' h2 => v' = some (.int (nI (owC c v (nI b) (nI a) (zT s)) - nI (owC c v (nI a) (nI b) (zT s)))) ∧ h2 = h) := by
        intro z hz
        subst hz
        repeat (first | (refine W1 rfl ?_; try refine Wp.norm (L' := [_, _, _, _, _]) rfl ?_) | refine brT (by first | decide | omega) ?_ | refine brF (by first | decide | omega) ?_ | refine brTn (by first | decide | omega) ?_ | refine brFn (by first | decide | omega) ?_ | refine And.intro (vp_lit (by decide)) ?_ | refine And.intro (vp_in_nI (by omega) (by decide)) ?_ | ((first | change (_ → _) ∧ (_ → _) | change vp_in _ _ ∧ _ | change ¬ _ ∧ _); simp (disch := omega) only [nI_clamp, nI_leI, nI_ltI, nI_eq, nI_1, nI_add, nI_not_neg, nI_is_pos, nI_m1, nI_z, R.srv, R.cts]))
        try change _ ∧ _
        refine ⟨fun hc => ?_, fun hc => ?_⟩
        · rw [if_neg (show ¬ (v i = nI a ∧ c i = nI b) from fun z => hc z.2)] at ih
          repeat (first | refine Wp.at ih rfl rfl ?_ rfl | (refine W1 rfl ?_; try refine Wp.norm (L' := [_, _, _, _, _]) rfl ?_) | refine brT (by first | decide | omega) ?_ | refine brF (by first | decide | omega) ?_ | refine brTn (by first | decide | omega) ?_ | refine brFn (by first | decide | omega) ?_ | refine And.intro (vp_lit (by decide)) ?_ | refine And.intro (vp_in_nI (by omega) (by decide)) ?_ | ((first | change (_ → _) ∧ (_ → _) | change vp_in _ _ ∧ _ | change ¬ _ ∧ _); simp (disch := omega) only [nI_clamp, nI_leI, nI_ltI, nI_eq, nI_1, nI_add, nI_not_neg, nI_is_pos, nI_m1, nI_z]))
          try change _ ∧ _
          first | rfl | (simp (disch := omega) only [nI_1, nI_add, nI_clamp] <;> first | done | rfl)
        · repeat (first | (refine W1 rfl ?_; try refine Wp.norm (L' := [_, _, _, _, _]) rfl ?_) | refine brT (by first | decide | omega) ?_ | refine brF (by first | decide | omega) ?_ | refine brTn (by first | decide | omega) ?_ | refine brFn (by first | decide | omega) ?_ | refine And.intro (vp_lit (by decide)) ?_ | refine And.intro (vp_in_nI (by omega) (by decide)) ?_ | ((first | change (_ → _) ∧ (_ → _) | change vp_in _ _ ∧ _ | change ¬ _ ∧ _); simp (disch := omega) only [nI_clamp, nI_leI, nI_ltI, nI_eq, nI_1, nI_add, nI_not_neg, nI_is_pos, nI_m1, nI_z, R.srv, R.cts]))
          try change _ ∧ _
          refine ⟨fun hc2 => ?_, fun hc2 => ?_⟩
          · rw [if_neg (show ¬ (v i = nI a ∧ c i = nI b) from fun z => hc2 z.1)] at ih
            repeat (first | refine Wp.at ih rfl rfl ?_ rfl | (refine W1 rfl ?_; try refine Wp.norm (L' := [_, _, _, _, _]) rfl ?_) | refine brT (by first | decide | omega) ?_ | refine brF (by first | decide | omega) ?_ | refine brTn (by first | decide | omega) ?_ | refine brFn (by first | decide | omega) ?_ | refine And.intro (vp_lit (by decide)) ?_ | refine And.intro (vp_in_nI (by omega) (by decide)) ?_ | ((first | change (_ → _) ∧ (_ → _) | change vp_in _ _ ∧ _ | change ¬ _ ∧ _); simp (disch := omega) only [nI_clamp, nI_leI, nI_ltI, nI_eq, nI_1, nI_add, nI_not_neg, nI_is_pos, nI_m1, nI_z]))
            try change _ ∧ _
            first | rfl | (simp (disch := omega) only [nI_1, nI_add, nI_clamp] <;> first | done | rfl)
          · rw [if_pos (show (v i = nI a ∧ c i = nI b) from ⟨hc2, hc⟩)] at ih
            repeat (first | refine Wp.at ih rfl rfl ?_ rfl | (refine W1 rfl ?_; try refine Wp.norm (L' := [_, _, _, _, _]) rfl ?_) | refine brT (by first | decide | omega) ?_ | refine brF (by first | decide | omega) ?_ | refine brTn (by first | decide | omega) ?_ | refine brFn (by first | decide | omega) ?_ | refine And.intro (vp_lit (by decide)) ?_ | refine And.intro (vp_in_nI (by omega) (by decide)) ?_ | ((first | change (_ → _) ∧ (_ → _) | change vp_in _ _ ∧ _ | change ¬ _ ∧ _); simp (disch := omega) only [nI_clamp, nI_leI, nI_ltI, nI_eq, nI_1, nI_add, nI_not_neg, nI_is_pos, nI_m1, nI_z]))
            try change _ ∧ _
            rw [nI_1, i32_dn]
      repeat (first | (refine W1 rfl ?_; try refine Wp.norm (L' := [_, _, _, _, _]) rfl ?_) | refine brT (by first | decide | omega) ?_ | refine brF (by first | decide | omega) ?_ | refine brTn (by first | decide | omega) ?_ | refine brFn (by first | decide | omega) ?_ | refine And.intro (vp_lit (by decide)) ?_ | refine And.intro (vp_in_nI (by omega) (by decide)) ?_ | ((first | change (_ → _) ∧ (_ → _) | change vp_in _ _ ∧ _ | change ¬ _ ∧ _); simp (disch := omega) only [nI_clamp, nI_leI, nI_ltI, nI_eq, nI_1, nI_add, nI_not_neg, nI_is_pos, nI_m1, nI_z, R.T, R.srv, R.cts]))
      try change _ ∧ _
      refine ⟨fun hc => ?_, fun hc => ?_⟩
      · have ih := snd (nI (owC c v (nI b) (nI a) i) - nI (owC c v (nI a) (nI b) i)) (by rw [if_neg (show ¬ (v i = nI b ∧ c i = nI a) from fun z => hc z.2)]; rfl)
        repeat (first | refine Wp.at ih rfl rfl ?_ rfl | (refine W1 rfl ?_; try refine Wp.norm (L' := [_, _, _, _, _]) rfl ?_) | refine brT (by first | decide | omega) ?_ | refine brF (by first | decide | omega) ?_ | refine brTn (by first | decide | omega) ?_ | refine brFn (by first | decide | omega) ?_ | refine And.intro (vp_lit (by decide)) ?_ | refine And.intro (vp_in_nI (by omega) (by decide)) ?_ | ((first | change (_ → _) ∧ (_ → _) | change vp_in _ _ ∧ _ | change ¬ _ ∧ _); simp (disch := omega) only [nI_clamp, nI_leI, nI_ltI, nI_eq, nI_1, nI_add, nI_not_neg, nI_is_pos, nI_m1, nI_z]))
        try change _ ∧ _
        first | rfl | (simp (disch := omega) only [nI_1, nI_add, nI_clamp] <;> first | done | rfl)
      · repeat (first | (refine W1 rfl ?_; try refine Wp.norm (L' := [_, _, _, _, _]) rfl ?_) | refine brT (by first | decide | omega) ?_ | refine brF (by first | decide | omega) ?_ | refine brTn (by first | decide | omega) ?_ | refine brFn (by first | decide | omega) ?_ | refine And.intro (vp_lit (by decide)) ?_ | refine And.intro (vp_in_nI (by omega) (by decide)) ?_ | ((first | change (_ → _) ∧ (_ → _) | change vp_in _ _ ∧ _ | change ¬ _ ∧ _); simp (disch := omega) only [nI_clamp, nI_leI, nI_ltI, nI_eq, nI_1, nI_add, nI_not_neg, nI_is_pos, nI_m1, nI_z, R.srv, R.cts]))
        try change _ ∧ _
        refine ⟨fun hc2 => ?_, fun hc2 => ?_⟩
        · have ih := snd (nI (owC c v (nI b) (nI a) i) - nI (owC c v (nI a) (nI b) i)) (by rw [if_neg (show ¬ (v i = nI b ∧ c i = nI a) from fun z => hc2 z.1)]; rfl)
          repeat (first | refine Wp.at ih rfl rfl ?_ rfl | (refine W1 rfl ?_; try refine Wp.norm (L' := [_, _, _, _, _]) rfl ?_) | refine brT (by first | decide | omega) ?_ | refine brF (by first | decide | omega) ?_ | refine brTn (by first | decide | omega) ?_ | refine brFn (by first | decide | omega) ?_ | refine And.intro (vp_lit (by decide)) ?_ | refine And.intro (vp_in_nI (by omega) (by decide)) ?_ | ((first | change (_ → _) ∧ (_ → _) | change vp_in _ _ ∧ _ | change ¬ _ ∧ _); simp (disch := omega) only [nI_clamp, nI_leI, nI_ltI, nI_eq, nI_1, nI_add, nI_not_neg, nI_is_pos, nI_m1, nI_z]))
          try change _ ∧ _
          first | rfl | (simp (disch := omega) only [nI_1, nI_add, nI_clamp] <;> first | done | rfl)
        · have ih := snd (nI (owC c v (nI b) (nI a) i + 1) - nI (owC c v (nI a) (nI b) i)) (by rw [if_pos (show (v i = nI b ∧ c i = nI a) from ⟨hc2, hc⟩)])
          repeat (first | refine Wp.at ih rfl rfl ?_ rfl | (refine W1 rfl ?_; try refine Wp.norm (L' := [_, _, _, _, _]) rfl ?_) | refine brT (by first | decide | omega) ?_ | refine brF (by first | decide | omega) ?_ | refine brTn (by first | decide | omega) ?_ | refine brFn (by first | decide | omega) ?_ | refine And.intro (vp_lit (by decide)) ?_ | refine And.intro (vp_in_nI (by omega) (by decide)) ?_ | ((first | change (_ → _) ∧ (_ → _) | change vp_in _ _ ∧ _ | change ¬ _ ∧ _); simp (disch := omega) only [nI_clamp, nI_leI, nI_ltI, nI_eq, nI_1, nI_add, nI_not_neg, nI_is_pos, nI_m1, nI_z]))
          try change _ ∧ _
          rw [i32_up]
  refine Run.of rfl ?_
  refine Wp.norm (L' := [_, _, _, _, _]) rfl ?_
  repeat (first | (refine W1 rfl ?_; try refine Wp.norm (L' := [_, _, _, _, _]) rfl ?_) | refine brT (by first | decide | omega) ?_ | refine brF (by first | decide | omega) ?_ | refine brTn (by first | decide | omega) ?_ | refine brFn (by first | decide | omega) ?_ | refine And.intro (vp_lit (by decide)) ?_ | refine And.intro (vp_in_nI (by omega) (by decide)) ?_ | ((first | change (_ → _) ∧ (_ → _) | change vp_in _ _ ∧ _ | change ¬ _ ∧ _); simp (disch := omega) only [nI_clamp, nI_leI, nI_ltI, nI_eq, nI_1, nI_add, nI_not_neg, nI_is_pos, nI_m1, nI_z]))
  try change _ ∧ _
  refine Cl.of (g_MP R o ha) (by decide) ?_
  repeat (first | (refine W1 rfl ?_; try refine Wp.norm (L' := [_, _, _, _, _]) rfl ?_) | refine brT (by first | decide | omega) ?_ | refine brF (by first | decide | omega) ?_ | refine brTn (by first | decide | omega) ?_ | refine brFn (by first | decide | omega) ?_ | refine And.intro (vp_lit (by decide)) ?_ | refine And.intro (vp_in_nI (by omega) (by decide)) ?_ | ((first | change (_ → _) ∧ (_ → _) | change vp_in _ _ ∧ _ | change ¬ _ ∧ _); simp (disch := omega) only [nI_clamp, nI_leI, nI_ltI, nI_eq, nI_1, nI_add, nI_not_neg, nI_is_pos, nI_m1, nI_z]))
  try change _ ∧ _
  refine Cl.of (g_MP R o hb) (by decide) ?_
  have ih := lp 0 (Nat.zero_le _)
  rw [show nI (owC c v (nI b) (nI a) 0) - nI (owC c v (nI a) (nI b) 0) = 0 from (by decide : nI 0 - nI 0 = (0 : Int32))] at ih
  repeat (first | refine Wp.at ih rfl rfl ?_ rfl | (refine W1 rfl ?_; try refine Wp.norm (L' := [_, _, _, _, _]) rfl ?_) | refine brT (by first | decide | omega) ?_ | refine brF (by first | decide | omega) ?_ | refine brTn (by first | decide | omega) ?_ | refine brFn (by first | decide | omega) ?_ | refine And.intro (vp_lit (by decide)) ?_ | refine And.intro (vp_in_nI (by omega) (by decide)) ?_ | ((first | change (_ → _) ∧ (_ → _) | change vp_in _ _ ∧ _ | change ¬ _ ∧ _); simp (disch := omega) only [nI_clamp, nI_leI, nI_ltI, nI_eq, nI_1, nI_add, nI_not_neg, nI_is_pos, nI_m1, nI_z]))
  try change _ ∧ _
  first | rfl | (simp (disch := omega) only [nI_1, nI_add, nI_clamp] <;> first | done | rfl)
theorem o_owes : op_29 Inv := fun x y => op_ro fun _ _ R M o _ => by
  rcases two_ix x y (a := zP _) (b := zP _) (Nat.lt_of_le_of_lt o.P (by decide)) (Nat.lt_of_le_of_lt o.P (by decide)) with ⟨p, t, hp, ht, rfl, rfl⟩ | hb
  · exact ⟨_, (r_E_owes R o hp ht).d, (r_M_owes M o hp ht).d⟩
  · exact ⟨_, (r_E_owesN R o hb).d, (r_M_owesN M o hb).d⟩
end OWE
/-! images -/
def picB (s : ST) (c v : RT) (i : Nat) : Int32 := if i = 0 then nI (zT s) else if i % 2 = 1 then c (i / 2) &&& 255 else v (i / 2 - 1) &&& 255
def pSum (s : ST) (c v : RT) : Nat → Int32
  | 0 => nI (zT s)
  | t + 1 => pSum s c v t + ((c t &&& 255) + (v t &&& 255))
def pXor (s : ST) (c v : RT) : Nat → Int32
  | 0 => nI (zT s)
  | t + 1 => pXor s c v t ^^^ ((c t &&& 255) ^^^ (v t &&& 255))
def sO (f : Nat → Int32) : Nat → Int32
  | 0 => 0
  | k + 1 => sO f k + f k
def xO (f : Nat → Int32) : Nat → Int32
  | 0 => 0
  | k + 1 => xO f k ^^^ f k
theorem picB_1 (s : ST) (c v : RT) (t : Nat) : picB s c v (2 * t + 1) = c t &&& 255 := by
  unfold picB
  rw [if_neg (by omega), if_pos (by omega), show (2 * t + 1) / 2 = t by omega]
theorem picB_2 (s : ST) (c v : RT) (t : Nat) : picB s c v (2 * t + 2) = v t &&& 255 := by
  unfold picB
  rw [if_neg (by omega), if_neg (by omega), show (2 * t + 2) / 2 - 1 = t by omega]
theorem sO_pSum (s : ST) (c v : RT) : ∀ t, sO (picB s c v) (2 * t + 1) = pSum s c v t
  | 0 => by
    show (0 : Int32) + picB s c v 0 = _
    rw [Int32.zero_add]
    rfl
  | t + 1 => by
    have ih := sO_pSum s c v t
    show sO (picB s c v) (2 * t + 1) + picB s c v (2 * t + 1) + picB s c v (2 * t + 2) = _
    rw [ih, picB_1, picB_2, Int32.add_assoc]
    rfl
theorem xO_pXor (s : ST) (c v : RT) : ∀ t, xO (picB s c v) (2 * t + 1) = pXor s c v t
  | 0 => by
    show (0 : Int32) ^^^ picB s c v 0 = _
    rw [Int32.zero_xor]
    rfl
  | t + 1 => by
    have ih := xO_pXor s c v t
    show (xO (picB s c v) (2 * t + 1) ^^^ picB s c v (2 * t + 1)) ^^^ picB s c v (2 * t + 2) = _
    rw [ih, picB_1, picB_2, Int32.xor_assoc]
    rfl
def picF (s : ST) (c v : RT) (i : Nat) : Int32 := if i < 2 * zT s + 1 then picB s c v i else if i = 2 * zT s + 1 then pSum s c v (zT s) &&& 255 else pXor s c v (zT s)
section IMG
variable {s : ST} {c v : RT} {h : HP}
def only (K : List Nat) (h h' : HP) : Prop := (∀ k i, ¬ k ∈ K → h'.1 k i = h.1 k i) ∧ h'.2 = h.2
theorem only.rfl (K : List Nat) (h : HP) : only K h h := ⟨fun _ _ _ => Eq.refl _, Eq.refl _⟩
theorem only.add {K : List Nat} {h h' : HP} {k i : Nat} {x : Int32} (hk : k ∈ K) (H : only K h h') : only K h (wI h' k i x) := ⟨fun k' i' hn => by rw [wI_ne _ _ _ (fun e => hn (by rw [e]; exact hk))]; exact H.1 k' i' hn, H.2⟩
theorem only.K {K : List Nat} {h h' : HP} (H : only K h h') {P : Nat → Nat → Bool} (hP : ∀ k i, P k i = true → ¬ k ∈ K) : SameK P h h' := fun k i hk => H.1 k i (hP k i hk)
theorem w_E_image (R : RC s c v h) (o : OK s) : ∃ w h', Run 0 j_E_image [.ref 0] h w h' ∧ (w = some (.int (nI (2 * zT s + 3))) ∧ only [64, 0] h h' ∧ (∀ i, i ≠ 11 → h'.1 0 i = h.1 0 i) ∧ h'.1 0 11 = nI (2 * zT s + 3) ∧ ∀ i, i < 2 * zT s + 3 → h'.1 64 i = picF s c v i) := by
  have hT := o.T; have hP := o.P; have hK := o.K; have hD := o.D; have hO := o.O; have hQ := o.Q; have hL := o.L
  refine Run.ofP rfl ?_
  refine Wp.norm (L' := [_, _, _, _, _]) rfl ?_
  have lp : ∀ t, t ≤ zT s → ∀ h', only [64] h h' → (∀ i, i < 2 * t + 1 → h'.1 64 i = picB s c v i) → Wp 0 j_E_image 34 [.ref 0, .int (pSum s c v t), .int (pXor s c v t), .int (nI (2 * t + 1)), .int (nI t)] [] h' (fun w h' => w = some (.int (nI (2 * zT s + 3))) ∧ only [64, 0] h h' ∧ (∀ i, i ≠ 11 → h'.1 0 i = h.1 0 i) ∧ h'.1 0 11 = nI (2 * zT s + 3) ∧ ∀ i, i < 2 * zT s + 3 → h'.1 64 i = picF s c v i) := by
    refine up_ind ?_ (fun t ht ih => ?_)
    · intro h' O B
      have R' := R.sr (O.K (P := kRC) (by intro k i hk z; simp at z; subst z; cases hk))
      repeat (first | (refine W1 rfl ?_; try refine Wp.norm (L' := [_, _, _, _, _]) rfl ?_) | refine brT (by first | decide | omega) ?_ | refine brF (by first | decide | omega) ?_ | refine brTn (by first | decide | omega) ?_ | refine brFn (by first | decide | omega) ?_ | refine And.intro (vp_lit (by decide)) ?_ | refine And.intro (vp_in_nI (by omega) (by decide)) ?_ | ((first | change (_ → _) ∧ (_ → _) | change vp_in _ _ ∧ _ | change ¬ _ ∧ _); simp (disch := omega) only [nI_clamp, nI_leI, nI_ltI, nI_eq, nI_1, nI_add, nI_not_neg, nI_is_pos, nI_m1, nI_z, R'.T, show (2 : Int32) = nI 2 from rfl]))
      try change _ ∧ _
      refine ⟨?_, ⟨fun k i hn => ?_, O.2⟩, fun i hi => ?_, ?_, fun i hi => ?_⟩
      · rw [wI_same]
        rw [show (2 : Int32) = nI 2 from rfl, nI_add]
      · simp at hn
        rw [wI_ne _ _ _ hn.2, wI_ne _ _ _ hn.1, wI_ne _ _ _ hn.1]
        exact O.1 k i (by simp; exact hn.1)
      · rw [wI_ne2 _ _ hi, wI_ne _ _ _ (by decide), wI_ne _ _ _ (by decide)]
        exact O.1 0 i (by decide)
      · rw [wI_same]
        rw [show (2 : Int32) = nI 2 from rfl, nI_add]
      · rw [wI_ne _ _ _ (by decide)]
        unfold picF
        by_cases h1 : i < 2 * zT s + 1
        · rw [if_pos h1, wI_ne2 _ _ (by omega), wI_ne2 _ _ (by omega)]
          exact B i h1
        · rw [if_neg h1]
          by_cases h2 : i = 2 * zT s + 1
          · rw [if_pos h2, wI_ne2 _ _ (by omega), h2, wI_same]
          · rw [if_neg h2, show i = 2 * zT s + 1 + 1 by omega, wI_same]
    · intro h' O B
      have R' := R.sr (O.K (P := kRC) (by intro k i hk z; simp at z; subst z; cases hk))
      have ih := ih (wI (wI h' 64 (2 * t + 1) (c t &&& 255)) 64 (2 * t + 2) (v t &&& 255)) ((O.add (by decide)).add (by decide)) (by
        intro i hi
        by_cases h2 : i = 2 * t + 2
        · rw [h2, wI_same, picB_2]
        · rw [wI_ne2 _ _ h2]
          by_cases h1 : i = 2 * t + 1
          · rw [h1, wI_same, picB_1]
          · rw [wI_ne2 _ _ h1]
            exact B i (by omega))
      (refine W1 rfl ?_; try refine Wp.norm (L' := [_, _, _, _, _]) rfl ?_)
      repeat (first | refine Wp.at ih rfl rfl ?_ ?_ | (refine W1 rfl ?_; try refine Wp.norm (L' := [_, _, _, _, _]) rfl ?_) | refine brT (by first | decide | omega) ?_ | refine brF (by first | decide | omega) ?_ | refine brTn (by first | decide | omega) ?_ | refine brFn (by first | decide | omega) ?_ | refine And.intro (vp_lit (by decide)) ?_ | refine And.intro (vp_in_nI (by omega) (by decide)) ?_ | ((first | change (_ → _) ∧ (_ → _) | change vp_in _ _ ∧ _ | change ¬ _ ∧ _); simp (disch := omega) only [nI_clamp, nI_leI, nI_ltI, nI_eq, nI_1, nI_add, nI_not_neg, nI_is_pos, nI_m1, nI_z, R'.T]))
      try change _ ∧ _
      · rw [show (2 : Int32) = nI 2 from rfl]
        simp (disch := omega) only [nI_clamp, nI_1, nI_add, wI_same, wI_ne2, R'.cts, R'.srv, wI_ne]
        rfl
      · simp (disch := omega) only [nI_clamp, nI_1, nI_add, R'.cts, R'.srv, wI_ne]
  have ih := lp 0 (Nat.zero_le _) (wI h 64 0 (nI (zT s))) ((only.rfl _ h).add (by decide)) (by
    intro i hi
    obtain rfl : i = 0 := by omega
    exact wI_same _ _ _ _)
  repeat (first | refine Wp.at ih rfl rfl ?_ ?_ | (refine W1 rfl ?_; try refine Wp.norm (L' := [_, _, _, _, _]) rfl ?_) | refine brT (by first | decide | omega) ?_ | refine brF (by first | decide | omega) ?_ | refine brTn (by first | decide | omega) ?_ | refine brFn (by first | decide | omega) ?_ | refine And.intro (vp_lit (by decide)) ?_ | refine And.intro (vp_in_nI (by omega) (by decide)) ?_ | ((first | change (_ → _) ∧ (_ → _) | change vp_in _ _ ∧ _ | change ¬ _ ∧ _); simp (disch := omega) only [nI_clamp, nI_leI, nI_ltI, nI_eq, nI_1, nI_add, nI_not_neg, nI_is_pos, nI_m1, nI_z]))
  try change _ ∧ _
  · rw [wI_ne _ _ _ (by decide), R.T]
    rfl
  · rw [R.T]
    rfl
def imM (h h' : HP) : Prop := only [120, 65] h h' ∧ ∀ i, i ≠ 80 → h'.1 65 i = h.1 65 i
theorem imM.wr {h h' : HP} {n : Nat} {x y : Int32} (H : imM h h') : imM h (wI (wI h' 120 n x) 65 80 y) := ⟨(H.1.add (by decide)).add (by decide), fun i hi => by rw [wI_ne2 _ _ hi, wI_ne _ _ _ (by decide)]; exact H.2 i hi⟩
theorem imM.R {h h' : HP} (H : imM h h') (R : RM s c v h) : RM s c v h' := by
  refine R.sr (fun k i hk => ?_) (fun k i _ => by rw [H.1.2])
  by_cases e : k = 65
  · subst e
    exact H.2 i (fun e => by subst e; cases hk)
  · refine H.1.1 k i ?_
    intro z
    simp at z
    rcases z with z | z
    · subst z; cases hk
    · exact e z
/-- what writes leaves -/
def wrH (h : HP) (n : Nat) (x : Int32) : HP := wI (wI h 120 n x) 65 80 (nI (n + 1))
theorem wrH_80 (h : HP) (n : Nat) (x : Int32) : (wrH h n x).1 65 80 = nI (n + 1) := wI_same _ _ _ _
theorem wrH_new (h : HP) (n : Nat) (x : Int32) : (wrH h n x).1 120 n = x := by
  unfold wrH
  rw [wI_ne _ _ _ (by decide), wI_same]
theorem wrH_old (h : HP) {n i : Nat} (x : Int32) (hi : i ≠ n) : (wrH h n x).1 120 i = h.1 120 i := by
  unfold wrH
  rw [wI_ne _ _ _ (by decide), wI_ne2 _ _ hi]
theorem imM.w {h h' : HP} (H : imM h h') (n : Nat) (x : Int32) : imM h (wrH h' n x) := H.wr
theorem w_M_image (R : RM s c v h) (o : OK s) : ∃ w h', Run 1 j_M_image [.ref 65] h w h' ∧ (w = some (.int (nI (2 * zT s + 3))) ∧ imM h h' ∧ h'.1 65 80 = nI (2 * zT s + 3) ∧ ∀ i, i < 2 * zT s + 3 → h'.1 120 i = picF s c v i) := by
  have hT := o.T; have hP := o.P; have hK := o.K; have hD := o.D; have hO := o.O; have hQ := o.Q; have hL := o.L
  refine Run.ofP rfl ?_
  refine Wp.norm (L' := [_, _, _, _]) rfl ?_
  have lp2 : ∀ h', imM h h' → h'.1 65 80 = nI (2 * zT s + 1) → (∀ i, i < 2 * zT s + 1 → h'.1 120 i = picB s c v i) → ∀ k, k ≤ 2 * zT s + 1 → Wp 1 j_M_image 63 [.ref 65, .int (sO (picB s c v) k), .int (xO (picB s c v) k), .int (nI k)] [] h' (fun w h' => w = some (.int (nI (2 * zT s + 3))) ∧ imM h h' ∧ h'.1 65 80 = nI (2 * zT s + 3) ∧ ∀ i, i < 2 * zT s + 3 → h'.1 120 i = picF s c v i) := by
    intro h' H N B
    have R' := H.R R
    refine up_ind ?_ (fun k hk ih => ?_)
    · repeat (first | (refine W1 rfl ?_; try refine Wp.norm (L' := [_, _, _, _]) rfl ?_) | refine brT (by first | decide | omega) ?_ | refine brF (by first | decide | omega) ?_ | refine brTn (by first | decide | omega) ?_ | refine brFn (by first | decide | omega) ?_ | refine And.intro (vp_lit (by decide)) ?_ | refine And.intro (vp_in_nI (by omega) (by decide)) ?_ | ((first | change (_ → _) ∧ (_ → _) | change vp_in _ _ ∧ _ | change ¬ _ ∧ _); simp (disch := omega) only [nI_clamp, nI_leI, nI_ltI, nI_eq, nI_1, nI_add, nI_not_neg, nI_is_pos, nI_m1, nI_z, N]))
      try change _ ∧ _
      refine Cl.of (r_M_writes _ N (by omega)) (by decide) ?_
      repeat (first | (refine W1 rfl ?_; try refine Wp.norm (L' := [_, _, _, _]) rfl ?_) | refine brT (by first | decide | omega) ?_ | refine brF (by first | decide | omega) ?_ | refine brTn (by first | decide | omega) ?_ | refine brFn (by first | decide | omega) ?_ | refine And.intro (vp_lit (by decide)) ?_ | refine And.intro (vp_in_nI (by omega) (by decide)) ?_ | ((first | change (_ → _) ∧ (_ → _) | change vp_in _ _ ∧ _ | change ¬ _ ∧ _); simp (disch := omega) only [nI_clamp, nI_leI, nI_ltI, nI_eq, nI_1, nI_add, nI_not_neg, nI_is_pos, nI_m1, nI_z]))
      try change _ ∧ _
      refine Cl.of (r_M_writes _ (wrH_80 _ _ _) (by omega)) (by decide) ?_
      repeat (first | (refine W1 rfl ?_; try refine Wp.norm (L' := [_, _, _, _]) rfl ?_) | refine brT (by first | decide | omega) ?_ | refine brF (by first | decide | omega) ?_ | refine brTn (by first | decide | omega) ?_ | refine brFn (by first | decide | omega) ?_ | refine And.intro (vp_lit (by decide)) ?_ | refine And.intro (vp_in_nI (by omega) (by decide)) ?_ | ((first | change (_ → _) ∧ (_ → _) | change vp_in _ _ ∧ _ | change ¬ _ ∧ _); simp (disch := omega) only [nI_clamp, nI_leI, nI_ltI, nI_eq, nI_1, nI_add, nI_not_neg, nI_is_pos, nI_m1, nI_z]))
      try change _ ∧ _
      rw [sO_pSum, xO_pXor]
      refine ⟨?_, (H.w _ _).w _ _, wrH_80 _ _ _, fun i hi => ?_⟩
      · rw [wI_same]
      · show (wrH (wrH h' (2 * zT s + 1) _) (2 * zT s + 1 + 1) _).1 120 i = _
        unfold picF
        by_cases h1 : i < 2 * zT s + 1
        · rw [if_pos h1, wrH_old _ _ (by omega), wrH_old _ _ (by omega)]
          exact B i h1
        · rw [if_neg h1]
          by_cases h2 : i = 2 * zT s + 1
          · rw [if_pos h2, h2, wrH_old _ _ (by omega), wrH_new]
          · rw [if_neg h2, show i = 2 * zT s + 1 + 1 by omega, wrH_new]
    · have e1 : sO (picB s c v) (k + 1) = sO (picB s c v) k + picB s c v k := rfl
      have e2 : xO (picB s c v) (k + 1) = xO (picB s c v) k ^^^ picB s c v k := rfl
      rw [e1, e2] at ih
      (refine W1 rfl ?_; try refine Wp.norm (L' := [_, _, _, _]) rfl ?_)
      repeat (first | refine Wp.at ih rfl rfl ?_ rfl | (refine W1 rfl ?_; try refine Wp.norm (L' := [_, _, _, _]) rfl ?_) | refine brT (by first | decide | omega) ?_ | refine brF (by first | decide | omega) ?_ | refine brTn (by first | decide | omega) ?_ | refine brFn (by first | decide | omega) ?_ | refine And.intro (vp_lit (by decide)) ?_ | refine And.intro (vp_in_nI (by omega) (by decide)) ?_ | ((first | change (_ → _) ∧ (_ → _) | change vp_in _ _ ∧ _ | change ¬ _ ∧ _); simp (disch := omega) only [nI_clamp, nI_leI, nI_ltI, nI_eq, nI_1, nI_add, nI_not_neg, nI_is_pos, nI_m1, nI_z, N]))
      try change _ ∧ _
      simp (disch := omega) only [nI_clamp, nI_1, B]
  have lp : ∀ t, t ≤ zT s → ∀ h', imM h h' → h'.1 65 80 = nI (2 * t + 1) → (∀ i, i < 2 * t + 1 → h'.1 120 i = picB s c v i) → Wp 1 j_M_image 15 [.ref 65, .int (nI t), .null, .null] [] h' (fun w h' => w = some (.int (nI (2 * zT s + 3))) ∧ imM h h' ∧ h'.1 65 80 = nI (2 * zT s + 3) ∧ ∀ i, i < 2 * zT s + 3 → h'.1 120 i = picF s c v i) := by
    refine up_ind ?_ (fun t ht ih => ?_)
    · intro h' H N B
      have R' := H.R R
      have ih := lp2 h' H N B 0 (Nat.zero_le _)
      (refine W1 rfl ?_; try refine Wp.norm (L' := [_, _, _, _]) rfl ?_)
      repeat (first | refine Wp.at ih rfl rfl ?_ rfl | (refine W1 rfl ?_; try refine Wp.norm (L' := [_, _, _, _]) rfl ?_) | refine brT (by first | decide | omega) ?_ | refine brF (by first | decide | omega) ?_ | refine brTn (by first | decide | omega) ?_ | refine brFn (by first | decide | omega) ?_ | refine And.intro (vp_lit (by decide)) ?_ | refine And.intro (vp_in_nI (by omega) (by decide)) ?_ | ((first | change (_ → _) ∧ (_ → _) | change vp_in _ _ ∧ _ | change ¬ _ ∧ _); simp (disch := omega) only [nI_clamp, nI_leI, nI_ltI, nI_eq, nI_1, nI_add, nI_not_neg, nI_is_pos, nI_m1, nI_z, R'.T]))
      try change _ ∧ _
      first | rfl | (simp (disch := omega) only [nI_1, nI_add, nI_clamp] <;> first | done | rfl)
    · intro h' H N B
      have R' := H.R R
      have ih := ih (wrH (wrH h' (2 * t + 1) (c t &&& 255)) (2 * t + 2) (v t &&& 255)) ((H.w _ _).w _ _) (wrH_80 _ _ _) (by
        intro i hi
        by_cases h2 : i = 2 * t + 2
        · rw [h2, wrH_new, picB_2]
        · rw [wrH_old _ _ h2]
          by_cases h1 : i = 2 * t + 1
          · rw [h1, wrH_new, picB_1]
          · rw [wrH_old _ _ h1]
            exact B i (by omega))
      (refine W1 rfl ?_; try refine Wp.norm (L' := [_, _, _, _]) rfl ?_)
      repeat (first | (refine W1 rfl ?_; try refine Wp.norm (L' := [_, _, _, _]) rfl ?_) | refine brT (by first | decide | omega) ?_ | refine brF (by first | decide | omega) ?_ | refine brTn (by first | decide | omega) ?_ | refine brFn (by first | decide | omega) ?_ | refine And.intro (vp_lit (by decide)) ?_ | refine And.intro (vp_in_nI (by omega) (by decide)) ?_ | ((first | change (_ → _) ∧ (_ → _) | change vp_in _ _ ∧ _ | change ¬ _ ∧ _); simp (disch := omega) only [nI_clamp, nI_leI, nI_ltI, nI_eq, nI_1, nI_add, nI_not_neg, nI_is_pos, nI_m1, nI_z, R'.T]))
      try change _ ∧ _
      refine Cl.of (r_M_writes _ N (by omega)) (by decide) ?_
      repeat (first | (refine W1 rfl ?_; try refine Wp.norm (L' := [_, _, _, _]) rfl ?_) | refine brT (by first | decide | omega) ?_ | refine brF (by first | decide | omega) ?_ | refine brTn (by first | decide | omega) ?_ | refine brFn (by first | decide | omega) ?_ | refine And.intro (vp_lit (by decide)) ?_ | refine And.intro (vp_in_nI (by omega) (by decide)) ?_ | ((first | change (_ → _) ∧ (_ → _) | change vp_in _ _ ∧ _ | change ¬ _ ∧ _); simp (disch := omega) only [nI_clamp, nI_leI, nI_ltI, nI_eq, nI_1, nI_add, nI_not_neg, nI_is_pos, nI_m1, nI_z]))
      try change _ ∧ _
      refine Cl.of (r_M_writes _ (wrH_80 _ _ _) (by omega)) (by decide) ?_
      repeat (first | refine Wp.at ih rfl rfl ?_ ?_ | (refine W1 rfl ?_; try refine Wp.norm (L' := [_, _, _, _]) rfl ?_) | refine brT (by first | decide | omega) ?_ | refine brF (by first | decide | omega) ?_ | refine brTn (by first | decide | omega) ?_ | refine brFn (by first | decide | omega) ?_ | refine And.intro (vp_lit (by decide)) ?_ | refine And.intro (vp_in_nI (by omega) (by decide)) ?_ | ((first | change (_ → _) ∧ (_ → _) | change vp_in _ _ ∧ _ | change ¬ _ ∧ _); simp (disch := omega) only [nI_clamp, nI_leI, nI_ltI, nI_eq, nI_1, nI_add, nI_not_neg, nI_is_pos, nI_m1, nI_z]))
      try change _ ∧ _
      · first | rfl | (simp (disch := omega) only [nI_1, nI_add, nI_clamp] <;> first | done | rfl)
      · simp (disch := omega) only [nI_clamp, R'.cts, R'.srv, wI_ne]
        rfl
  repeat (first | (refine W1 rfl ?_; try refine Wp.norm (L' := [_, _, _, _]) rfl ?_) | refine brT (by first | decide | omega) ?_ | refine brF (by first | decide | omega) ?_ | refine brTn (by first | decide | omega) ?_ | refine brFn (by first | decide | omega) ?_ | refine And.intro (vp_lit (by decide)) ?_ | refine And.intro (vp_in_nI (by omega) (by decide)) ?_ | ((first | change (_ → _) ∧ (_ → _) | change vp_in _ _ ∧ _ | change ¬ _ ∧ _); simp (disch := omega) only [nI_clamp, nI_leI, nI_ltI, nI_eq, nI_1, nI_add, nI_not_neg, nI_is_pos, nI_m1, nI_z, R.T]))
  try change _ ∧ _
  have N0 : (wI h 65 80 0).1 65 80 = nI 0 := wI_same _ _ _ _
  refine Cl.of (r_M_writes _ N0 (by omega)) (by decide) ?_
  have H0 : imM h (wI h 65 80 0) := ⟨(only.rfl _ h).add (by decide), fun i hi => by rw [wI_ne2 _ _ hi]⟩
  have ih := lp 0 (Nat.zero_le _) (wrH (wI h 65 80 0) 0 (nI (zT s))) (H0.w _ _) (wrH_80 _ _ _) (by
    intro i hi
    obtain rfl : i = 0 := by omega
    rw [wrH_new]
    rfl)
  repeat (first | refine Wp.at ih rfl rfl ?_ ?_ | (refine W1 rfl ?_; try refine Wp.norm (L' := [_, _, _, _]) rfl ?_) | refine brT (by first | decide | omega) ?_ | refine brF (by first | decide | omega) ?_ | refine brTn (by first | decide | omega) ?_ | refine brFn (by first | decide | omega) ?_ | refine And.intro (vp_lit (by decide)) ?_ | refine And.intro (vp_in_nI (by omega) (by decide)) ?_ | ((first | change (_ → _) ∧ (_ → _) | change vp_in _ _ ∧ _ | change ¬ _ ∧ _); simp (disch := omega) only [nI_clamp, nI_leI, nI_ltI, nI_eq, nI_1, nI_add, nI_not_neg, nI_is_pos, nI_m1, nI_z]))
  try change _ ∧ _
  · first | rfl | (simp (disch := omega) only [nI_1, nI_add, nI_clamp] <;> first | done | rfl)
  · rw [wI_ne2 _ _ (by decide), R.T]
    rfl
end IMG
theorem o_image : op_32 Inv := fun h I => by
  obtain ⟨t, m, s, c, v, R, M, o, ro⟩ := id I
  have hT := o.T
  obtain ⟨w, h1, r1, e1, O1, A1, N1, B1⟩ := w_E_image R o
  have S1 : SameK keepX h h1 → True := fun _ => trivial
  have g1 : ∀ k i, k ≠ 64 → (k = 0 → i ≠ 11) → h1.1 k i = h.1 k i := by
    intro k i a b
    by_cases e : k = 0
    · subst e; exact A1 i (b rfl)
    · exact O1.1 k i (by simp; exact ⟨a, e⟩)
  have M1 : RM s c v h1 := M.sr (fun k i hk => g1 k i (by rintro rfl; cases hk) (by rintro rfl; cases hk)) (fun _ _ _ => by rw [O1.2])
  obtain ⟨w2, h2, r2, e2, H2, N2, B2⟩ := w_M_image M1 o
  have g2 : ∀ k i, k ≠ 64 → k ≠ 120 → (k = 0 → i ≠ 11) → (k = 65 → i ≠ 80) → h2.1 k i = h.1 k i := by
    intro k i a b a0 b0
    by_cases e : k = 65
    · subst e; rw [H2.2 i (b0 rfl)]; exact g1 _ _ a a0
    · rw [H2.1.1 k i (by simp; exact ⟨b, e⟩)]; exact g1 _ _ a a0
  subst e1
  subst e2
  refine ⟨_, _, _, r1.d, r2.d, t.sr (fun k i hk => g2 k i ?_ ?_ ?_ ?_), ?_, s, c, v, R.sr (fun k i hk => g2 k i ?_ ?_ ?_ ?_), H2.R M1, o, ro⟩
  all_goals try (rintro rfl; revert hk; first | exact (fun hk => absurd (show false = true from hk) (by decide)) | (rintro hk rfl; exact absurd (show false = true from hk) (by decide)))
  obtain ⟨a1, a2, a3, a4, a5, _⟩ := m
  refine ⟨?_, ?_, ?_, ?_, ?_, 2 * zT s + 3, by omega, ?_, N2, fun i hi => ?_⟩
  · rw [g2 54 8 (by decide) (by decide) (by decide) (by decide), g2 65 74 (by decide) (by decide) (by decide) (by decide)]; exact a1
  · rw [g2 17 6 (by decide) (by decide) (by decide) (by decide), g2 65 7 (by decide) (by decide) (by decide) (by decide)]; exact a2
  · rw [g2 17 7 (by decide) (by decide) (by decide) (by decide), g2 65 8 (by decide) (by decide) (by decide) (by decide)]; exact a3
  · rw [g2 65 68 (by decide) (by decide) (by decide) (by decide), g2 50 6 (by decide) (by decide) (by decide) (by decide), g2 50 7 (by decide) (by decide) (by decide) (by decide)]; exact a4
  · rw [g2 65 68 (by decide) (by decide) (by decide) (by decide), g2 50 6 (by decide) (by decide) (by decide) (by decide), g2 50 7 (by decide) (by decide) (by decide) (by decide), g2 65 69 (by decide) (by decide) (by decide) (by decide)]; exact a5
  · rw [H2.1.1 0 11 (by decide)]; exact N1
  · rw [B2 i hi, H2.1.1 64 i (by decide)]; exact B1 i hi
