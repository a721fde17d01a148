/-! ===== THE CLASS READS TESTS ===== -/
section QSTEP2
variable {b : Nat → Nat} {n : Nat} {i d y : Nat} {W C : List Nat} {s : ST}
theorem qT_sq (h1 : sgV b n i = 91) : qst b n (3, i, W, d, C, s) = (if 6 ≤ d then flt 4 (ps b n i) else (3, i + 1, 25 :: W, d + 1, C, s)) := by
  rw [q3]; unfold qT
  rw [if_pos h1]
theorem qT_not (h1 : owV b n i = 15) (h2 : sgV b n i ≠ 91) : qst b n (3, i, W, d, C, s) = (if 6 ≤ d then flt 4 (ps b n i) else (3, i + 1, 16 :: W, d + 1, C, s)) := by
  rw [q3]; unfold qT
  rw [if_neg h2, if_pos h1]
theorem qT_all (h1 : owV b n i = 16) (h2 : sgV b n i ≠ 91) : qst b n (3, i, W, d, C, s) = (4, i + 1, W, d, C ++ [17], s) := by
  rw [q3]; unfold qT
  rw [if_neg h2, if_neg (by omega), if_pos h1]
theorem qT_sum (h1 : owV b n i ≠ 16) (h2 : owV b n i ≠ 15) (h3 : sgV b n i ≠ 91) : qst b n (3, i, W, d, C, s) = (0, i, 30 :: W, d, C, s) := by
  rw [q3]; unfold qT
  rw [if_neg h3, if_neg h2, if_neg h1]
theorem qF_16 (hy : y = 16) : qst b n (4, i, y :: W, d, C, s) = (4, i, W, d - 1, C ++ [16], s) := by
  rw [q4]; show (if _ then _ else _) = _
  rw [if_pos hy]
theorem qF_14 (hy : y = 14) : qst b n (4, i, y :: W, d, C, s) = (4, i, W, d, C ++ [14], s) := by
  rw [q4]; show (if _ then _ else _) = _
  rw [if_neg (by omega), if_pos hy]
theorem qF_and (hy : y ≠ 16) (hy2 : y ≠ 14) (h1 : owV b n i = 14) : qst b n (4, i, y :: W, d, C, s) = (3, i + 1, 14 :: y :: W, d, C, s) := by
  rw [q4]; show (if _ then _ else _) = _
  rw [if_neg hy, if_neg hy2, if_pos h1]
theorem qF_15 (hy : y = 15) (h1 : owV b n i ≠ 14) : qst b n (4, i, y :: W, d, C, s) = (4, i, W, d, C ++ [15], s) := by
  rw [q4]; show (if _ then _ else _) = _
  rw [if_neg (by omega), if_neg (by omega), if_neg h1, if_pos hy]
theorem qF_or (hy : y = 25) (h1 : owV b n i = 13) : qst b n (4, i, y :: W, d, C, s) = (3, i + 1, 15 :: y :: W, d, C, s) := by
  rw [q4]; show (if _ then _ else _) = _
  rw [if_neg (by omega), if_neg (by omega), if_neg (by omega), if_neg (by omega), if_pos h1]
theorem qF_25 (hy : y = 25) (h1 : owV b n i ≠ 14) (h2 : owV b n i ≠ 13) : qst b n (4, i, y :: W, d, C, s) = (if sgV b n i = 93 then (4, i + 1, W, d - 1, C, s) else flt 1 (ps b n i)) := by
  rw [q4]; show (if _ then _ else _) = _
  rw [if_neg (by omega), if_neg (by omega), if_neg h1, if_neg (by omega), if_neg h2]
theorem qF_nA (h1 : owV b n i = 14) : qst b n (4, i, [], d, C, s) = (3, i + 1, [14], d, C, s) := by
  rw [q4]; show (if _ then _ else _) = _
  rw [if_pos h1]
theorem qF_nO (h1 : owV b n i = 13) : qst b n (4, i, [], d, C, s) = (3, i + 1, [15], d, C, s) := by
  rw [q4]; show (if _ then _ else _) = _
  rw [if_neg (by omega), if_pos h1]
theorem qF_n (h1 : owV b n i ≠ 14) (h2 : owV b n i ≠ 13) : qst b n (4, i, [], d, C, s) = (6, i, [], d, C, s) := by
  rw [q4]; show (if _ then _ else _) = _
  rw [if_neg h1, if_neg h2]
end QSTEP2
section CTEST
variable {b : Nat → Nat} {n : Nat} {s : ST} {C : List Nat} {h h' : HP}
def FT (b : Nat → Nat) (n i dp : Nat) (C : List Nat) (s : ST) (q : Nat) (h' : HP) : Prop := (∃ i' C', CS b n i' s C' q h' ∧ i < i' ∧ C'.length + i ≤ C.length + i' ∧ ∀ W, qGo b n (3, i, W, dp, C, s) (4, i', W, dp, C', s)) ∨ (∃ f p, CF b n f p h' ∧ ∀ W, qGo b n (3, i, W, dp, C, s) (flt f p))
abbrev bot (W : List Nat) : Prop := W = [] ∨ ∃ V, W = 25 :: V
def TT (b : Nat → Nat) (n i dp : Nat) (C : List Nat) (s : ST) (q : Nat) (h' : HP) : Prop := (∃ i' C', CS b n i' s C' q h' ∧ i < i' ∧ C'.length + i ≤ C.length + i' ∧ (owV b n i' ≠ 14 ∧ owV b n i' ≠ 13) ∧ ∀ W, bot W → qGo b n (3, i, W, dp, C, s) (4, i', W, dp, C', s)) ∨ (∃ f p, CF b n f p h' ∧ ∀ W, bot W → qGo b n (3, i, W, dp, C, s) (flt f p))
theorem f_sum {f p : Nat} (x : Int32) (X : CF b n f p h) : Run 1 j_Reader_readSum [.ref 17, .int x] h none h := by
  have hne := X.ne
  refine Run.of rfl ?_
  refine Wp.norm (L' := [_, _, _, _, _]) rfl ?_
  repeat (first | (refine W1 rfl ?_; try refine Wp.norm (L' := [_, _, _, _, _]) rfl ?_) | ((first | change (_ → _) ∧ (_ → _) | change vp_in _ _ ∧ _ | change ¬ _ ∧ _); simp (disch := omega) only [nI_clamp, nI_leI, nI_ltI, nI_eq, nI_1, nI_add, nI_not_neg, nI_is_pos, nI_m1, nI_z]) | refine brT (by first | assumption | decide | omega) ?_ | refine brF (by first | assumption | decide | omega) ?_ | refine brTn (by first | assumption | decide | omega) ?_ | refine brFn (by first | assumption | decide | omega) ?_ | refine And.intro (vp_in_nI (by omega) (by decide)) ?_ | refine And.intro (vp_lit (by decide)) ?_ | refine divJ (by decide) ?_ | refine divI (by decide) ?_)
  try change _ ∧ _
  try first | exact ⟨rfl, rfl⟩ | exact ⟨Or.inr rfl, rfl, rfl⟩ | exact ⟨Or.inl rfl, rfl, rfl⟩ | exact ⟨trivial, trivial⟩ | exact ⟨rfl, trivial⟩ | exact ⟨Or.inr rfl, rfl, trivial⟩ | exact ⟨Or.inl rfl, rfl, trivial⟩
theorem i_900 {i q : Nat} (X : CS b n i s C q h) (hpn : ps b n i < n) : i < 900 := by
  obtain ⟨m, a1, a2, a3, _⟩ := X.K.at X.hi
  rcases Nat.lt_or_ge i m with z | z
  · omega
  · have : i = m := by omega
    rw [this] at hpn; omega
theorem ow_sg {i : Nat} (h1 : owV b n i ≠ 99) : sgV b n i = 0 := by
  unfold owV at h1
  by_cases c : tS b n i = 3
  · exact tS_sg (by omega)
  · rw [if_neg c] at h1; exact absurd rfl h1
theorem sg_ow {i : Nat} (h1 : sgV b n i ≠ 0) : owV b n i = 99 := by
  unfold sgV at h1
  by_cases c : tS b n i = 6
  · exact tS_ow (by omega)
  · rw [if_neg c] at h1; exact absurd rfl h1
theorem c_isOwn {i q w : Nat} (X : CS b n i s C q h) (hw : w < 99) : Run 0 j_Tokens_isOwn [.ref 3, .int (h.1 17 4), .int (nI w)] h (some (.int (bI (decide (owV b n i = w))))) h := by
  have r := r_isOwn X.hb X.K X.hi hw
  rw [← X.at] at r
  exact r
theorem c_isSign {i q w : Nat} (X : CS b n i s C q h) (hw : 0 < w ∧ w < 256) : Run 0 j_Tokens_isSign [.ref 3, .int (h.1 17 4), .int (nI w)] h (some (.int (bI (decide (sgV b n i = w))))) h := by
  have r := r_isSign X.hb X.K X.hi hw
  rw [← X.at] at r
  exact r
theorem c_placeN {i q : Nat} (X : CS b n i s C q h) : Run 0 j_Tokens_placeAt [.ref 3, .int (h.1 17 4)] h (some (.int (nI (ps b n i)))) h := by
  have r := r_placeAt X.K X.hi
  rw [← X.at] at r
  exact r
theorem c_fact {d dp q : Nat} (hd : 1 ≤ d) (hdp : dp ≤ 6) (hS : ∀ h i C, CS b n i s C q h → C.length ≤ i → ∃ h', Run d j_Reader_readSum [.ref 17, .int (nI dp)] h none h' ∧ onlyJ rdL [] h h' ∧ SO b n i dp C s q h') (hF : dp < 6 → ∀ h i C, CS b n i s C q h → C.length ≤ i → ∃ h', Run d j_Reader_readFact [.ref 17, .int (nI (dp + 1))] h none h' ∧ onlyJ rdL [] h h' ∧ FT b n i (dp + 1) C s q h') (hT : dp < 6 → ∀ h i C, CS b n i s C q h → C.length ≤ i → ∃ h', Run d j_Reader_readTest [.ref 17, .int (nI (dp + 1))] h none h' ∧ onlyJ rdL [] h h' ∧ TT b n i (dp + 1) C s q h') {i : Nat} (X : CS b n i s C q h) (hl : C.length ≤ i) : ∃ w h', Run (d + 1) j_Reader_readFact [.ref 17, .int (nI dp)] h w h' ∧ (w = none ∧ onlyJ rdL [] h h' ∧ FT b n i dp C s q h') := by
  refine Run.ofP rfl ?_
  refine Wp.norm (L' := [_, _, _, _, _]) rfl ?_
  have i9 := X.i9
  have hat := X.at
  have f0 := X.f0
  have r1 := c_isOwn (w := 15) X (by decide)
  have r2 := c_isSign (w := 91) X (by decide)
  have r3 := c_placeN X
  have r4 := c_isOwn (w := 16) X (by decide)
  repeat (first | (refine W1 rfl ?_; try refine Wp.norm (L' := [_, _, _, _, _]) rfl ?_) | ((first | change (_ → _) ∧ (_ → _) | change vp_in _ _ ∧ _ | change ¬ _ ∧ _); simp (disch := omega) only [nI_clamp, nI_leI, nI_ltI, nI_eq, nI_1, nI_add, nI_not_neg, nI_is_pos, nI_m1, nI_z, f0]) | refine brT (by first | assumption | decide | omega) ?_ | refine brF (by first | assumption | decide | omega) ?_ | refine brTn (by first | assumption | decide | omega) ?_ | refine brFn (by first | assumption | decide | omega) ?_ | refine And.intro (vp_in_nI (by omega) (by decide)) ?_ | refine And.intro (vp_lit (by decide)) ?_ | refine divJ (by decide) ?_ | refine divI (by decide) ?_)
  try change _ ∧ _
  refine Cl.of r1 (by omega) ?_
  repeat (first | (refine W1 rfl ?_; try refine Wp.norm (L' := [_, _, _, _, _]) rfl ?_) | ((first | change (_ → _) ∧ (_ → _) | change vp_in _ _ ∧ _ | change ¬ _ ∧ _); simp (disch := omega) only [nI_clamp, nI_leI, nI_ltI, nI_eq, nI_1, nI_add, nI_not_neg, nI_is_pos, nI_m1, nI_z]) | refine brT (by first | assumption | decide | omega) ?_ | refine brF (by first | assumption | decide | omega) ?_ | refine brTn (by first | assumption | decide | omega) ?_ | refine brFn (by first | assumption | decide | omega) ?_ | refine And.intro (vp_in_nI (by omega) (by decide)) ?_ | refine And.intro (vp_lit (by decide)) ?_ | refine divJ (by decide) ?_ | refine divI (by decide) ?_)
  try change _ ∧ _
  refine Cl.of r2 (by omega) ?_
  show Wp (d + 1) j_Reader_readFact _ _ _ _ _
  by_cases cn : owV b n i = 15
  · have hsg : ¬ sgV b n i = 91 := by rw [ow_sg (by omega)]; decide
    rw [decide_eq_true cn, decide_eq_false hsg, bI_t, bI_f]
    by_cases cd : dp < 6
    · have X1 := X.nx (ow_ps (by omega))
      obtain ⟨h2, rs, O2, S2⟩ := hF cd _ (i + 1) C X1 (by omega)
      have gq : ∀ W, qGo b n (3, i, W, dp, C, s) (3, i + 1, 16 :: W, dp + 1, C, s) := fun W => qGo.one (by rw [qT_not cn hsg, if_neg (by omega)])
      repeat (first | (refine W1 rfl ?_; try refine Wp.norm (L' := [_, _, _, _, _]) rfl ?_) | ((first | change (_ → _) ∧ (_ → _) | change vp_in _ _ ∧ _ | change ¬ _ ∧ _); simp (disch := omega) only [nI_clamp, nI_leI, nI_ltI, nI_eq, nI_1, nI_add, nI_not_neg, nI_is_pos, nI_m1, nI_z, show (6 : Int32) = nI 6 from rfl]) | refine brT (by first | assumption | decide | omega) ?_ | refine brF (by first | assumption | decide | omega) ?_ | refine brTn (by first | assumption | decide | omega) ?_ | refine brFn (by first | assumption | decide | omega) ?_ | refine And.intro (vp_in_nI (by omega) (by decide)) ?_ | refine And.intro (vp_lit (by decide)) ?_ | refine divJ (by decide) ?_ | refine divI (by decide) ?_)
      try change _ ∧ _
      refine Cl.ofH rs (by first | done | rfl | (simp (disch := omega) only [nI_1, nI_add, nI_clamp] <;> first | done | rfl)) (by rw [hat]; first | done | rfl | (simp (disch := omega) only [nI_1, nI_add, nI_clamp] <;> first | done | rfl)) (by omega) ?_
      show Wp (d + 1) j_Reader_readFact _ _ _ _ _
      rcases S2 with ⟨i', C', Y, hii, hll, go⟩ | ⟨f, p, Y, go⟩
      · have i92 := Y.i9
        obtain ⟨h3, re, O3, Z⟩ := c_emit (x := 16) (y := -5) Y (by omega) (by decide)
        repeat (first | (refine W1 rfl ?_; try refine Wp.norm (L' := [_, _, _, _, _]) rfl ?_) | ((first | change (_ → _) ∧ (_ → _) | change vp_in _ _ ∧ _ | change ¬ _ ∧ _); simp (disch := omega) only [nI_clamp, nI_leI, nI_ltI, nI_eq, nI_1, nI_add, nI_not_neg, nI_is_pos, nI_m1, nI_z]) | refine brT (by first | assumption | decide | omega) ?_ | refine brF (by first | assumption | decide | omega) ?_ | refine brTn (by first | assumption | decide | omega) ?_ | refine brFn (by first | assumption | decide | omega) ?_ | refine And.intro (vp_in_nI (by omega) (by decide)) ?_ | refine And.intro (vp_lit (by decide)) ?_ | refine divJ (by decide) ?_ | refine divI (by decide) ?_)
        try change _ ∧ _
        refine Cl.of re (by omega) ?_
        repeat (first | (refine W1 rfl ?_; try refine Wp.norm (L' := [_, _, _, _, _]) rfl ?_) | ((first | change (_ → _) ∧ (_ → _) | change vp_in _ _ ∧ _ | change ¬ _ ∧ _); simp (disch := omega) only [nI_clamp, nI_leI, nI_ltI, nI_eq, nI_1, nI_add, nI_not_neg, nI_is_pos, nI_m1, nI_z]) | refine brT (by first | assumption | decide | omega) ?_ | refine brF (by first | assumption | decide | omega) ?_ | refine brTn (by first | assumption | decide | omega) ?_ | refine brFn (by first | assumption | decide | omega) ?_ | refine And.intro (vp_in_nI (by omega) (by decide)) ?_ | refine And.intro (vp_lit (by decide)) ?_ | refine divJ (by decide) ?_ | refine divI (by decide) ?_)
        try change _ ∧ _
        exact ⟨rfl, ((o17 (onlyJ.rfl _ _ h)).trans O2).trans O3, Or.inl ⟨i', C' ++ [16], Z, by omega, by rw [List.length_append]; show C'.length + 1 + i ≤ _; omega, fun W => (gq W).trans ((go _).trans (qGo.one (qF_16 rfl)))⟩⟩
      · obtain ⟨h3, re, O3, Z⟩ := f_emit (-5) Y
        repeat (first | (refine W1 rfl ?_; try refine Wp.norm (L' := [_, _, _, _, _]) rfl ?_) | ((first | change (_ → _) ∧ (_ → _) | change vp_in _ _ ∧ _ | change ¬ _ ∧ _); simp (disch := omega) only [nI_clamp, nI_leI, nI_ltI, nI_eq, nI_1, nI_add, nI_not_neg, nI_is_pos, nI_m1, nI_z]) | refine brT (by first | assumption | decide | omega) ?_ | refine brF (by first | assumption | decide | omega) ?_ | refine brTn (by first | assumption | decide | omega) ?_ | refine brFn (by first | assumption | decide | omega) ?_ | refine And.intro (vp_in_nI (by omega) (by decide)) ?_ | refine And.intro (vp_lit (by decide)) ?_ | refine divJ (by decide) ?_ | refine divI (by decide) ?_)
        try change _ ∧ _
        refine Cl.of re (by omega) ?_
        repeat (first | (refine W1 rfl ?_; try refine Wp.norm (L' := [_, _, _, _, _]) rfl ?_) | ((first | change (_ → _) ∧ (_ → _) | change vp_in _ _ ∧ _ | change ¬ _ ∧ _); simp (disch := omega) only [nI_clamp, nI_leI, nI_ltI, nI_eq, nI_1, nI_add, nI_not_neg, nI_is_pos, nI_m1, nI_z]) | refine brT (by first | assumption | decide | omega) ?_ | refine brF (by first | assumption | decide | omega) ?_ | refine brTn (by first | assumption | decide | omega) ?_ | refine brFn (by first | assumption | decide | omega) ?_ | refine And.intro (vp_in_nI (by omega) (by decide)) ?_ | refine And.intro (vp_lit (by decide)) ?_ | refine divJ (by decide) ?_ | refine divI (by decide) ?_)
        try change _ ∧ _
        exact ⟨rfl, ((o17 (onlyJ.rfl _ _ h)).trans O2).trans O3, Or.inr ⟨f, p, Z, fun W => (gq W).trans (go _)⟩⟩
    · repeat (first | (refine W1 rfl ?_; try refine Wp.norm (L' := [_, _, _, _, _]) rfl ?_) | ((first | change (_ → _) ∧ (_ → _) | change vp_in _ _ ∧ _ | change ¬ _ ∧ _); simp (disch := omega) only [nI_clamp, nI_leI, nI_ltI, nI_eq, nI_1, nI_add, nI_not_neg, nI_is_pos, nI_m1, nI_z, show (6 : Int32) = nI 6 from rfl]) | refine brT (by first | assumption | decide | omega) ?_ | refine brF (by first | assumption | decide | omega) ?_ | refine brTn (by first | assumption | decide | omega) ?_ | refine brFn (by first | assumption | decide | omega) ?_ | refine And.intro (vp_in_nI (by omega) (by decide)) ?_ | refine And.intro (vp_lit (by decide)) ?_ | refine divJ (by decide) ?_ | refine divI (by decide) ?_)
      try change _ ∧ _
      refine Cl.of r3 (by omega) ?_
      repeat (first | (refine W1 rfl ?_; try refine Wp.norm (L' := [_, _, _, _, _]) rfl ?_) | ((first | change (_ → _) ∧ (_ → _) | change vp_in _ _ ∧ _ | change ¬ _ ∧ _); simp (disch := omega) only [nI_clamp, nI_leI, nI_ltI, nI_eq, nI_1, nI_add, nI_not_neg, nI_is_pos, nI_m1, nI_z]) | refine brT (by first | assumption | decide | omega) ?_ | refine brF (by first | assumption | decide | omega) ?_ | refine brTn (by first | assumption | decide | omega) ?_ | refine brFn (by first | assumption | decide | omega) ?_ | refine And.intro (vp_in_nI (by omega) (by decide)) ?_ | refine And.intro (vp_lit (by decide)) ?_ | refine divJ (by decide) ?_ | refine divI (by decide) ?_)
      try change _ ∧ _
      refine Cl.of (r_fail0 _ _ f0) (by omega) ?_
      repeat (first | (refine W1 rfl ?_; try refine Wp.norm (L' := [_, _, _, _, _]) rfl ?_) | ((first | change (_ → _) ∧ (_ → _) | change vp_in _ _ ∧ _ | change ¬ _ ∧ _); simp (disch := omega) only [nI_clamp, nI_leI, nI_ltI, nI_eq, nI_1, nI_add, nI_not_neg, nI_is_pos, nI_m1, nI_z]) | refine brT (by first | assumption | decide | omega) ?_ | refine brF (by first | assumption | decide | omega) ?_ | refine brTn (by first | assumption | decide | omega) ?_ | refine brFn (by first | assumption | decide | omega) ?_ | refine And.intro (vp_in_nI (by omega) (by decide)) ?_ | refine And.intro (vp_lit (by decide)) ?_ | refine divJ (by decide) ?_ | refine divI (by decide) ?_)
      try change _ ∧ _
      exact ⟨rfl, o17f _ _, Or.inr ⟨4, ps b n i, X.fl (by decide), fun W => qGo.one (by rw [qT_not cn hsg, if_pos (by omega)])⟩⟩
  · rw [decide_eq_false cn, bI_f]
    by_cases cs : sgV b n i = 91
    · rw [decide_eq_true cs, bI_t]
      by_cases cd : dp < 6
      · have X1 := X.nx (sg_ps (by omega))
        obtain ⟨h2, rs, O2, S2⟩ := hT cd _ (i + 1) C X1 (by omega)
        have gq : ∀ W, qGo b n (3, i, W, dp, C, s) (3, i + 1, 25 :: W, dp + 1, C, s) := fun W => qGo.one (by rw [qT_sq cs, if_neg (by omega)])
        repeat (first | (refine W1 rfl ?_; try refine Wp.norm (L' := [_, _, _, _, _]) rfl ?_) | ((first | change (_ → _) ∧ (_ → _) | change vp_in _ _ ∧ _ | change ¬ _ ∧ _); simp (disch := omega) only [nI_clamp, nI_leI, nI_ltI, nI_eq, nI_1, nI_add, nI_not_neg, nI_is_pos, nI_m1, nI_z, show (6 : Int32) = nI 6 from rfl]) | refine brT (by first | assumption | decide | omega) ?_ | refine brF (by first | assumption | decide | omega) ?_ | refine brTn (by first | assumption | decide | omega) ?_ | refine brFn (by first | assumption | decide | omega) ?_ | refine And.intro (vp_in_nI (by omega) (by decide)) ?_ | refine And.intro (vp_lit (by decide)) ?_ | refine divJ (by decide) ?_ | refine divI (by decide) ?_)
        try change _ ∧ _
        refine Cl.ofH rs (by first | done | rfl | (simp (disch := omega) only [nI_1, nI_add, nI_clamp] <;> first | done | rfl)) (by rw [hat]; first | done | rfl | (simp (disch := omega) only [nI_1, nI_add, nI_clamp] <;> first | done | rfl)) (by omega) ?_
        show Wp (d + 1) j_Reader_readFact _ _ _ _ _
        rcases S2 with ⟨i', C', Y, hii, hll, ⟨hA, hO⟩, go⟩ | ⟨f, p, Y, go⟩
        · have i92 := Y.i9
          obtain ⟨h3, re, O3, Z⟩ := c_expectSign (w := 93) (o := none) Y (by decide)
          rw [ch_n] at Z
          unfold ckS at Z
          repeat (first | (refine W1 rfl ?_; try refine Wp.norm (L' := [_, _, _, _, _]) rfl ?_) | ((first | change (_ → _) ∧ (_ → _) | change vp_in _ _ ∧ _ | change ¬ _ ∧ _); simp (disch := omega) only [nI_clamp, nI_leI, nI_ltI, nI_eq, nI_1, nI_add, nI_not_neg, nI_is_pos, nI_m1, nI_z]) | refine brT (by first | assumption | decide | omega) ?_ | refine brF (by first | assumption | decide | omega) ?_ | refine brTn (by first | assumption | decide | omega) ?_ | refine brFn (by first | assumption | decide | omega) ?_ | refine And.intro (vp_in_nI (by omega) (by decide)) ?_ | refine And.intro (vp_lit (by decide)) ?_ | refine divJ (by decide) ?_ | refine divI (by decide) ?_)
          try change _ ∧ _
          refine Cl.of re (by omega) ?_
          repeat (first | (refine W1 rfl ?_; try refine Wp.norm (L' := [_, _, _, _, _]) rfl ?_) | ((first | change (_ → _) ∧ (_ → _) | change vp_in _ _ ∧ _ | change ¬ _ ∧ _); simp (disch := omega) only [nI_clamp, nI_leI, nI_ltI, nI_eq, nI_1, nI_add, nI_not_neg, nI_is_pos, nI_m1, nI_z]) | refine brT (by first | assumption | decide | omega) ?_ | refine brF (by first | assumption | decide | omega) ?_ | refine brTn (by first | assumption | decide | omega) ?_ | refine brFn (by first | assumption | decide | omega) ?_ | refine And.intro (vp_in_nI (by omega) (by decide)) ?_ | refine And.intro (vp_lit (by decide)) ?_ | refine divJ (by decide) ?_ | refine divI (by decide) ?_)
          try change _ ∧ _
          by_cases c6 : sgV b n i' = 93
          · rw [if_pos c6] at Z
            exact ⟨rfl, ((o17 (onlyJ.rfl _ _ h)).trans O2).trans O3, Or.inl ⟨i' + 1, C', Z, by omega, by omega, fun W => (gq W).trans ((go _ (Or.inr ⟨W, rfl⟩)).trans (qGo.one (by rw [qF_25 rfl hA hO, if_pos c6]; rfl)))⟩⟩
          · rw [if_neg c6] at Z
            exact ⟨rfl, ((o17 (onlyJ.rfl _ _ h)).trans O2).trans O3, Or.inr ⟨1, ps b n i', Z, fun W => (gq W).trans ((go _ (Or.inr ⟨W, rfl⟩)).trans (qGo.one (by rw [qF_25 rfl hA hO, if_neg c6])))⟩⟩
        · obtain ⟨h3, re, O3, Z⟩ := c_expectSign (w := 93) (o := some (f, p)) (i := 0) (s := s) (C := C) (q := 0) Y (by decide)
          rw [ch_s] at Z
          repeat (first | (refine W1 rfl ?_; try refine Wp.norm (L' := [_, _, _, _, _]) rfl ?_) | ((first | change (_ → _) ∧ (_ → _) | change vp_in _ _ ∧ _ | change ¬ _ ∧ _); simp (disch := omega) only [nI_clamp, nI_leI, nI_ltI, nI_eq, nI_1, nI_add, nI_not_neg, nI_is_pos, nI_m1, nI_z]) | refine brT (by first | assumption | decide | omega) ?_ | refine brF (by first | assumption | decide | omega) ?_ | refine brTn (by first | assumption | decide | omega) ?_ | refine brFn (by first | assumption | decide | omega) ?_ | refine And.intro (vp_in_nI (by omega) (by decide)) ?_ | refine And.intro (vp_lit (by decide)) ?_ | refine divJ (by decide) ?_ | refine divI (by decide) ?_)
          try change _ ∧ _
          refine Cl.of re (by omega) ?_
          repeat (first | (refine W1 rfl ?_; try refine Wp.norm (L' := [_, _, _, _, _]) rfl ?_) | ((first | change (_ → _) ∧ (_ → _) | change vp_in _ _ ∧ _ | change ¬ _ ∧ _); simp (disch := omega) only [nI_clamp, nI_leI, nI_ltI, nI_eq, nI_1, nI_add, nI_not_neg, nI_is_pos, nI_m1, nI_z]) | refine brT (by first | assumption | decide | omega) ?_ | refine brF (by first | assumption | decide | omega) ?_ | refine brTn (by first | assumption | decide | omega) ?_ | refine brFn (by first | assumption | decide | omega) ?_ | refine And.intro (vp_in_nI (by omega) (by decide)) ?_ | refine And.intro (vp_lit (by decide)) ?_ | refine divJ (by decide) ?_ | refine divI (by decide) ?_)
          try change _ ∧ _
          exact ⟨rfl, ((o17 (onlyJ.rfl _ _ h)).trans O2).trans O3, Or.inr ⟨f, p, Z, fun W => (gq W).trans (go _ (Or.inr ⟨W, rfl⟩))⟩⟩
      · repeat (first | (refine W1 rfl ?_; try refine Wp.norm (L' := [_, _, _, _, _]) rfl ?_) | ((first | change (_ → _) ∧ (_ → _) | change vp_in _ _ ∧ _ | change ¬ _ ∧ _); simp (disch := omega) only [nI_clamp, nI_leI, nI_ltI, nI_eq, nI_1, nI_add, nI_not_neg, nI_is_pos, nI_m1, nI_z, show (6 : Int32) = nI 6 from rfl]) | refine brT (by first | assumption | decide | omega) ?_ | refine brF (by first | assumption | decide | omega) ?_ | refine brTn (by first | assumption | decide | omega) ?_ | refine brFn (by first | assumption | decide | omega) ?_ | refine And.intro (vp_in_nI (by omega) (by decide)) ?_ | refine And.intro (vp_lit (by decide)) ?_ | refine divJ (by decide) ?_ | refine divI (by decide) ?_)
        try change _ ∧ _
        refine Cl.of r3 (by omega) ?_
        repeat (first | (refine W1 rfl ?_; try refine Wp.norm (L' := [_, _, _, _, _]) rfl ?_) | ((first | change (_ → _) ∧ (_ → _) | change vp_in _ _ ∧ _ | change ¬ _ ∧ _); simp (disch := omega) only [nI_clamp, nI_leI, nI_ltI, nI_eq, nI_1, nI_add, nI_not_neg, nI_is_pos, nI_m1, nI_z]) | refine brT (by first | assumption | decide | omega) ?_ | refine brF (by first | assumption | decide | omega) ?_ | refine brTn (by first | assumption | decide | omega) ?_ | refine brFn (by first | assumption | decide | omega) ?_ | refine And.intro (vp_in_nI (by omega) (by decide)) ?_ | refine And.intro (vp_lit (by decide)) ?_ | refine divJ (by decide) ?_ | refine divI (by decide) ?_)
        try change _ ∧ _
        refine Cl.of (r_fail0 _ _ f0) (by omega) ?_
        repeat (first | (refine W1 rfl ?_; try refine Wp.norm (L' := [_, _, _, _, _]) rfl ?_) | ((first | change (_ → _) ∧ (_ → _) | change vp_in _ _ ∧ _ | change ¬ _ ∧ _); simp (disch := omega) only [nI_clamp, nI_leI, nI_ltI, nI_eq, nI_1, nI_add, nI_not_neg, nI_is_pos, nI_m1, nI_z]) | refine brT (by first | assumption | decide | omega) ?_ | refine brF (by first | assumption | decide | omega) ?_ | refine brTn (by first | assumption | decide | omega) ?_ | refine brFn (by first | assumption | decide | omega) ?_ | refine And.intro (vp_in_nI (by omega) (by decide)) ?_ | refine And.intro (vp_lit (by decide)) ?_ | refine divJ (by decide) ?_ | refine divI (by decide) ?_)
        try change _ ∧ _
        exact ⟨rfl, o17f _ _, Or.inr ⟨4, ps b n i, X.fl (by decide), fun W => qGo.one (by rw [qT_sq cs, if_pos (by omega)])⟩⟩
    · rw [decide_eq_false cs, bI_f]
      by_cases ca : owV b n i = 16
      · rw [decide_eq_true ca, bI_t] at r4
        have hpn := ow_ps (b := b) (n := n) (i := i) (by omega)
        have hi9 := i_900 X hpn
        have X1 := X.nx hpn
        obtain ⟨h3, re, O3, Z⟩ := c_emit (x := 17) (y := -4) X1 (by omega) (by decide)
        repeat (first | (refine W1 rfl ?_; try refine Wp.norm (L' := [_, _, _, _, _]) rfl ?_) | ((first | change (_ → _) ∧ (_ → _) | change vp_in _ _ ∧ _ | change ¬ _ ∧ _); simp (disch := omega) only [nI_clamp, nI_leI, nI_ltI, nI_eq, nI_1, nI_add, nI_not_neg, nI_is_pos, nI_m1, nI_z]) | refine brT (by first | assumption | decide | omega) ?_ | refine brF (by first | assumption | decide | omega) ?_ | refine brTn (by first | assumption | decide | omega) ?_ | refine brFn (by first | assumption | decide | omega) ?_ | refine And.intro (vp_in_nI (by omega) (by decide)) ?_ | refine And.intro (vp_lit (by decide)) ?_ | refine divJ (by decide) ?_ | refine divI (by decide) ?_)
        try change _ ∧ _
        refine Cl.of r4 (by omega) ?_
        repeat (first | (refine W1 rfl ?_; try refine Wp.norm (L' := [_, _, _, _, _]) rfl ?_) | ((first | change (_ → _) ∧ (_ → _) | change vp_in _ _ ∧ _ | change ¬ _ ∧ _); simp (disch := omega) only [nI_clamp, nI_leI, nI_ltI, nI_eq, nI_1, nI_add, nI_not_neg, nI_is_pos, nI_m1, nI_z]) | refine brT (by first | assumption | decide | omega) ?_ | refine brF (by first | assumption | decide | omega) ?_ | refine brTn (by first | assumption | decide | omega) ?_ | refine brFn (by first | assumption | decide | omega) ?_ | refine And.intro (vp_in_nI (by omega) (by decide)) ?_ | refine And.intro (vp_lit (by decide)) ?_ | refine divJ (by decide) ?_ | refine divI (by decide) ?_)
        try change _ ∧ _
        refine Cl.ofH re rfl (by rw [hat]; first | done | rfl | (simp (disch := omega) only [nI_1, nI_add, nI_clamp] <;> first | done | rfl)) (by omega) ?_
        repeat (first | (refine W1 rfl ?_; try refine Wp.norm (L' := [_, _, _, _, _]) rfl ?_) | ((first | change (_ → _) ∧ (_ → _) | change vp_in _ _ ∧ _ | change ¬ _ ∧ _); simp (disch := omega) only [nI_clamp, nI_leI, nI_ltI, nI_eq, nI_1, nI_add, nI_not_neg, nI_is_pos, nI_m1, nI_z]) | refine brT (by first | assumption | decide | omega) ?_ | refine brF (by first | assumption | decide | omega) ?_ | refine brTn (by first | assumption | decide | omega) ?_ | refine brFn (by first | assumption | decide | omega) ?_ | refine And.intro (vp_in_nI (by omega) (by decide)) ?_ | refine And.intro (vp_lit (by decide)) ?_ | refine divJ (by decide) ?_ | refine divI (by decide) ?_)
        try change _ ∧ _
        exact ⟨rfl, (o17 (onlyJ.rfl _ _ h)).trans O3, Or.inl ⟨i + 1, C ++ [17], Z, by omega, by rw [List.length_append]; show C.length + 1 + i ≤ _; omega, fun W => qGo.one (qT_all ca cs)⟩⟩
      · rw [decide_eq_false ca, bI_f] at r4
        obtain ⟨h1, rs, O1, S1⟩ := hS h i C X hl
        have gq : ∀ W, qGo b n (3, i, W, dp, C, s) (0, i, 30 :: W, dp, C, s) := fun W => qGo.one (qT_sum ca cn cs)
        repeat (first | (refine W1 rfl ?_; try refine Wp.norm (L' := [_, _, _, _, _]) rfl ?_) | ((first | change (_ → _) ∧ (_ → _) | change vp_in _ _ ∧ _ | change ¬ _ ∧ _); simp (disch := omega) only [nI_clamp, nI_leI, nI_ltI, nI_eq, nI_1, nI_add, nI_not_neg, nI_is_pos, nI_m1, nI_z]) | refine brT (by first | assumption | decide | omega) ?_ | refine brF (by first | assumption | decide | omega) ?_ | refine brTn (by first | assumption | decide | omega) ?_ | refine brFn (by first | assumption | decide | omega) ?_ | refine And.intro (vp_in_nI (by omega) (by decide)) ?_ | refine And.intro (vp_lit (by decide)) ?_ | refine divJ (by decide) ?_ | refine divI (by decide) ?_)
        try change _ ∧ _
        refine Cl.of r4 (by omega) ?_
        repeat (first | (refine W1 rfl ?_; try refine Wp.norm (L' := [_, _, _, _, _]) rfl ?_) | ((first | change (_ → _) ∧ (_ → _) | change vp_in _ _ ∧ _ | change ¬ _ ∧ _); simp (disch := omega) only [nI_clamp, nI_leI, nI_ltI, nI_eq, nI_1, nI_add, nI_not_neg, nI_is_pos, nI_m1, nI_z]) | refine brT (by first | assumption | decide | omega) ?_ | refine brF (by first | assumption | decide | omega) ?_ | refine brTn (by first | assumption | decide | omega) ?_ | refine brFn (by first | assumption | decide | omega) ?_ | refine And.intro (vp_in_nI (by omega) (by decide)) ?_ | refine And.intro (vp_lit (by decide)) ?_ | refine divJ (by decide) ?_ | refine divI (by decide) ?_)
        try change _ ∧ _
        refine Cl.of rs (by omega) ?_
        show Wp (d + 1) j_Reader_readFact _ _ _ _ _
        rcases S1 with ⟨i1, C1, Y, hii, hll, ⟨hf, ht⟩, go⟩ | ⟨f, p, Y, go⟩
        · have ha1 := Y.at
          have f1 := Y.f0
          have i91 := Y.i9
          have r5 := c_sign Y
          have r6 := r_comparison h1 (if tS b n i1 = 6 then nI (tV b n i1) else -1)
          have r7 := c_placeN Y
          rw [cm_sg Y.hb] at r6
          have hcr := cmpC_r (sgV b n i1)
          repeat (first | (refine W1 rfl ?_; try refine Wp.norm (L' := [_, _, _, _, _]) rfl ?_) | ((first | change (_ → _) ∧ (_ → _) | change vp_in _ _ ∧ _ | change ¬ _ ∧ _); simp (disch := omega) only [nI_clamp, nI_leI, nI_ltI, nI_eq, nI_1, nI_add, nI_not_neg, nI_is_pos, nI_m1, nI_z]) | refine brT (by first | assumption | decide | omega) ?_ | refine brF (by first | assumption | decide | omega) ?_ | refine brTn (by first | assumption | decide | omega) ?_ | refine brFn (by first | assumption | decide | omega) ?_ | refine And.intro (vp_in_nI (by omega) (by decide)) ?_ | refine And.intro (vp_lit (by decide)) ?_ | refine divJ (by decide) ?_ | refine divI (by decide) ?_)
          try change _ ∧ _
          refine Cl.of r5 (by omega) ?_
          repeat (first | (refine W1 rfl ?_; try refine Wp.norm (L' := [_, _, _, _, _]) rfl ?_) | ((first | change (_ → _) ∧ (_ → _) | change vp_in _ _ ∧ _ | change ¬ _ ∧ _); simp (disch := omega) only [nI_clamp, nI_leI, nI_ltI, nI_eq, nI_1, nI_add, nI_not_neg, nI_is_pos, nI_m1, nI_z]) | refine brT (by first | assumption | decide | omega) ?_ | refine brF (by first | assumption | decide | omega) ?_ | refine brTn (by first | assumption | decide | omega) ?_ | refine brFn (by first | assumption | decide | omega) ?_ | refine And.intro (vp_in_nI (by omega) (by decide)) ?_ | refine And.intro (vp_lit (by decide)) ?_ | refine divJ (by decide) ?_ | refine divI (by decide) ?_)
          try change _ ∧ _
          refine Cl.of r6 (by omega) ?_
          show Wp (d + 1) j_Reader_readFact _ _ _ _ _
          by_cases cc : cmpC (sgV b n i1) = 0
          · rw [if_pos cc]
            repeat (first | (refine W1 rfl ?_; try refine Wp.norm (L' := [_, _, _, _, _]) rfl ?_) | ((first | change (_ → _) ∧ (_ → _) | change vp_in _ _ ∧ _ | change ¬ _ ∧ _); simp (disch := omega) only [nI_clamp, nI_leI, nI_ltI, nI_eq, nI_1, nI_add, nI_not_neg, nI_is_pos, nI_m1, nI_z]) | refine brT (by first | assumption | decide | omega) ?_ | refine brF (by first | assumption | decide | omega) ?_ | refine brTn (by first | assumption | decide | omega) ?_ | refine brFn (by first | assumption | decide | omega) ?_ | refine And.intro (vp_in_nI (by omega) (by decide)) ?_ | refine And.intro (vp_lit (by decide)) ?_ | refine divJ (by decide) ?_ | refine divI (by decide) ?_)
            try change _ ∧ _
            refine Cl.of r7 (by omega) ?_
            repeat (first | (refine W1 rfl ?_; try refine Wp.norm (L' := [_, _, _, _, _]) rfl ?_) | ((first | change (_ → _) ∧ (_ → _) | change vp_in _ _ ∧ _ | change ¬ _ ∧ _); simp (disch := omega) only [nI_clamp, nI_leI, nI_ltI, nI_eq, nI_1, nI_add, nI_not_neg, nI_is_pos, nI_m1, nI_z]) | refine brT (by first | assumption | decide | omega) ?_ | refine brF (by first | assumption | decide | omega) ?_ | refine brTn (by first | assumption | decide | omega) ?_ | refine brFn (by first | assumption | decide | omega) ?_ | refine And.intro (vp_in_nI (by omega) (by decide)) ?_ | refine And.intro (vp_lit (by decide)) ?_ | refine divJ (by decide) ?_ | refine divI (by decide) ?_)
            try change _ ∧ _
            refine Cl.of (r_fail0 _ _ f1) (by omega) ?_
            repeat (first | (refine W1 rfl ?_; try refine Wp.norm (L' := [_, _, _, _, _]) rfl ?_) | ((first | change (_ → _) ∧ (_ → _) | change vp_in _ _ ∧ _ | change ¬ _ ∧ _); simp (disch := omega) only [nI_clamp, nI_leI, nI_ltI, nI_eq, nI_1, nI_add, nI_not_neg, nI_is_pos, nI_m1, nI_z]) | refine brT (by first | assumption | decide | omega) ?_ | refine brF (by first | assumption | decide | omega) ?_ | refine brTn (by first | assumption | decide | omega) ?_ | refine brFn (by first | assumption | decide | omega) ?_ | refine And.intro (vp_in_nI (by omega) (by decide)) ?_ | refine And.intro (vp_lit (by decide)) ?_ | refine divJ (by decide) ?_ | refine divI (by decide) ?_)
            try change _ ∧ _
            exact ⟨rfl, o17 (o17 O1), Or.inr ⟨1, ps b n i1, Y.fl (by decide), fun W => (gq W).trans ((go 30 W (by decide) (by decide)).trans (qGo.one (by rw [qA_30 hf ht, if_neg (fun z => z cc)])))⟩⟩
          · rw [if_neg cc]
            have hcr := hcr.resolve_left cc
            have hnz : ¬ cvC (cmpC (sgV b n i1)) = 0 := by rcases hcr with z | z | z <;> (rw [z]; decide)
            have hn1 : ¬ isPr (cmpC (sgV b n i1)) := by omega
            have hn2 : ¬ isTr (cmpC (sgV b n i1)) := by omega
            have Y1 := Y.nx (sg_ps (b := b) (n := n) (i := i1) (fun z => cc (by rw [z]; rfl)))
            obtain ⟨h2, rs2, O2, S2⟩ := hS _ (i1 + 1) C1 Y1 (by omega)
            have gq2 : ∀ W, qGo b n (3, i, W, dp, C, s) (0, i1 + 1, cmpC (sgV b n i1) :: W, dp, C1, s) := fun W => (gq W).trans ((go 30 W (by decide) (by decide)).trans (qGo.one (by rw [qA_30 hf ht, if_pos cc])))
            repeat (first | (refine W1 rfl ?_; try refine Wp.norm (L' := [_, _, _, _, _]) rfl ?_) | ((first | change (_ → _) ∧ (_ → _) | change vp_in _ _ ∧ _ | change ¬ _ ∧ _); simp (disch := omega) only [nI_clamp, nI_leI, nI_ltI, nI_eq, nI_1, nI_add, nI_not_neg, nI_is_pos, nI_m1, nI_z]) | refine brT (by first | assumption | decide | omega) ?_ | refine brF (by first | assumption | decide | omega) ?_ | refine brTn (by first | assumption | decide | omega) ?_ | refine brFn (by first | assumption | decide | omega) ?_ | refine And.intro (vp_in_nI (by omega) (by decide)) ?_ | refine And.intro (vp_lit (by decide)) ?_ | refine divJ (by decide) ?_ | refine divI (by decide) ?_)
            try change _ ∧ _
            refine Cl.ofH rs2 rfl (by rw [ha1]; first | done | rfl | (simp (disch := omega) only [nI_1, nI_add, nI_clamp] <;> first | done | rfl)) (by omega) ?_
            show Wp (d + 1) j_Reader_readFact _ _ _ _ _
            rcases S2 with ⟨i2, C2, Z, hii2, hll2, ⟨hf2, ht2⟩, go2⟩ | ⟨f, p, Z, go2⟩
            · have i92 := Z.i9
              obtain ⟨h3, re, O3, Z3⟩ := c_emit (x := cmpC (sgV b n i1)) (y := cvC (cmpC (sgV b n i1))) Z (by omega) rfl
              repeat (first | (refine W1 rfl ?_; try refine Wp.norm (L' := [_, _, _, _, _]) rfl ?_) | ((first | change (_ → _) ∧ (_ → _) | change vp_in _ _ ∧ _ | change ¬ _ ∧ _); simp (disch := omega) only [nI_clamp, nI_leI, nI_ltI, nI_eq, nI_1, nI_add, nI_not_neg, nI_is_pos, nI_m1, nI_z]) | refine brT (by first | assumption | decide | omega) ?_ | refine brF (by first | assumption | decide | omega) ?_ | refine brTn (by first | assumption | decide | omega) ?_ | refine brFn (by first | assumption | decide | omega) ?_ | refine And.intro (vp_in_nI (by omega) (by decide)) ?_ | refine And.intro (vp_lit (by decide)) ?_ | refine divJ (by decide) ?_ | refine divI (by decide) ?_)
              try change _ ∧ _
              refine Cl.of re (by omega) ?_
              repeat (first | (refine W1 rfl ?_; try refine Wp.norm (L' := [_, _, _, _, _]) rfl ?_) | ((first | change (_ → _) ∧ (_ → _) | change vp_in _ _ ∧ _ | change ¬ _ ∧ _); simp (disch := omega) only [nI_clamp, nI_leI, nI_ltI, nI_eq, nI_1, nI_add, nI_not_neg, nI_is_pos, nI_m1, nI_z]) | refine brT (by first | assumption | decide | omega) ?_ | refine brF (by first | assumption | decide | omega) ?_ | refine brTn (by first | assumption | decide | omega) ?_ | refine brFn (by first | assumption | decide | omega) ?_ | refine And.intro (vp_in_nI (by omega) (by decide)) ?_ | refine And.intro (vp_lit (by decide)) ?_ | refine divJ (by decide) ?_ | refine divI (by decide) ?_)
              try change _ ∧ _
              exact ⟨rfl, ((o17 O1).trans O2).trans O3, Or.inl ⟨i2, C2 ++ [cmpC (sgV b n i1)], Z3, by omega, by rw [List.length_append]; show C2.length + 1 + i ≤ _; omega, fun W => (gq2 W).trans ((go2 _ W hn1 hn2).trans (qGo.one (qA_c hcr hf2 ht2)))⟩⟩
            · obtain ⟨h3, re, O3, Z3⟩ := f_emit (cvC (cmpC (sgV b n i1))) Z
              repeat (first | (refine W1 rfl ?_; try refine Wp.norm (L' := [_, _, _, _, _]) rfl ?_) | ((first | change (_ → _) ∧ (_ → _) | change vp_in _ _ ∧ _ | change ¬ _ ∧ _); simp (disch := omega) only [nI_clamp, nI_leI, nI_ltI, nI_eq, nI_1, nI_add, nI_not_neg, nI_is_pos, nI_m1, nI_z]) | refine brT (by first | assumption | decide | omega) ?_ | refine brF (by first | assumption | decide | omega) ?_ | refine brTn (by first | assumption | decide | omega) ?_ | refine brFn (by first | assumption | decide | omega) ?_ | refine And.intro (vp_in_nI (by omega) (by decide)) ?_ | refine And.intro (vp_lit (by decide)) ?_ | refine divJ (by decide) ?_ | refine divI (by decide) ?_)
              try change _ ∧ _
              refine Cl.of re (by omega) ?_
              repeat (first | (refine W1 rfl ?_; try refine Wp.norm (L' := [_, _, _, _, _]) rfl ?_) | ((first | change (_ → _) ∧ (_ → _) | change vp_in _ _ ∧ _ | change ¬ _ ∧ _); simp (disch := omega) only [nI_clamp, nI_leI, nI_ltI, nI_eq, nI_1, nI_add, nI_not_neg, nI_is_pos, nI_m1, nI_z]) | refine brT (by first | assumption | decide | omega) ?_ | refine brF (by first | assumption | decide | omega) ?_ | refine brTn (by first | assumption | decide | omega) ?_ | refine brFn (by first | assumption | decide | omega) ?_ | refine And.intro (vp_in_nI (by omega) (by decide)) ?_ | refine And.intro (vp_lit (by decide)) ?_ | refine divJ (by decide) ?_ | refine divI (by decide) ?_)
              try change _ ∧ _
              exact ⟨rfl, ((o17 O1).trans O2).trans O3, Or.inr ⟨f, p, Z3, fun W => (gq2 W).trans (go2 _ W hn1 hn2)⟩⟩
        · have hne := Y.ne
          obtain ⟨w5, r5⟩ := x_signAt Y.1 (h1.1 17 4)
          have r6 := r_comparison h1 w5
          obtain ⟨w7, r7⟩ := x_placeAt Y.1 (h1.1 17 4)
          repeat (first | (refine W1 rfl ?_; try refine Wp.norm (L' := [_, _, _, _, _]) rfl ?_) | ((first | change (_ → _) ∧ (_ → _) | change vp_in _ _ ∧ _ | change ¬ _ ∧ _); simp (disch := omega) only [nI_clamp, nI_leI, nI_ltI, nI_eq, nI_1, nI_add, nI_not_neg, nI_is_pos, nI_m1, nI_z]) | refine brT (by first | assumption | decide | omega) ?_ | refine brF (by first | assumption | decide | omega) ?_ | refine brTn (by first | assumption | decide | omega) ?_ | refine brFn (by first | assumption | decide | omega) ?_ | refine And.intro (vp_in_nI (by omega) (by decide)) ?_ | refine And.intro (vp_lit (by decide)) ?_ | refine divJ (by decide) ?_ | refine divI (by decide) ?_)
          try change _ ∧ _
          refine Cl.of r5 (by omega) ?_
          repeat (first | (refine W1 rfl ?_; try refine Wp.norm (L' := [_, _, _, _, _]) rfl ?_) | ((first | change (_ → _) ∧ (_ → _) | change vp_in _ _ ∧ _ | change ¬ _ ∧ _); simp (disch := omega) only [nI_clamp, nI_leI, nI_ltI, nI_eq, nI_1, nI_add, nI_not_neg, nI_is_pos, nI_m1, nI_z]) | refine brT (by first | assumption | decide | omega) ?_ | refine brF (by first | assumption | decide | omega) ?_ | refine brTn (by first | assumption | decide | omega) ?_ | refine brFn (by first | assumption | decide | omega) ?_ | refine And.intro (vp_in_nI (by omega) (by decide)) ?_ | refine And.intro (vp_lit (by decide)) ?_ | refine divJ (by decide) ?_ | refine divI (by decide) ?_)
          try change _ ∧ _
          refine Cl.of r6 (by omega) ?_
          show Wp (d + 1) j_Reader_readFact _ _ _ _ _
          repeat (first | (refine W1 rfl ?_; try refine Wp.norm (L' := [_, _, _, _, _]) rfl ?_) | ((first | change (_ → _) ∧ (_ → _) | change vp_in _ _ ∧ _ | change ¬ _ ∧ _); simp (disch := omega) only [nI_clamp, nI_leI, nI_ltI, nI_eq, nI_1, nI_add, nI_not_neg, nI_is_pos, nI_m1, nI_z]) | refine brT (by first | assumption | decide | omega) ?_ | refine brF (by first | assumption | decide | omega) ?_ | refine brTn (by first | assumption | decide | omega) ?_ | refine brFn (by first | assumption | decide | omega) ?_ | refine And.intro (vp_in_nI (by omega) (by decide)) ?_ | refine And.intro (vp_lit (by decide)) ?_ | refine divJ (by decide) ?_ | refine divI (by decide) ?_)
          try change _ ∧ _
          refine ⟨fun z => ?_, fun z => ?_⟩
          · have Y1 := Y.w (i := 4) (x := h1.1 17 4 + 1) (Or.inl rfl)
            obtain ⟨h3, re, O3, Z3⟩ := f_emit (cmI w5) Y1
            repeat (first | (refine W1 rfl ?_; try refine Wp.norm (L' := [_, _, _, _, _]) rfl ?_) | ((first | change (_ → _) ∧ (_ → _) | change vp_in _ _ ∧ _ | change ¬ _ ∧ _); simp (disch := omega) only [nI_clamp, nI_leI, nI_ltI, nI_eq, nI_1, nI_add, nI_not_neg, nI_is_pos, nI_m1, nI_z]) | refine brT (by first | assumption | decide | omega) ?_ | refine brF (by first | assumption | decide | omega) ?_ | refine brTn (by first | assumption | decide | omega) ?_ | refine brFn (by first | assumption | decide | omega) ?_ | refine And.intro (vp_in_nI (by omega) (by decide)) ?_ | refine And.intro (vp_lit (by decide)) ?_ | refine divJ (by decide) ?_ | refine divI (by decide) ?_)
            try change _ ∧ _
            refine Cl.of (f_sum _ Y1) (by omega) ?_
            repeat (first | (refine W1 rfl ?_; try refine Wp.norm (L' := [_, _, _, _, _]) rfl ?_) | ((first | change (_ → _) ∧ (_ → _) | change vp_in _ _ ∧ _ | change ¬ _ ∧ _); simp (disch := omega) only [nI_clamp, nI_leI, nI_ltI, nI_eq, nI_1, nI_add, nI_not_neg, nI_is_pos, nI_m1, nI_z]) | refine brT (by first | assumption | decide | omega) ?_ | refine brF (by first | assumption | decide | omega) ?_ | refine brTn (by first | assumption | decide | omega) ?_ | refine brFn (by first | assumption | decide | omega) ?_ | refine And.intro (vp_in_nI (by omega) (by decide)) ?_ | refine And.intro (vp_lit (by decide)) ?_ | refine divJ (by decide) ?_ | refine divI (by decide) ?_)
            try change _ ∧ _
            refine Cl.of re (by omega) ?_
            repeat (first | (refine W1 rfl ?_; try refine Wp.norm (L' := [_, _, _, _, _]) rfl ?_) | ((first | change (_ → _) ∧ (_ → _) | change vp_in _ _ ∧ _ | change ¬ _ ∧ _); simp (disch := omega) only [nI_clamp, nI_leI, nI_ltI, nI_eq, nI_1, nI_add, nI_not_neg, nI_is_pos, nI_m1, nI_z]) | refine brT (by first | assumption | decide | omega) ?_ | refine brF (by first | assumption | decide | omega) ?_ | refine brTn (by first | assumption | decide | omega) ?_ | refine brFn (by first | assumption | decide | omega) ?_ | refine And.intro (vp_in_nI (by omega) (by decide)) ?_ | refine And.intro (vp_lit (by decide)) ?_ | refine divJ (by decide) ?_ | refine divI (by decide) ?_)
            try change _ ∧ _
            exact ⟨rfl, (o17 O1).trans O3, Or.inr ⟨f, p, Z3, fun W => (gq W).trans (go 30 W (by decide) (by decide))⟩⟩
          · repeat (first | (refine W1 rfl ?_; try refine Wp.norm (L' := [_, _, _, _, _]) rfl ?_) | ((first | change (_ → _) ∧ (_ → _) | change vp_in _ _ ∧ _ | change ¬ _ ∧ _); simp (disch := omega) only [nI_clamp, nI_leI, nI_ltI, nI_eq, nI_1, nI_add, nI_not_neg, nI_is_pos, nI_m1, nI_z]) | refine brT (by first | assumption | decide | omega) ?_ | refine brF (by first | assumption | decide | omega) ?_ | refine brTn (by first | assumption | decide | omega) ?_ | refine brFn (by first | assumption | decide | omega) ?_ | refine And.intro (vp_in_nI (by omega) (by decide)) ?_ | refine And.intro (vp_lit (by decide)) ?_ | refine divJ (by decide) ?_ | refine divI (by decide) ?_)
            try change _ ∧ _
            refine Cl.of r7 (by omega) ?_
            repeat (first | (refine W1 rfl ?_; try refine Wp.norm (L' := [_, _, _, _, _]) rfl ?_) | ((first | change (_ → _) ∧ (_ → _) | change vp_in _ _ ∧ _ | change ¬ _ ∧ _); simp (disch := omega) only [nI_clamp, nI_leI, nI_ltI, nI_eq, nI_1, nI_add, nI_not_neg, nI_is_pos, nI_m1, nI_z]) | refine brT (by first | assumption | decide | omega) ?_ | refine brF (by first | assumption | decide | omega) ?_ | refine brTn (by first | assumption | decide | omega) ?_ | refine brFn (by first | assumption | decide | omega) ?_ | refine And.intro (vp_in_nI (by omega) (by decide)) ?_ | refine And.intro (vp_lit (by decide)) ?_ | refine divJ (by decide) ?_ | refine divI (by decide) ?_)
            try change _ ∧ _
            refine Cl.of (r_fail1 _ _ hne) (by omega) ?_
            repeat (first | (refine W1 rfl ?_; try refine Wp.norm (L' := [_, _, _, _, _]) rfl ?_) | ((first | change (_ → _) ∧ (_ → _) | change vp_in _ _ ∧ _ | change ¬ _ ∧ _); simp (disch := omega) only [nI_clamp, nI_leI, nI_ltI, nI_eq, nI_1, nI_add, nI_not_neg, nI_is_pos, nI_m1, nI_z]) | refine brT (by first | assumption | decide | omega) ?_ | refine brF (by first | assumption | decide | omega) ?_ | refine brTn (by first | assumption | decide | omega) ?_ | refine brFn (by first | assumption | decide | omega) ?_ | refine And.intro (vp_in_nI (by omega) (by decide)) ?_ | refine And.intro (vp_lit (by decide)) ?_ | refine divJ (by decide) ?_ | refine divI (by decide) ?_)
            try change _ ∧ _
            exact ⟨rfl, O1, Or.inr ⟨f, p, Y, fun W => (gq W).trans (go 30 W (by decide) (by decide))⟩⟩
end CTEST
