/-! ===== ON ===== -/
abbrev isPx (s : ST) (x : Int32) : Prop := 0 ≤ x ∧ x < nI (zP s)
abbrev okP (s : ST) (x y : Int32) : Prop := (x = 255 ∧ y = 255) ∨ (isPx s x ∧ isPx s y)
abbrev imgOK (s : ST) (b : Nat → Int32) (n : Nat) : Prop := n = 2 * zT s + 3 ∧ b 0 = nI (zT s) ∧ b (2 * zT s + 1) = sO b (2 * zT s + 1) &&& 255 ∧ b (2 * zT s + 2) = xO b (2 * zT s + 1) ∧ ∀ t, t < zT s → okP s (b (2 * t + 1)) (b (2 * t + 2))
section ONS
variable {s : ST} {c v : RT} {h : HP} {b : Nat → Int32} {n : Nat}
theorem p255 (o : OK s) : ¬ isPx s 255 := by
  have hP := o.P
  rintro ⟨_, h2⟩
  rw [show (255 : Int32) = nI 255 from rfl, nI_ltI (by decide) (by omega)] at h2
  omega
theorem r_E_isPicture (R : RC s c v h) (o : OK s) (hn : n ≤ 900) (hb : ∀ i, i < n → h.1 2 i = b i) : Run 1 j_E_isPicture [.ref 0, .int (nI n)] h (some (.int (if imgOK s b n then 1 else 0))) h := by
  have hT := o.T; have hP := o.P; have hK := o.K; have hD := o.D; have hO := o.O; have hQ := o.Q; have hL := o.L
  have e23 : (2 : Int32) * nI (zT s) + 3 = nI (2 * zT s + 3) := by
    rw [show (2 : Int32) = nI 2 from rfl, show (3 : Int32) = nI 3 from rfl, pk_mul, nI_add]
  by_cases hn3 : n = 2 * zT s + 3
  · subst hn3
    have lp3 : (b 0 = nI (zT s) ∧ b (2 * zT s + 1) = sO b (2 * zT s + 1) &&& 255 ∧ b (2 * zT s + 2) = xO b (2 * zT s + 1)) → ∀ t, t ≤ zT s → ∀ x1 x2 x3, (∀ u, u < t → okP s (b (2 * u + 1)) (b (2 * u + 2))) → Wp 1 j_E_isPicture 122 [.ref 0, .int (nI (2 * zT s + 3)), .int (sO b (2 * zT s + 1)), .int (xO b (2 * zT s + 1)), .int (nI t), x1, x2, x3] [] h (fun v' h2 => v' = some (.int (if imgOK s b (2 * zT s + 3) then 1 else 0)) ∧ h2 = h) := by
      intro H
      refine up_ind ?_ (fun t ht ih => ?_)
      · intro x1 x2 x3 A
        repeat (first | (refine W1 rfl ?_; try refine Wp.norm (L' := [_, _, _, _, _, _, _, _]) rfl ?_) | refine brT (by first | decide | omega) ?_ | refine brF (by first | decide | omega) ?_ | refine brTn (by first | decide | omega) ?_ | refine brFn (by first | decide | omega) ?_ | refine And.intro (vp_lit (by decide)) ?_ | refine And.intro (vp_in_nI (by omega) (by decide)) ?_ | ((first | change (_ → _) ∧ (_ → _) | change vp_in _ _ ∧ _ | change ¬ _ ∧ _); simp (disch := omega) only [nI_clamp, nI_leI, nI_ltI, nI_eq, nI_1, nI_add, nI_not_neg, nI_is_pos, nI_m1, nI_z, R.T]))
        try change _ ∧ _
        rw [if_pos (show imgOK s b (2 * zT s + 3) from ⟨rfl, H.1, H.2.1, H.2.2, A⟩)]
        try first | exact ⟨rfl, rfl⟩ | exact ⟨Or.inr rfl, rfl, rfl⟩ | exact ⟨Or.inl rfl, rfl, rfl⟩ | exact ⟨trivial, trivial⟩ | exact ⟨rfl, trivial⟩ | exact ⟨Or.inr rfl, rfl, trivial⟩ | exact ⟨Or.inl rfl, rfl, trivial⟩
      · intro x1 x2 x3 A
        have i1 : (2 : Int32) * nI t + 1 = nI (2 * t + 1) := by
          rw [show (2 : Int32) = nI 2 from rfl, pk_mul, nI_1]
        have i2 : (2 : Int32) * nI t + 2 = nI (2 * t + 2) := by
          rw [show (2 : Int32) = nI 2 from rfl, pk_mul, nI_add]
        have bad : ¬ okP s (b (2 * t + 1)) (b (2 * t + 2)) → (if imgOK s b (2 * zT s + 3) then (1 : Int32) else 0) = 0 := fun z => if_neg (fun q => z (q.2.2.2.2 t ht))
        have tail : okP s (b (2 * t + 1)) (b (2 * t + 2)) → ∀ x, Wp 1 j_E_isPicture 214 [.ref 0, .int (nI (2 * zT s + 3)), .int (sO b (2 * zT s + 1)), .int (xO b (2 * zT s + 1)), .int (nI t), .int (b (2 * t + 1)), .int (b (2 * t + 2)), x] [] h (fun v' h2 => v' = some (.int (if imgOK s b (2 * zT s + 3) then 1 else 0)) ∧ h2 = h) := by
          intro ok x
          have ih := ih (.int (b (2 * t + 1))) (.int (b (2 * t + 2))) x (fun u hu => by
            rcases Nat.lt_or_eq_of_le (Nat.lt_succ_iff.mp hu) with e | e
            · exact A u e
            · rw [e]; exact ok)
          repeat (first | refine Wp.at ih rfl rfl ?_ rfl | (refine W1 rfl ?_; try refine Wp.norm (L' := [_, _, _, _, _, _, _, _]) rfl ?_) | refine brT (by first | decide | omega) ?_ | refine brF (by first | decide | omega) ?_ | refine brTn (by first | decide | omega) ?_ | refine brFn (by first | decide | omega) ?_ | refine And.intro (vp_lit (by decide)) ?_ | refine And.intro (vp_in_nI (by omega) (by decide)) ?_ | ((first | change (_ → _) ∧ (_ → _) | change vp_in _ _ ∧ _ | change ¬ _ ∧ _); simp (disch := omega) only [nI_clamp, nI_leI, nI_ltI, nI_eq, nI_1, nI_add, nI_not_neg, nI_is_pos, nI_m1, nI_z]))
          try change _ ∧ _
          first | rfl | (simp (disch := omega) only [nI_1, nI_add, nI_clamp] <;> first | done | rfl)
        have mid : ¬ (b (2 * t + 1) = 255 ∧ b (2 * t + 2) = 255) → Wp 1 j_E_isPicture 187 [.ref 0, .int (nI (2 * zT s + 3)), .int (sO b (2 * zT s + 1)), .int (xO b (2 * zT s + 1)), .int (nI t), .int (b (2 * t + 1)), .int (b (2 * t + 2)), x3] [.int 0] h (fun v' h2 => v' = some (.int (if imgOK s b (2 * zT s + 3) then 1 else 0)) ∧ h2 = h) := by
          intro no
          repeat (first | (refine W1 rfl ?_; try refine Wp.norm (L' := [_, _, _, _, _, _, _, _]) rfl ?_) | refine brT (by first | decide | omega) ?_ | refine brF (by first | decide | omega) ?_ | refine brTn (by first | decide | omega) ?_ | refine brFn (by first | decide | omega) ?_ | refine And.intro (vp_lit (by decide)) ?_ | refine And.intro (vp_in_nI (by omega) (by decide)) ?_ | ((first | change (_ → _) ∧ (_ → _) | change vp_in _ _ ∧ _ | change ¬ _ ∧ _); simp (disch := omega) only [nI_clamp, nI_leI, nI_ltI, nI_eq, nI_1, nI_add, nI_not_neg, nI_is_pos, nI_m1, nI_z]))
          try change _ ∧ _
          have g1 := r_E_isPerson h (b (2 * t + 1))
          rw [R.P] at g1
          refine Cl.of g1 (by decide) ?_
          by_cases p1 : isPx s (b (2 * t + 1))
          · rw [if_pos (show 0 ≤ b (2 * t + 1) ∧ b (2 * t + 1) < nI (zP s) from p1)]
            repeat (first | (refine W1 rfl ?_; try refine Wp.norm (L' := [_, _, _, _, _, _, _, _]) rfl ?_) | refine brT (by first | decide | omega) ?_ | refine brF (by first | decide | omega) ?_ | refine brTn (by first | decide | omega) ?_ | refine brFn (by first | decide | omega) ?_ | refine And.intro (vp_lit (by decide)) ?_ | refine And.intro (vp_in_nI (by omega) (by decide)) ?_ | ((first | change (_ → _) ∧ (_ → _) | change vp_in _ _ ∧ _ | change ¬ _ ∧ _); simp (disch := omega) only [nI_clamp, nI_leI, nI_ltI, nI_eq, nI_1, nI_add, nI_not_neg, nI_is_pos, nI_m1, nI_z]))
            try change _ ∧ _
            have g2 := r_E_isPerson h (b (2 * t + 2))
            rw [R.P] at g2
            refine Cl.of g2 (by decide) ?_
            by_cases p2 : isPx s (b (2 * t + 2))
            · rw [if_pos (show 0 ≤ b (2 * t + 2) ∧ b (2 * t + 2) < nI (zP s) from p2)]
              have ih := tail (Or.inr ⟨p1, p2⟩) (.int 0)
              repeat (first | refine Wp.at ih rfl rfl ?_ rfl | (refine W1 rfl ?_; try refine Wp.norm (L' := [_, _, _, _, _, _, _, _]) rfl ?_) | refine brT (by first | decide | omega) ?_ | refine brF (by first | decide | omega) ?_ | refine brTn (by first | decide | omega) ?_ | refine brFn (by first | decide | omega) ?_ | refine And.intro (vp_lit (by decide)) ?_ | refine And.intro (vp_in_nI (by omega) (by decide)) ?_ | ((first | change (_ → _) ∧ (_ → _) | change vp_in _ _ ∧ _ | change ¬ _ ∧ _); simp (disch := omega) only [nI_clamp, nI_leI, nI_ltI, nI_eq, nI_1, nI_add, nI_not_neg, nI_is_pos, nI_m1, nI_z]))
              try change _ ∧ _
              first | rfl | (simp (disch := omega) only [nI_1, nI_add, nI_clamp] <;> first | done | rfl)
            · rw [if_neg (show ¬ (0 ≤ b (2 * t + 2) ∧ b (2 * t + 2) < nI (zP s)) from p2)]
              repeat (first | (refine W1 rfl ?_; try refine Wp.norm (L' := [_, _, _, _, _, _, _, _]) rfl ?_) | refine brT (by first | decide | omega) ?_ | refine brF (by first | decide | omega) ?_ | refine brTn (by first | decide | omega) ?_ | refine brFn (by first | decide | omega) ?_ | refine And.intro (vp_lit (by decide)) ?_ | refine And.intro (vp_in_nI (by omega) (by decide)) ?_ | ((first | change (_ → _) ∧ (_ → _) | change vp_in _ _ ∧ _ | change ¬ _ ∧ _); simp (disch := omega) only [nI_clamp, nI_leI, nI_ltI, nI_eq, nI_1, nI_add, nI_not_neg, nI_is_pos, nI_m1, nI_z]))
              try change _ ∧ _
              rw [bad (by rintro (z | z); exact no z; exact p2 z.2)]
              try first | exact ⟨rfl, rfl⟩ | exact ⟨Or.inr rfl, rfl, rfl⟩ | exact ⟨Or.inl rfl, rfl, rfl⟩ | exact ⟨trivial, trivial⟩ | exact ⟨rfl, trivial⟩ | exact ⟨Or.inr rfl, rfl, trivial⟩ | exact ⟨Or.inl rfl, rfl, trivial⟩
          · rw [if_neg (show ¬ (0 ≤ b (2 * t + 1) ∧ b (2 * t + 1) < nI (zP s)) from p1)]
            repeat (first | (refine W1 rfl ?_; try refine Wp.norm (L' := [_, _, _, _, _, _, _, _]) rfl ?_) | refine brT (by first | decide | omega) ?_ | refine brF (by first | decide | omega) ?_ | refine brTn (by first | decide | omega) ?_ | refine brFn (by first | decide | omega) ?_ | refine And.intro (vp_lit (by decide)) ?_ | refine And.intro (vp_in_nI (by omega) (by decide)) ?_ | ((first | change (_ → _) ∧ (_ → _) | change vp_in _ _ ∧ _ | change ¬ _ ∧ _); simp (disch := omega) only [nI_clamp, nI_leI, nI_ltI, nI_eq, nI_1, nI_add, nI_not_neg, nI_is_pos, nI_m1, nI_z]))
            try change _ ∧ _
            rw [bad (by rintro (z | z); exact no z; exact p1 z.1)]
            try first | exact ⟨rfl, rfl⟩ | exact ⟨Or.inr rfl, rfl, rfl⟩ | exact ⟨Or.inl rfl, rfl, rfl⟩ | exact ⟨trivial, trivial⟩ | exact ⟨rfl, trivial⟩ | exact ⟨Or.inr rfl, rfl, trivial⟩ | exact ⟨Or.inl rfl, rfl, trivial⟩
        repeat (first | (refine W1 rfl ?_; try refine Wp.norm (L' := [_, _, _, _, _, _, _, _]) rfl ?_) | refine brT (by first | decide | omega) ?_ | refine brF (by first | decide | omega) ?_ | refine brTn (by first | decide | omega) ?_ | refine brFn (by first | decide | omega) ?_ | refine And.intro (vp_lit (by decide)) ?_ | refine And.intro (vp_in_nI (by omega) (by decide)) ?_ | ((first | change (_ → _) ∧ (_ → _) | change vp_in _ _ ∧ _ | change ¬ _ ∧ _); simp (disch := omega) only [nI_clamp, nI_leI, nI_ltI, nI_eq, nI_1, nI_add, nI_not_neg, nI_is_pos, nI_m1, nI_z, R.T, i1, i2, hb]))
        try change _ ∧ _
        refine ⟨fun q1 => ?_, fun q1 => ?_⟩
        · iterate 1 (refine W1 rfl ?_; try refine Wp.norm (L' := [_, _, _, _, _, _, _, _]) rfl ?_)
          exact mid (fun z => q1 z.1)
        · repeat (first | (refine W1 rfl ?_; try refine Wp.norm (L' := [_, _, _, _, _, _, _, _]) rfl ?_) | refine brT (by first | decide | omega) ?_ | refine brF (by first | decide | omega) ?_ | refine brTn (by first | decide | omega) ?_ | refine brFn (by first | decide | omega) ?_ | refine And.intro (vp_lit (by decide)) ?_ | refine And.intro (vp_in_nI (by omega) (by decide)) ?_ | ((first | change (_ → _) ∧ (_ → _) | change vp_in _ _ ∧ _ | change ¬ _ ∧ _); simp (disch := omega) only [nI_clamp, nI_leI, nI_ltI, nI_eq, nI_1, nI_add, nI_not_neg, nI_is_pos, nI_m1, nI_z]))
          try change _ ∧ _
          refine ⟨fun q2 => ?_, fun q2 => ?_⟩
          · iterate 1 (refine W1 rfl ?_; try refine Wp.norm (L' := [_, _, _, _, _, _, _, _]) rfl ?_)
            exact mid (fun z => q2 z.2)
          · have ih := tail (Or.inl ⟨q1, q2⟩) (.int 1)
            repeat (first | refine Wp.at ih rfl rfl ?_ rfl | (refine W1 rfl ?_; try refine Wp.norm (L' := [_, _, _, _, _, _, _, _]) rfl ?_) | refine brT (by first | decide | omega) ?_ | refine brF (by first | decide | omega) ?_ | refine brTn (by first | decide | omega) ?_ | refine brFn (by first | decide | omega) ?_ | refine And.intro (vp_lit (by decide)) ?_ | refine And.intro (vp_in_nI (by omega) (by decide)) ?_ | ((first | change (_ → _) ∧ (_ → _) | change vp_in _ _ ∧ _ | change ¬ _ ∧ _); simp (disch := omega) only [nI_clamp, nI_leI, nI_ltI, nI_eq, nI_1, nI_add, nI_not_neg, nI_is_pos, nI_m1, nI_z]))
            try change _ ∧ _
            first | rfl | (simp (disch := omega) only [nI_1, nI_add, nI_clamp] <;> first | done | rfl)
    have lp1 : b 0 = nI (zT s) → ∀ k, k ≤ 2 * zT s + 1 → Wp 1 j_E_isPicture 43 [.ref 0, .int (nI (2 * zT s + 3)), .int (sO b k), .int (xO b k), .int (nI k), .null, .null, .null] [] h (fun v' h2 => v' = some (.int (if imgOK s b (2 * zT s + 3) then 1 else 0)) ∧ h2 = h) := by
      intro b0
      have m2 : nI (2 * zT s + 3) - 2 = nI (2 * zT s + 1) := by rw [show (2 : Int32) = nI 2 from rfl, pk_sub (by omega)]; rfl
      have m1 : nI (2 * zT s + 3) - 1 = nI (2 * zT s + 2) := by rw [show (1 : Int32) = nI 1 from rfl, pk_sub (by omega)]; rfl
      refine up_ind ?_ (fun k hk ih => ?_)
      · repeat (first | (refine W1 rfl ?_; try refine Wp.norm (L' := [_, _, _, _, _, _, _, _]) rfl ?_) | refine brT (by first | decide | omega) ?_ | refine brF (by first | decide | omega) ?_ | refine brTn (by first | decide | omega) ?_ | refine brFn (by first | decide | omega) ?_ | refine And.intro (vp_lit (by decide)) ?_ | refine And.intro (vp_in_nI (by omega) (by decide)) ?_ | ((first | change (_ → _) ∧ (_ → _) | change vp_in _ _ ∧ _ | change ¬ _ ∧ _); simp (disch := omega) only [nI_clamp, nI_leI, nI_ltI, nI_eq, nI_1, nI_add, nI_not_neg, nI_is_pos, nI_m1, nI_z, m2, m1, hb]))
        try change _ ∧ _
        refine ⟨fun q1 => ?_, fun q1 => ?_⟩
        · rw [if_neg (fun z => q1 z.2.2.1)]
          repeat (first | (refine W1 rfl ?_; try refine Wp.norm (L' := [_, _, _, _, _, _, _, _]) rfl ?_) | refine brT (by first | decide | omega) ?_ | refine brF (by first | decide | omega) ?_ | refine brTn (by first | decide | omega) ?_ | refine brFn (by first | decide | omega) ?_ | refine And.intro (vp_lit (by decide)) ?_ | refine And.intro (vp_in_nI (by omega) (by decide)) ?_ | ((first | change (_ → _) ∧ (_ → _) | change vp_in _ _ ∧ _ | change ¬ _ ∧ _); simp (disch := omega) only [nI_clamp, nI_leI, nI_ltI, nI_eq, nI_1, nI_add, nI_not_neg, nI_is_pos, nI_m1, nI_z]))
          try change _ ∧ _
          try first | exact ⟨rfl, rfl⟩ | exact ⟨Or.inr rfl, rfl, rfl⟩ | exact ⟨Or.inl rfl, rfl, rfl⟩ | exact ⟨trivial, trivial⟩ | exact ⟨rfl, trivial⟩ | exact ⟨Or.inr rfl, rfl, trivial⟩ | exact ⟨Or.inl rfl, rfl, trivial⟩
        · repeat (first | (refine W1 rfl ?_; try refine Wp.norm (L' := [_, _, _, _, _, _, _, _]) rfl ?_) | refine brT (by first | decide | omega) ?_ | refine brF (by first | decide | omega) ?_ | refine brTn (by first | decide | omega) ?_ | refine brFn (by first | decide | omega) ?_ | refine And.intro (vp_lit (by decide)) ?_ | refine And.intro (vp_in_nI (by omega) (by decide)) ?_ | ((first | change (_ → _) ∧ (_ → _) | change vp_in _ _ ∧ _ | change ¬ _ ∧ _); simp (disch := omega) only [nI_clamp, nI_leI, nI_ltI, nI_eq, nI_1, nI_add, nI_not_neg, nI_is_pos, nI_m1, nI_z, m2, m1, hb]))
          try change _ ∧ _
          refine ⟨fun q2 => ?_, fun q2 => ?_⟩
          · have ih := lp3 ⟨b0, q1, q2⟩ 0 (Nat.zero_le _) .null .null .null (fun u hu => absurd hu (by omega))
            repeat (first | refine Wp.at ih rfl rfl ?_ rfl | (refine W1 rfl ?_; try refine Wp.norm (L' := [_, _, _, _, _, _, _, _]) rfl ?_) | refine brT (by first | decide | omega) ?_ | refine brF (by first | decide | omega) ?_ | refine brTn (by first | decide | omega) ?_ | refine brFn (by first | decide | omega) ?_ | refine And.intro (vp_lit (by decide)) ?_ | refine And.intro (vp_in_nI (by omega) (by decide)) ?_ | ((first | change (_ → _) ∧ (_ → _) | change vp_in _ _ ∧ _ | change ¬ _ ∧ _); simp (disch := omega) only [nI_clamp, nI_leI, nI_ltI, nI_eq, nI_1, nI_add, nI_not_neg, nI_is_pos, nI_m1, nI_z]))
            try change _ ∧ _
            first | rfl | (simp (disch := omega) only [nI_1, nI_add, nI_clamp] <;> first | done | rfl)
          · rw [if_neg (fun z => q2 z.2.2.2.1)]
            repeat (first | (refine W1 rfl ?_; try refine Wp.norm (L' := [_, _, _, _, _, _, _, _]) rfl ?_) | refine brT (by first | decide | omega) ?_ | refine brF (by first | decide | omega) ?_ | refine brTn (by first | decide | omega) ?_ | refine brFn (by first | decide | omega) ?_ | refine And.intro (vp_lit (by decide)) ?_ | refine And.intro (vp_in_nI (by omega) (by decide)) ?_ | ((first | change (_ → _) ∧ (_ → _) | change vp_in _ _ ∧ _ | change ¬ _ ∧ _); simp (disch := omega) only [nI_clamp, nI_leI, nI_ltI, nI_eq, nI_1, nI_add, nI_not_neg, nI_is_pos, nI_m1, nI_z]))
            try change _ ∧ _
            try first | exact ⟨rfl, rfl⟩ | exact ⟨Or.inr rfl, rfl, rfl⟩ | exact ⟨Or.inl rfl, rfl, rfl⟩ | exact ⟨trivial, trivial⟩ | exact ⟨rfl, trivial⟩ | exact ⟨Or.inr rfl, rfl, trivial⟩ | exact ⟨Or.inl rfl, rfl, trivial⟩
      · have e1 : sO b (k + 1) = sO b k + b k := rfl
        have e2 : xO b (k + 1) = xO b k ^^^ b k := rfl
        rw [e1, e2] at ih
        (refine W1 rfl ?_; try refine Wp.norm (L' := [_, _, _, _, _, _, _, _]) rfl ?_)
        repeat (first | refine Wp.at ih rfl rfl ?_ rfl | (refine W1 rfl ?_; try refine Wp.norm (L' := [_, _, _, _, _, _, _, _]) rfl ?_) | refine brT (by first | decide | omega) ?_ | refine brF (by first | decide | omega) ?_ | refine brTn (by first | decide | omega) ?_ | refine brFn (by first | decide | omega) ?_ | refine And.intro (vp_lit (by decide)) ?_ | refine And.intro (vp_in_nI (by omega) (by decide)) ?_ | ((first | change (_ → _) ∧ (_ → _) | change vp_in _ _ ∧ _ | change ¬ _ ∧ _); simp (disch := omega) only [nI_clamp, nI_leI, nI_ltI, nI_eq, nI_1, nI_add, nI_not_neg, nI_is_pos, nI_m1, nI_z, m2, m1]))
        try change _ ∧ _
        simp (disch := omega) only [nI_clamp, nI_1, hb]
    refine Run.of rfl ?_
    refine Wp.norm (L' := [_, _, _, _, _, _, _, _]) rfl ?_
    repeat (first | (refine W1 rfl ?_; try refine Wp.norm (L' := [_, _, _, _, _, _, _, _]) rfl ?_) | refine brT (by first | decide | omega) ?_ | refine brF (by first | decide | omega) ?_ | refine brTn (by first | decide | omega) ?_ | refine brFn (by first | decide | omega) ?_ | refine And.intro (vp_lit (by decide)) ?_ | refine And.intro (vp_in_nI (by omega) (by decide)) ?_ | ((first | change (_ → _) ∧ (_ → _) | change vp_in _ _ ∧ _ | change ¬ _ ∧ _); simp (disch := omega) only [nI_clamp, nI_leI, nI_ltI, nI_eq, nI_1, nI_add, nI_not_neg, nI_is_pos, nI_m1, nI_z, R.T, e23, hb, show Int32.toNatClampNeg 0 = 0 from rfl]))
    try change _ ∧ _
    refine ⟨fun q => ?_, fun q => ?_⟩
    · have ih := lp1 q 0 (Nat.zero_le _)
      repeat (first | refine Wp.at ih rfl rfl ?_ rfl | (refine W1 rfl ?_; try refine Wp.norm (L' := [_, _, _, _, _, _, _, _]) rfl ?_) | refine brT (by first | decide | omega) ?_ | refine brF (by first | decide | omega) ?_ | refine brTn (by first | decide | omega) ?_ | refine brFn (by first | decide | omega) ?_ | refine And.intro (vp_lit (by decide)) ?_ | refine And.intro (vp_in_nI (by omega) (by decide)) ?_ | ((first | change (_ → _) ∧ (_ → _) | change vp_in _ _ ∧ _ | change ¬ _ ∧ _); simp (disch := omega) only [nI_clamp, nI_leI, nI_ltI, nI_eq, nI_1, nI_add, nI_not_neg, nI_is_pos, nI_m1, nI_z]))
      try change _ ∧ _
      first | rfl | (simp (disch := omega) only [nI_1, nI_add, nI_clamp] <;> first | done | rfl)
    · rw [if_neg (fun z => q z.2.1)]
      repeat (first | (refine W1 rfl ?_; try refine Wp.norm (L' := [_, _, _, _, _, _, _, _]) rfl ?_) | refine brT (by first | decide | omega) ?_ | refine brF (by first | decide | omega) ?_ | refine brTn (by first | decide | omega) ?_ | refine brFn (by first | decide | omega) ?_ | refine And.intro (vp_lit (by decide)) ?_ | refine And.intro (vp_in_nI (by omega) (by decide)) ?_ | ((first | change (_ → _) ∧ (_ → _) | change vp_in _ _ ∧ _ | change ¬ _ ∧ _); simp (disch := omega) only [nI_clamp, nI_leI, nI_ltI, nI_eq, nI_1, nI_add, nI_not_neg, nI_is_pos, nI_m1, nI_z]))
      try change _ ∧ _
      try first | exact ⟨rfl, rfl⟩ | exact ⟨Or.inr rfl, rfl, rfl⟩ | exact ⟨Or.inl rfl, rfl, rfl⟩ | exact ⟨trivial, trivial⟩ | exact ⟨rfl, trivial⟩ | exact ⟨Or.inr rfl, rfl, trivial⟩ | exact ⟨Or.inl rfl, rfl, trivial⟩
  · refine Run.of rfl ?_
    refine Wp.norm (L' := [_, _, _, _, _, _, _, _]) rfl ?_
    repeat (first | (refine W1 rfl ?_; try refine Wp.norm (L' := [_, _, _, _, _, _, _, _]) rfl ?_) | refine brT (by first | decide | omega) ?_ | refine brF (by first | decide | omega) ?_ | refine brTn (by first | decide | omega) ?_ | refine brFn (by first | decide | omega) ?_ | refine And.intro (vp_lit (by decide)) ?_ | refine And.intro (vp_in_nI (by omega) (by decide)) ?_ | ((first | change (_ → _) ∧ (_ → _) | change vp_in _ _ ∧ _ | change ¬ _ ∧ _); simp (disch := omega) only [nI_clamp, nI_leI, nI_ltI, nI_eq, nI_1, nI_add, nI_not_neg, nI_is_pos, nI_m1, nI_z, R.T, e23]))
    try change _ ∧ _
    rw [if_neg (fun z => hn3 z.1)]
    try first | exact ⟨rfl, rfl⟩ | exact ⟨Or.inr rfl, rfl, rfl⟩ | exact ⟨Or.inl rfl, rfl, rfl⟩ | exact ⟨trivial, trivial⟩ | exact ⟨rfl, trivial⟩ | exact ⟨Or.inr rfl, rfl, trivial⟩ | exact ⟨Or.inl rfl, rfl, trivial⟩
end ONS
