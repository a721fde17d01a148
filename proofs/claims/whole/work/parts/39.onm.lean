/-! ===== ON: the model's side, and the clause ===== -/
section ONM
variable {s : ST} {c v : RT} {h : HP} {b : Nat → Int32} {n : Nat}
theorem r_M_isImage (R : RM s c v h) (o : OK s) (hn : n ≤ 900) (hb : ∀ i, i < n → h.1 66 i = b i) : Run 2 j_M_isImage [.ref 65, .int (nI n)] h (some (.int (if imgOK s b n then 1 else 0))) h := by
  have hT := o.T; have hP := o.P; have hK := o.K; have hD := o.D; have hO := o.O; have hQ := o.Q; have hL := o.L
  have e23 : (2 : Int32) * nI (zT s) + 3 = nI (2 * zT s + 3) := by
    rw [show (2 : Int32) = nI 2 from rfl, show (3 : Int32) = nI 3 from rfl, pk_mul, nI_add]
  by_cases hn3 : n = 2 * zT s + 3
  · subst hn3
    have lp3 : (b 0 = nI (zT s) ∧ b (2 * zT s + 1) = sO b (2 * zT s + 1) &&& 255 ∧ b (2 * zT s + 2) = xO b (2 * zT s + 1)) → ∀ t, t ≤ zT s → ∀ x1 x2, (∀ u, u < t → okP s (b (2 * u + 1)) (b (2 * u + 2))) → Wp 2 j_M_isImage 101 [.ref 65, .int (nI (2 * zT s + 3)), .int (sO b (2 * zT s + 1)), .int (xO b (2 * zT s + 1)), .int (nI t), x1, x2] [] h (fun v' h2 => v' = some (.int (if imgOK s b (2 * zT s + 3) then 1 else 0)) ∧ h2 = h) := by
      intro H
      refine up_ind ?_ (fun t ht ih => ?_)
      · intro x1 x2 A
        repeat (first | (refine W1 rfl ?_; try refine Wp.norm (L' := [_, _, _, _, _, _, _]) rfl ?_) | refine brT (by first | assumption | decide | omega) ?_ | refine brF (by first | assumption | decide | omega) ?_ | refine brTn (by first | assumption | decide | omega) ?_ | refine brFn (by first | assumption | decide | omega) ?_ | refine And.intro (vp_lit (by decide)) ?_ | refine And.intro (vp_in_nI (by omega) (by decide)) ?_ | ((first | change (_ → _) ∧ (_ → _) | change vp_in _ _ ∧ _ | change ¬ _ ∧ _); simp (disch := omega) only [nI_clamp, nI_leI, nI_ltI, nI_eq, nI_1, nI_add, nI_not_neg, nI_is_pos, nI_m1, nI_z, R.T]))
        try change _ ∧ _
        rw [if_pos (show imgOK s b (2 * zT s + 3) from ⟨rfl, H.1, H.2.1, H.2.2, A⟩)]
        try first | exact ⟨rfl, rfl⟩ | exact ⟨Or.inr rfl, rfl, rfl⟩ | exact ⟨Or.inl rfl, rfl, rfl⟩ | exact ⟨trivial, trivial⟩ | exact ⟨rfl, trivial⟩ | exact ⟨Or.inr rfl, rfl, trivial⟩ | exact ⟨Or.inl rfl, rfl, trivial⟩
      · intro x1 x2 A
        have i1 : (1 : Int32) + 2 * nI t = nI (2 * t + 1) := by
          rw [show (2 : Int32) = nI 2 from rfl, pk_mul, Int32.add_comm, nI_1]
        have i2 : (2 : Int32) + 2 * nI t = nI (2 * t + 2) := by
          rw [show (2 : Int32) = nI 2 from rfl, pk_mul, Int32.add_comm, nI_add]
        have bad : ¬ okP s (b (2 * t + 1)) (b (2 * t + 2)) → (if imgOK s b (2 * zT s + 3) then (1 : Int32) else 0) = 0 := fun z => if_neg (fun q => z (q.2.2.2.2 t ht))
        have tail : okP s (b (2 * t + 1)) (b (2 * t + 2)) → Wp 2 j_M_isImage 193 [.ref 65, .int (nI (2 * zT s + 3)), .int (sO b (2 * zT s + 1)), .int (xO b (2 * zT s + 1)), .int (nI t), .int (b (2 * t + 1)), .int (b (2 * t + 2))] [] h (fun v' h2 => v' = some (.int (if imgOK s b (2 * zT s + 3) then 1 else 0)) ∧ h2 = h) := by
          intro ok
          have ih := ih (.int (b (2 * t + 1))) (.int (b (2 * t + 2))) (fun u hu => by
            rcases Nat.lt_or_eq_of_le (Nat.lt_succ_iff.mp hu) with e | e
            · exact A u e
            · rw [e]; exact ok)
          repeat (first | refine Wp.at ih rfl rfl ?_ rfl | (refine W1 rfl ?_; try refine Wp.norm (L' := [_, _, _, _, _, _, _]) rfl ?_) | refine brT (by first | assumption | decide | omega) ?_ | refine brF (by first | assumption | decide | omega) ?_ | refine brTn (by first | assumption | decide | omega) ?_ | refine brFn (by first | assumption | decide | omega) ?_ | refine And.intro (vp_lit (by decide)) ?_ | refine And.intro (vp_in_nI (by omega) (by decide)) ?_ | ((first | change (_ → _) ∧ (_ → _) | change vp_in _ _ ∧ _ | change ¬ _ ∧ _); simp (disch := omega) only [nI_clamp, nI_leI, nI_ltI, nI_eq, nI_1, nI_add, nI_not_neg, nI_is_pos, nI_m1, nI_z]))
          try change _ ∧ _
          first | rfl | (simp (disch := omega) only [nI_1, nI_add, nI_clamp] <;> first | done | rfl)
        by_cases q1 : b (2 * t + 1) = 255
        · by_cases q2 : b (2 * t + 2) = 255
          · have ih := tail (Or.inl ⟨q1, q2⟩)
            repeat (first | refine Wp.at ih rfl rfl ?_ rfl | (refine W1 rfl ?_; try refine Wp.norm (L' := [_, _, _, _, _, _, _]) rfl ?_) | refine brT (by first | assumption | decide | omega) ?_ | refine brF (by first | assumption | decide | omega) ?_ | refine brTn (by first | assumption | decide | omega) ?_ | refine brFn (by first | assumption | decide | omega) ?_ | refine And.intro (vp_lit (by decide)) ?_ | refine And.intro (vp_in_nI (by omega) (by decide)) ?_ | ((first | change (_ → _) ∧ (_ → _) | change vp_in _ _ ∧ _ | change ¬ _ ∧ _); simp (disch := omega) only [nI_clamp, nI_leI, nI_ltI, nI_eq, nI_1, nI_add, nI_not_neg, nI_is_pos, nI_m1, nI_z, R.T, i1, i2, hb]))
            try change _ ∧ _
            first | rfl | (simp (disch := omega) only [nI_1, nI_add, nI_clamp] <;> first | done | rfl)
          · repeat (first | (refine W1 rfl ?_; try refine Wp.norm (L' := [_, _, _, _, _, _, _]) rfl ?_) | refine brT (by first | assumption | decide | omega) ?_ | refine brF (by first | assumption | decide | omega) ?_ | refine brTn (by first | assumption | decide | omega) ?_ | refine brFn (by first | assumption | decide | omega) ?_ | refine And.intro (vp_lit (by decide)) ?_ | refine And.intro (vp_in_nI (by omega) (by decide)) ?_ | ((first | change (_ → _) ∧ (_ → _) | change vp_in _ _ ∧ _ | change ¬ _ ∧ _); simp (disch := omega) only [nI_clamp, nI_leI, nI_ltI, nI_eq, nI_1, nI_add, nI_not_neg, nI_is_pos, nI_m1, nI_z, R.T, i1, i2, hb]))
            try change _ ∧ _
            rw [bad (by rintro (z | z); exact q2 z.2; exact p255 o (by rw [← q1]; exact z.1))]
            try first | exact ⟨rfl, rfl⟩ | exact ⟨Or.inr rfl, rfl, rfl⟩ | exact ⟨Or.inl rfl, rfl, rfl⟩ | exact ⟨trivial, trivial⟩ | exact ⟨rfl, trivial⟩ | exact ⟨Or.inr rfl, rfl, trivial⟩ | exact ⟨Or.inl rfl, rfl, trivial⟩
        · by_cases q2 : b (2 * t + 2) = 255
          · repeat (first | (refine W1 rfl ?_; try refine Wp.norm (L' := [_, _, _, _, _, _, _]) rfl ?_) | refine brT (by first | assumption | decide | omega) ?_ | refine brF (by first | assumption | decide | omega) ?_ | refine brTn (by first | assumption | decide | omega) ?_ | refine brFn (by first | assumption | decide | omega) ?_ | refine And.intro (vp_lit (by decide)) ?_ | refine And.intro (vp_in_nI (by omega) (by decide)) ?_ | ((first | change (_ → _) ∧ (_ → _) | change vp_in _ _ ∧ _ | change ¬ _ ∧ _); simp (disch := omega) only [nI_clamp, nI_leI, nI_ltI, nI_eq, nI_1, nI_add, nI_not_neg, nI_is_pos, nI_m1, nI_z, R.T, i1, i2, hb]))
            try change _ ∧ _
            rw [bad (by rintro (z | z); exact q1 z.1; exact p255 o (by rw [← q2]; exact z.2))]
            try first | exact ⟨rfl, rfl⟩ | exact ⟨Or.inr rfl, rfl, rfl⟩ | exact ⟨Or.inl rfl, rfl, rfl⟩ | exact ⟨trivial, trivial⟩ | exact ⟨rfl, trivial⟩ | exact ⟨Or.inr rfl, rfl, trivial⟩ | exact ⟨Or.inl rfl, rfl, trivial⟩
          · repeat (first | (refine W1 rfl ?_; try refine Wp.norm (L' := [_, _, _, _, _, _, _]) rfl ?_) | refine brT (by first | assumption | decide | omega) ?_ | refine brF (by first | assumption | decide | omega) ?_ | refine brTn (by first | assumption | decide | omega) ?_ | refine brFn (by first | assumption | decide | omega) ?_ | refine And.intro (vp_lit (by decide)) ?_ | refine And.intro (vp_in_nI (by omega) (by decide)) ?_ | ((first | change (_ → _) ∧ (_ → _) | change vp_in _ _ ∧ _ | change ¬ _ ∧ _); simp (disch := omega) only [nI_clamp, nI_leI, nI_ltI, nI_eq, nI_1, nI_add, nI_not_neg, nI_is_pos, nI_m1, nI_z, R.T, i1, i2, hb]))
            try change _ ∧ _
            have g1 := r_M_isPerson h (b (2 * t + 1)) (by rw [R.P]; exact nI_pos' (by omega))
            rw [R.P] at g1
            refine Cl.of g1 (by decide) ?_
            by_cases p1 : isPx s (b (2 * t + 1))
            · rw [if_pos (show 0 ≤ b (2 * t + 1) ∧ b (2 * t + 1) < nI (zP s) from p1)]
              repeat (first | (refine W1 rfl ?_; try refine Wp.norm (L' := [_, _, _, _, _, _, _]) rfl ?_) | refine brT (by first | assumption | decide | omega) ?_ | refine brF (by first | assumption | decide | omega) ?_ | refine brTn (by first | assumption | decide | omega) ?_ | refine brFn (by first | assumption | decide | omega) ?_ | refine And.intro (vp_lit (by decide)) ?_ | refine And.intro (vp_in_nI (by omega) (by decide)) ?_ | ((first | change (_ → _) ∧ (_ → _) | change vp_in _ _ ∧ _ | change ¬ _ ∧ _); simp (disch := omega) only [nI_clamp, nI_leI, nI_ltI, nI_eq, nI_1, nI_add, nI_not_neg, nI_is_pos, nI_m1, nI_z]))
              try change _ ∧ _
              have g2 := r_M_isPerson h (b (2 * t + 2)) (by rw [R.P]; exact nI_pos' (by omega))
              rw [R.P] at g2
              refine Cl.of g2 (by decide) ?_
              by_cases p2 : isPx s (b (2 * t + 2))
              · rw [if_pos (show 0 ≤ b (2 * t + 2) ∧ b (2 * t + 2) < nI (zP s) from p2)]
                have ih := tail (Or.inr ⟨p1, p2⟩)
                repeat (first | refine Wp.at ih rfl rfl ?_ rfl | (refine W1 rfl ?_; try refine Wp.norm (L' := [_, _, _, _, _, _, _]) rfl ?_) | refine brT (by first | assumption | decide | omega) ?_ | refine brF (by first | assumption | decide | omega) ?_ | refine brTn (by first | assumption | decide | omega) ?_ | refine brFn (by first | assumption | decide | omega) ?_ | refine And.intro (vp_lit (by decide)) ?_ | refine And.intro (vp_in_nI (by omega) (by decide)) ?_ | ((first | change (_ → _) ∧ (_ → _) | change vp_in _ _ ∧ _ | change ¬ _ ∧ _); simp (disch := omega) only [nI_clamp, nI_leI, nI_ltI, nI_eq, nI_1, nI_add, nI_not_neg, nI_is_pos, nI_m1, nI_z]))
                try change _ ∧ _
                first | rfl | (simp (disch := omega) only [nI_1, nI_add, nI_clamp] <;> first | done | rfl)
              · rw [if_neg (show ¬ (0 ≤ b (2 * t + 2) ∧ b (2 * t + 2) < nI (zP s)) from p2)]
                repeat (first | (refine W1 rfl ?_; try refine Wp.norm (L' := [_, _, _, _, _, _, _]) rfl ?_) | refine brT (by first | assumption | decide | omega) ?_ | refine brF (by first | assumption | decide | omega) ?_ | refine brTn (by first | assumption | decide | omega) ?_ | refine brFn (by first | assumption | decide | omega) ?_ | refine And.intro (vp_lit (by decide)) ?_ | refine And.intro (vp_in_nI (by omega) (by decide)) ?_ | ((first | change (_ → _) ∧ (_ → _) | change vp_in _ _ ∧ _ | change ¬ _ ∧ _); simp (disch := omega) only [nI_clamp, nI_leI, nI_ltI, nI_eq, nI_1, nI_add, nI_not_neg, nI_is_pos, nI_m1, nI_z]))
                try change _ ∧ _
                rw [bad (by rintro (z | z); exact q1 z.1; exact p2 z.2)]
                try first | exact ⟨rfl, rfl⟩ | exact ⟨Or.inr rfl, rfl, rfl⟩ | exact ⟨Or.inl rfl, rfl, rfl⟩ | exact ⟨trivial, trivial⟩ | exact ⟨rfl, trivial⟩ | exact ⟨Or.inr rfl, rfl, trivial⟩ | exact ⟨Or.inl rfl, rfl, trivial⟩
            · rw [if_neg (show ¬ (0 ≤ b (2 * t + 1) ∧ b (2 * t + 1) < nI (zP s)) from p1)]
              repeat (first | (refine W1 rfl ?_; try refine Wp.norm (L' := [_, _, _, _, _, _, _]) rfl ?_) | refine brT (by first | assumption | decide | omega) ?_ | refine brF (by first | assumption | decide | omega) ?_ | refine brTn (by first | assumption | decide | omega) ?_ | refine brFn (by first | assumption | decide | omega) ?_ | refine And.intro (vp_lit (by decide)) ?_ | refine And.intro (vp_in_nI (by omega) (by decide)) ?_ | ((first | change (_ → _) ∧ (_ → _) | change vp_in _ _ ∧ _ | change ¬ _ ∧ _); simp (disch := omega) only [nI_clamp, nI_leI, nI_ltI, nI_eq, nI_1, nI_add, nI_not_neg, nI_is_pos, nI_m1, nI_z]))
              try change _ ∧ _
              rw [bad (by rintro (z | z); exact q1 z.1; exact p1 z.1)]
              try first | exact ⟨rfl, rfl⟩ | exact ⟨Or.inr rfl, rfl, rfl⟩ | exact ⟨Or.inl rfl, rfl, rfl⟩ | exact ⟨trivial, trivial⟩ | exact ⟨rfl, trivial⟩ | exact ⟨Or.inr rfl, rfl, trivial⟩ | exact ⟨Or.inl rfl, rfl, trivial⟩
    have lp1 : b 0 = nI (zT s) → ∀ k, k ≤ 2 * zT s + 1 → Wp 2 j_M_isImage 34 [.ref 65, .int (nI (2 * zT s + 3)), .int (sO b k), .int (xO b k), .int (nI k), .null, .null] [] h (fun v' h2 => v' = some (.int (if imgOK s b (2 * zT s + 3) then 1 else 0)) ∧ h2 = h) := by
      intro b0
      have m2 : nI (2 * zT s + 3) - 2 = nI (2 * zT s + 1) := by rw [show (2 : Int32) = nI 2 from rfl, pk_sub (by omega)]; rfl
      have m1 : nI (2 * zT s + 3) - 1 = nI (2 * zT s + 2) := by rw [show (1 : Int32) = nI 1 from rfl, pk_sub (by omega)]; rfl
      refine up_ind ?_ (fun k hk ih => ?_)
      · repeat (first | (refine W1 rfl ?_; try refine Wp.norm (L' := [_, _, _, _, _, _, _]) rfl ?_) | refine brT (by first | assumption | decide | omega) ?_ | refine brF (by first | assumption | decide | omega) ?_ | refine brTn (by first | assumption | decide | omega) ?_ | refine brFn (by first | assumption | decide | omega) ?_ | refine And.intro (vp_lit (by decide)) ?_ | refine And.intro (vp_in_nI (by omega) (by decide)) ?_ | ((first | change (_ → _) ∧ (_ → _) | change vp_in _ _ ∧ _ | change ¬ _ ∧ _); simp (disch := omega) only [nI_clamp, nI_leI, nI_ltI, nI_eq, nI_1, nI_add, nI_not_neg, nI_is_pos, nI_m1, nI_z, m2, m1, hb]))
        try change _ ∧ _
        refine ⟨fun q1 => ?_, fun q1 => ?_⟩
        · rw [if_neg (fun z => q1 z.2.2.1)]
          repeat (first | (refine W1 rfl ?_; try refine Wp.norm (L' := [_, _, _, _, _, _, _]) rfl ?_) | refine brT (by first | assumption | decide | omega) ?_ | refine brF (by first | assumption | decide | omega) ?_ | refine brTn (by first | assumption | decide | omega) ?_ | refine brFn (by first | assumption | decide | omega) ?_ | refine And.intro (vp_lit (by decide)) ?_ | refine And.intro (vp_in_nI (by omega) (by decide)) ?_ | ((first | change (_ → _) ∧ (_ → _) | change vp_in _ _ ∧ _ | change ¬ _ ∧ _); simp (disch := omega) only [nI_clamp, nI_leI, nI_ltI, nI_eq, nI_1, nI_add, nI_not_neg, nI_is_pos, nI_m1, nI_z]))
          try change _ ∧ _
          try first | exact ⟨rfl, rfl⟩ | exact ⟨Or.inr rfl, rfl, rfl⟩ | exact ⟨Or.inl rfl, rfl, rfl⟩ | exact ⟨trivial, trivial⟩ | exact ⟨rfl, trivial⟩ | exact ⟨Or.inr rfl, rfl, trivial⟩ | exact ⟨Or.inl rfl, rfl, trivial⟩
        · repeat (first | (refine W1 rfl ?_; try refine Wp.norm (L' := [_, _, _, _, _, _, _]) rfl ?_) | refine brT (by first | assumption | decide | omega) ?_ | refine brF (by first | assumption | decide | omega) ?_ | refine brTn (by first | assumption | decide | omega) ?_ | refine brFn (by first | assumption | decide | omega) ?_ | refine And.intro (vp_lit (by decide)) ?_ | refine And.intro (vp_in_nI (by omega) (by decide)) ?_ | ((first | change (_ → _) ∧ (_ → _) | change vp_in _ _ ∧ _ | change ¬ _ ∧ _); simp (disch := omega) only [nI_clamp, nI_leI, nI_ltI, nI_eq, nI_1, nI_add, nI_not_neg, nI_is_pos, nI_m1, nI_z, m2, m1, hb]))
          try change _ ∧ _
          refine ⟨fun q2 => ?_, fun q2 => ?_⟩
          · have ih := lp3 ⟨b0, q1, q2⟩ 0 (Nat.zero_le _) .null .null (fun u hu => absurd hu (by omega))
            repeat (first | refine Wp.at ih rfl rfl ?_ rfl | (refine W1 rfl ?_; try refine Wp.norm (L' := [_, _, _, _, _, _, _]) rfl ?_) | refine brT (by first | assumption | decide | omega) ?_ | refine brF (by first | assumption | decide | omega) ?_ | refine brTn (by first | assumption | decide | omega) ?_ | refine brFn (by first | assumption | decide | omega) ?_ | refine And.intro (vp_lit (by decide)) ?_ | refine And.intro (vp_in_nI (by omega) (by decide)) ?_ | ((first | change (_ → _) ∧ (_ → _) | change vp_in _ _ ∧ _ | change ¬ _ ∧ _); simp (disch := omega) only [nI_clamp, nI_leI, nI_ltI, nI_eq, nI_1, nI_add, nI_not_neg, nI_is_pos, nI_m1, nI_z]))
            try change _ ∧ _
            first | rfl | (simp (disch := omega) only [nI_1, nI_add, nI_clamp] <;> first | done | rfl)
          · rw [if_neg (fun z => q2 z.2.2.2.1)]
            repeat (first | (refine W1 rfl ?_; try refine Wp.norm (L' := [_, _, _, _, _, _, _]) rfl ?_) | refine brT (by first | assumption | decide | omega) ?_ | refine brF (by first | assumption | decide | omega) ?_ | refine brTn (by first | assumption | decide | omega) ?_ | refine brFn (by first | assumption | decide | omega) ?_ | refine And.intro (vp_lit (by decide)) ?_ | refine And.intro (vp_in_nI (by omega) (by decide)) ?_ | ((first | change (_ → _) ∧ (_ → _) | change vp_in _ _ ∧ _ | change ¬ _ ∧ _); simp (disch := omega) only [nI_clamp, nI_leI, nI_ltI, nI_eq, nI_1, nI_add, nI_not_neg, nI_is_pos, nI_m1, nI_z]))
            try change _ ∧ _
            try first | exact ⟨rfl, rfl⟩ | exact ⟨Or.inr rfl, rfl, rfl⟩ | exact ⟨Or.inl rfl, rfl, rfl⟩ | exact ⟨trivial, trivial⟩ | exact ⟨rfl, trivial⟩ | exact ⟨Or.inr rfl, rfl, trivial⟩ | exact ⟨Or.inl rfl, rfl, trivial⟩
      · have e1 : sO b (k + 1) = sO b k + b k := rfl
        have e2 : xO b (k + 1) = xO b k ^^^ b k := rfl
        rw [e1, e2] at ih
        (refine W1 rfl ?_; try refine Wp.norm (L' := [_, _, _, _, _, _, _]) rfl ?_)
        repeat (first | refine Wp.at ih rfl rfl ?_ rfl | (refine W1 rfl ?_; try refine Wp.norm (L' := [_, _, _, _, _, _, _]) rfl ?_) | refine brT (by first | assumption | decide | omega) ?_ | refine brF (by first | assumption | decide | omega) ?_ | refine brTn (by first | assumption | decide | omega) ?_ | refine brFn (by first | assumption | decide | omega) ?_ | refine And.intro (vp_lit (by decide)) ?_ | refine And.intro (vp_in_nI (by omega) (by decide)) ?_ | ((first | change (_ → _) ∧ (_ → _) | change vp_in _ _ ∧ _ | change ¬ _ ∧ _); simp (disch := omega) only [nI_clamp, nI_leI, nI_ltI, nI_eq, nI_1, nI_add, nI_not_neg, nI_is_pos, nI_m1, nI_z, m2, m1]))
        try change _ ∧ _
        simp (disch := omega) only [nI_clamp, nI_1, hb]
    refine Run.of rfl ?_
    refine Wp.norm (L' := [_, _, _, _, _, _, _]) rfl ?_
    repeat (first | (refine W1 rfl ?_; try refine Wp.norm (L' := [_, _, _, _, _, _, _]) rfl ?_) | refine brT (by first | assumption | decide | omega) ?_ | refine brF (by first | assumption | decide | omega) ?_ | refine brTn (by first | assumption | decide | omega) ?_ | refine brFn (by first | assumption | decide | omega) ?_ | refine And.intro (vp_lit (by decide)) ?_ | refine And.intro (vp_in_nI (by omega) (by decide)) ?_ | ((first | change (_ → _) ∧ (_ → _) | change vp_in _ _ ∧ _ | change ¬ _ ∧ _); simp (disch := omega) only [nI_clamp, nI_leI, nI_ltI, nI_eq, nI_1, nI_add, nI_not_neg, nI_is_pos, nI_m1, nI_z, R.T, e23, hb, show Int32.toNatClampNeg 0 = 0 from rfl]))
    try change _ ∧ _
    refine ⟨fun q => ?_, fun q => ?_⟩
    · have ih := lp1 q 0 (Nat.zero_le _)
      repeat (first | refine Wp.at ih rfl rfl ?_ rfl | (refine W1 rfl ?_; try refine Wp.norm (L' := [_, _, _, _, _, _, _]) rfl ?_) | refine brT (by first | assumption | decide | omega) ?_ | refine brF (by first | assumption | decide | omega) ?_ | refine brTn (by first | assumption | decide | omega) ?_ | refine brFn (by first | assumption | decide | omega) ?_ | refine And.intro (vp_lit (by decide)) ?_ | refine And.intro (vp_in_nI (by omega) (by decide)) ?_ | ((first | change (_ → _) ∧ (_ → _) | change vp_in _ _ ∧ _ | change ¬ _ ∧ _); simp (disch := omega) only [nI_clamp, nI_leI, nI_ltI, nI_eq, nI_1, nI_add, nI_not_neg, nI_is_pos, nI_m1, nI_z]))
      try change _ ∧ _
      first | rfl | (simp (disch := omega) only [nI_1, nI_add, nI_clamp] <;> first | done | rfl)
    · rw [if_neg (fun z => q z.2.1)]
      repeat (first | (refine W1 rfl ?_; try refine Wp.norm (L' := [_, _, _, _, _, _, _]) rfl ?_) | refine brT (by first | assumption | decide | omega) ?_ | refine brF (by first | assumption | decide | omega) ?_ | refine brTn (by first | assumption | decide | omega) ?_ | refine brFn (by first | assumption | decide | omega) ?_ | refine And.intro (vp_lit (by decide)) ?_ | refine And.intro (vp_in_nI (by omega) (by decide)) ?_ | ((first | change (_ → _) ∧ (_ → _) | change vp_in _ _ ∧ _ | change ¬ _ ∧ _); simp (disch := omega) only [nI_clamp, nI_leI, nI_ltI, nI_eq, nI_1, nI_add, nI_not_neg, nI_is_pos, nI_m1, nI_z]))
      try change _ ∧ _
      try first | exact ⟨rfl, rfl⟩ | exact ⟨Or.inr rfl, rfl, rfl⟩ | exact ⟨Or.inl rfl, rfl, rfl⟩ | exact ⟨trivial, trivial⟩ | exact ⟨rfl, trivial⟩ | exact ⟨Or.inr rfl, rfl, trivial⟩ | exact ⟨Or.inl rfl, rfl, trivial⟩
  · refine Run.of rfl ?_
    refine Wp.norm (L' := [_, _, _, _, _, _, _]) rfl ?_
    repeat (first | (refine W1 rfl ?_; try refine Wp.norm (L' := [_, _, _, _, _, _, _]) rfl ?_) | refine brT (by first | assumption | decide | omega) ?_ | refine brF (by first | assumption | decide | omega) ?_ | refine brTn (by first | assumption | decide | omega) ?_ | refine brFn (by first | assumption | decide | omega) ?_ | refine And.intro (vp_lit (by decide)) ?_ | refine And.intro (vp_in_nI (by omega) (by decide)) ?_ | ((first | change (_ → _) ∧ (_ → _) | change vp_in _ _ ∧ _ | change ¬ _ ∧ _); simp (disch := omega) only [nI_clamp, nI_leI, nI_ltI, nI_eq, nI_1, nI_add, nI_not_neg, nI_is_pos, nI_m1, nI_z, R.T, e23]))
    try change _ ∧ _
    rw [if_neg (fun z => hn3 z.1)]
    try first | exact ⟨rfl, rfl⟩ | exact ⟨Or.inr rfl, rfl, rfl⟩ | exact ⟨Or.inl rfl, rfl, rfl⟩ | exact ⟨trivial, trivial⟩ | exact ⟨rfl, trivial⟩ | exact ⟨Or.inr rfl, rfl, trivial⟩ | exact ⟨Or.inl rfl, rfl, trivial⟩
def cN (b : Nat → Int32) (t : Nat) : Int32 := if b (2 * t + 1) = 255 then -1 else b (2 * t + 1)
def vN (b : Nat → Int32) (t : Nat) : Int32 := if b (2 * t + 2) = 255 then -1 else b (2 * t + 2)
def cNN (b : Nat → Int32) (c : RT) (m t : Nat) : Int32 := if t < m then cN b t else c t
def vNN (b : Nat → Int32) (v : RT) (m t : Nat) : Int32 := if t < m then vN b t else v t
theorem cNN_s (b : Nat → Int32) (c : RT) (m : Nat) : upd (cNN b c m) m (cN b m) = cNN b c (m + 1) := by
  funext t
  by_cases e : t = m
  · subst e
    rw [pk_us, cNN, if_pos (by omega)]
  · rw [pk_un e]
    unfold cNN
    by_cases h1 : t < m
    · rw [if_pos h1, if_pos (by omega)]
    · rw [if_neg h1, if_neg (by omega)]
theorem vNN_s (b : Nat → Int32) (c : RT) (m : Nat) : upd (vNN b c m) m (vN b m) = vNN b c (m + 1) := by
  funext t
  by_cases e : t = m
  · subst e
    rw [pk_us, vNN, if_pos (by omega)]
  · rw [pk_un e]
    unfold vNN
    by_cases h1 : t < m
    · rw [if_pos h1, if_pos (by omega)]
    · rw [if_neg h1, if_neg (by omega)]
theorem cNN_0 (b : Nat → Int32) (c : RT) : cNN b c 0 = c := by funext t; rfl
theorem vNN_0 (b : Nat → Int32) (c : RT) : vNN b c 0 = c := by funext t; rfl
theorem w_E_on (R : RC s c v h) (o : OK s) (hn : n ≤ 900) (hN : h.1 1 1 = nI n) (hb : ∀ i, i < n → h.1 2 i = b i) : ∃ w h', Run 2 j_E_on [.ref 0] h w h' ∧ (w = some (.int (if imgOK s b n then 1 else 0)) ∧ only [1, 46, 47] h h' ∧ h'.1 1 1 = 0 ∧ RC s (if imgOK s b n then cNN b c (zT s) else c) (if imgOK s b n then vNN b v (zT s) else v) h') := by
  have hT := o.T; have hP := o.P; have hK := o.K; have hD := o.D; have hO := o.O; have hQ := o.Q; have hL := o.L
  refine Run.ofP rfl ?_
  refine Wp.norm (L' := [_, _, _, _, _]) rfl ?_
  have R0 : RC s c v (wI h 1 1 0) := R.sr (SameK.ofI h _ rfl)
  have O0 : only [1, 46, 47] h (wI h 1 1 0) := (only.rfl _ h).add (by decide)
  have B0 : ∀ i, i < n → (wI h 1 1 0).1 2 i = b i := fun i hi => by rw [wI_ne _ _ _ (by decide)]; exact hb i hi
  repeat (first | (refine W1 rfl ?_; try refine Wp.norm (L' := [_, _, _, _, _]) rfl ?_) | refine brT (by first | assumption | decide | omega) ?_ | refine brF (by first | assumption | decide | omega) ?_ | refine brTn (by first | assumption | decide | omega) ?_ | refine brFn (by first | assumption | decide | omega) ?_ | refine And.intro (vp_lit (by decide)) ?_ | refine And.intro (vp_in_nI (by omega) (by decide)) ?_ | ((first | change (_ → _) ∧ (_ → _) | change vp_in _ _ ∧ _ | change ¬ _ ∧ _); simp (disch := omega) only [nI_clamp, nI_leI, nI_ltI, nI_eq, nI_1, nI_add, nI_not_neg, nI_is_pos, nI_m1, nI_z, hN]))
  try change _ ∧ _
  have r0 := r_E_isPicture R0 o hn B0
  rw [← hN] at r0
  refine Cl.of r0 (by decide) ?_
  by_cases I : imgOK s b n
  · rw [if_pos I]
    rw [if_pos I, if_pos I]
    have lp : ∀ t, t ≤ zT s → ∀ h' x3 x4, only [1, 46, 47] h h' → h'.1 1 1 = 0 → RC s (cNN b c t) (vNN b v t) h' → Wp 2 j_E_on 28 [.ref 0, .int (nI n), .int (nI t), x3, x4] [] h' (fun w h' => w = some (.int 1) ∧ only [1, 46, 47] h h' ∧ h'.1 1 1 = 0 ∧ RC s (cNN b c (zT s)) (vNN b v (zT s)) h') := by
      refine up_ind ?_ (fun t ht ih => ?_)
      · intro h' x3 x4 O Z R'
        repeat (first | (refine W1 rfl ?_; try refine Wp.norm (L' := [_, _, _, _, _]) rfl ?_) | refine brT (by first | assumption | decide | omega) ?_ | refine brF (by first | assumption | decide | omega) ?_ | refine brTn (by first | assumption | decide | omega) ?_ | refine brFn (by first | assumption | decide | omega) ?_ | refine And.intro (vp_lit (by decide)) ?_ | refine And.intro (vp_in_nI (by omega) (by decide)) ?_ | ((first | change (_ → _) ∧ (_ → _) | change vp_in _ _ ∧ _ | change ¬ _ ∧ _); simp (disch := omega) only [nI_clamp, nI_leI, nI_ltI, nI_eq, nI_1, nI_add, nI_not_neg, nI_is_pos, nI_m1, nI_z, R'.T]))
        try change _ ∧ _
        exact ⟨Or.inr rfl, rfl, O, Z, R'⟩
      · intro h' x3 x4 O Z R'
        have i1 : (2 : Int32) * nI t + 1 = nI (2 * t + 1) := by
          rw [show (2 : Int32) = nI 2 from rfl, pk_mul, nI_1]
        have i2 : (2 : Int32) * nI t + 2 = nI (2 * t + 2) := by
          rw [show (2 : Int32) = nI 2 from rfl, pk_mul, nI_add]
        have hnn : n = 2 * zT s + 3 := I.1
        have B' : ∀ i, i < n → h'.1 2 i = b i := fun i hi => by rw [O.1 2 i (by decide)]; exact hb i hi
        have ih := ih (wI (wI h' 46 t (cN b t)) 47 t (vN b t)) (.int (b (2 * t + 1))) (.int (b (2 * t + 2))) ((O.add (by decide)).add (by decide)) (by rw [wI_ne _ _ _ (by decide), wI_ne _ _ _ (by decide)]; exact Z) (by
          rw [← cNN_s, ← vNN_s]
          exact (R'.c46 t _).c47 t _)
        unfold cN vN at ih
        by_cases q1 : b (2 * t + 1) = 255
        · rw [if_pos q1] at ih
          by_cases q2 : b (2 * t + 2) = 255
          · rw [if_pos q2] at ih
            (refine W1 rfl ?_; try refine Wp.norm (L' := [_, _, _, _, _]) rfl ?_)
            repeat (first | refine Wp.at ih rfl rfl ?_ ?_ | (refine W1 rfl ?_; try refine Wp.norm (L' := [_, _, _, _, _]) rfl ?_) | refine brT (by first | assumption | decide | omega) ?_ | refine brF (by first | assumption | decide | omega) ?_ | refine brTn (by first | assumption | decide | omega) ?_ | refine brFn (by first | assumption | decide | omega) ?_ | refine And.intro (vp_lit (by decide)) ?_ | refine And.intro (vp_in_nI (by omega) (by decide)) ?_ | ((first | change (_ → _) ∧ (_ → _) | change vp_in _ _ ∧ _ | change ¬ _ ∧ _); simp (disch := omega) only [nI_clamp, nI_leI, nI_ltI, nI_eq, nI_1, nI_add, nI_not_neg, nI_is_pos, nI_m1, nI_z, R'.T, i1, i2, B']))
            try change _ ∧ _
            · first | rfl | (simp (disch := omega) only [nI_1, nI_add, nI_clamp] <;> first | done | rfl)
            · first | rfl | (simp (disch := omega) only [nI_1, nI_add, nI_clamp] <;> first | done | rfl)
          · rw [if_neg q2] at ih
            (refine W1 rfl ?_; try refine Wp.norm (L' := [_, _, _, _, _]) rfl ?_)
            repeat (first | refine Wp.at ih rfl rfl ?_ ?_ | (refine W1 rfl ?_; try refine Wp.norm (L' := [_, _, _, _, _]) rfl ?_) | refine brT (by first | assumption | decide | omega) ?_ | refine brF (by first | assumption | decide | omega) ?_ | refine brTn (by first | assumption | decide | omega) ?_ | refine brFn (by first | assumption | decide | omega) ?_ | refine And.intro (vp_lit (by decide)) ?_ | refine And.intro (vp_in_nI (by omega) (by decide)) ?_ | ((first | change (_ → _) ∧ (_ → _) | change vp_in _ _ ∧ _ | change ¬ _ ∧ _); simp (disch := omega) only [nI_clamp, nI_leI, nI_ltI, nI_eq, nI_1, nI_add, nI_not_neg, nI_is_pos, nI_m1, nI_z, R'.T, i1, i2, B']))
            try change _ ∧ _
            · first | rfl | (simp (disch := omega) only [nI_1, nI_add, nI_clamp] <;> first | done | rfl)
            · first | rfl | (simp (disch := omega) only [nI_1, nI_add, nI_clamp] <;> first | done | rfl)
        · rw [if_neg q1] at ih
          by_cases q2 : b (2 * t + 2) = 255
          · rw [if_pos q2] at ih
            (refine W1 rfl ?_; try refine Wp.norm (L' := [_, _, _, _, _]) rfl ?_)
            repeat (first | refine Wp.at ih rfl rfl ?_ ?_ | (refine W1 rfl ?_; try refine Wp.norm (L' := [_, _, _, _, _]) rfl ?_) | refine brT (by first | assumption | decide | omega) ?_ | refine brF (by first | assumption | decide | omega) ?_ | refine brTn (by first | assumption | decide | omega) ?_ | refine brFn (by first | assumption | decide | omega) ?_ | refine And.intro (vp_lit (by decide)) ?_ | refine And.intro (vp_in_nI (by omega) (by decide)) ?_ | ((first | change (_ → _) ∧ (_ → _) | change vp_in _ _ ∧ _ | change ¬ _ ∧ _); simp (disch := omega) only [nI_clamp, nI_leI, nI_ltI, nI_eq, nI_1, nI_add, nI_not_neg, nI_is_pos, nI_m1, nI_z, R'.T, i1, i2, B']))
            try change _ ∧ _
            · first | rfl | (simp (disch := omega) only [nI_1, nI_add, nI_clamp] <;> first | done | rfl)
            · first | rfl | (simp (disch := omega) only [nI_1, nI_add, nI_clamp] <;> first | done | rfl)
          · rw [if_neg q2] at ih
            (refine W1 rfl ?_; try refine Wp.norm (L' := [_, _, _, _, _]) rfl ?_)
            repeat (first | refine Wp.at ih rfl rfl ?_ ?_ | (refine W1 rfl ?_; try refine Wp.norm (L' := [_, _, _, _, _]) rfl ?_) | refine brT (by first | assumption | decide | omega) ?_ | refine brF (by first | assumption | decide | omega) ?_ | refine brTn (by first | assumption | decide | omega) ?_ | refine brFn (by first | assumption | decide | omega) ?_ | refine And.intro (vp_lit (by decide)) ?_ | refine And.intro (vp_in_nI (by omega) (by decide)) ?_ | ((first | change (_ → _) ∧ (_ → _) | change vp_in _ _ ∧ _ | change ¬ _ ∧ _); simp (disch := omega) only [nI_clamp, nI_leI, nI_ltI, nI_eq, nI_1, nI_add, nI_not_neg, nI_is_pos, nI_m1, nI_z, R'.T, i1, i2, B']))
            try change _ ∧ _
            · first | rfl | (simp (disch := omega) only [nI_1, nI_add, nI_clamp] <;> first | done | rfl)
            · first | rfl | (simp (disch := omega) only [nI_1, nI_add, nI_clamp] <;> first | done | rfl)
    have ih := lp 0 (Nat.zero_le _) (wI h 1 1 0) .null .null O0 (wI_same _ _ _ _) (by rw [cNN_0, vNN_0]; exact R0)
    repeat (first | refine Wp.at ih rfl rfl ?_ rfl | (refine W1 rfl ?_; try refine Wp.norm (L' := [_, _, _, _, _]) rfl ?_) | refine brT (by first | assumption | decide | omega) ?_ | refine brF (by first | assumption | decide | omega) ?_ | refine brTn (by first | assumption | decide | omega) ?_ | refine brFn (by first | assumption | decide | omega) ?_ | refine And.intro (vp_lit (by decide)) ?_ | refine And.intro (vp_in_nI (by omega) (by decide)) ?_ | ((first | change (_ → _) ∧ (_ → _) | change vp_in _ _ ∧ _ | change ¬ _ ∧ _); simp (disch := omega) only [nI_clamp, nI_leI, nI_ltI, nI_eq, nI_1, nI_add, nI_not_neg, nI_is_pos, nI_m1, nI_z]))
    try change _ ∧ _
    first | rfl | (simp (disch := omega) only [nI_1, nI_add, nI_clamp, hN] <;> first | done | rfl)
  · rw [if_neg I]
    rw [if_neg I, if_neg I]
    repeat (first | (refine W1 rfl ?_; try refine Wp.norm (L' := [_, _, _, _, _]) rfl ?_) | refine brT (by first | assumption | decide | omega) ?_ | refine brF (by first | assumption | decide | omega) ?_ | refine brTn (by first | assumption | decide | omega) ?_ | refine brFn (by first | assumption | decide | omega) ?_ | refine And.intro (vp_lit (by decide)) ?_ | refine And.intro (vp_in_nI (by omega) (by decide)) ?_ | ((first | change (_ → _) ∧ (_ → _) | change vp_in _ _ ∧ _ | change ¬ _ ∧ _); simp (disch := omega) only [nI_clamp, nI_leI, nI_ltI, nI_eq, nI_1, nI_add, nI_not_neg, nI_is_pos, nI_m1, nI_z]))
    try change _ ∧ _
    exact ⟨Or.inl rfl, rfl, O0, wI_same _ _ _ _, R0⟩
theorem w_M_on (R : RM s c v h) (o : OK s) (hn : n ≤ 900) (hN : h.1 65 1 = nI n) (hb : ∀ i, i < n → h.1 66 i = b i) : ∃ w h', Run 3 j_M_on [.ref 65] h w h' ∧ (w = some (.int (if imgOK s b n then 1 else 0)) ∧ only [65, 110, 111] h h' ∧ (∀ i, i ≠ 1 → h'.1 65 i = h.1 65 i) ∧ h'.1 65 1 = 0 ∧ RM s (if imgOK s b n then cNN b c (zT s) else c) (if imgOK s b n then vNN b v (zT s) else v) h') := by
  have hT := o.T; have hP := o.P; have hK := o.K; have hD := o.D; have hO := o.O; have hQ := o.Q; have hL := o.L
  refine Run.ofP rfl ?_
  refine Wp.norm (L' := [_, _, _]) rfl ?_
  have R0 : RM s c v (wI h 65 1 0) := R.sr (SameK.ofI h _ rfl) (fun _ _ _ => rfl)
  have O0 : only [65, 110, 111] h (wI h 65 1 0) := (only.rfl _ h).add (by decide)
  have A0 : ∀ i, i ≠ 1 → (wI h 65 1 0).1 65 i = h.1 65 i := fun i hi => wI_ne2 _ _ hi
  have B0 : ∀ i, i < n → (wI h 65 1 0).1 66 i = b i := fun i hi => by rw [wI_ne _ _ _ (by decide)]; exact hb i hi
  repeat (first | (refine W1 rfl ?_; try refine Wp.norm (L' := [_, _, _]) rfl ?_) | refine brT (by first | assumption | decide | omega) ?_ | refine brF (by first | assumption | decide | omega) ?_ | refine brTn (by first | assumption | decide | omega) ?_ | refine brFn (by first | assumption | decide | omega) ?_ | refine And.intro (vp_lit (by decide)) ?_ | refine And.intro (vp_in_nI (by omega) (by decide)) ?_ | ((first | change (_ → _) ∧ (_ → _) | change vp_in _ _ ∧ _ | change ¬ _ ∧ _); simp (disch := omega) only [nI_clamp, nI_leI, nI_ltI, nI_eq, nI_1, nI_add, nI_not_neg, nI_is_pos, nI_m1, nI_z, hN]))
  try change _ ∧ _
  have r0 := r_M_isImage R0 o hn B0
  rw [← hN] at r0
  refine Cl.of r0 (by decide) ?_
  by_cases I : imgOK s b n
  · rw [if_pos I]
    rw [if_pos I, if_pos I]
    have lp : ∀ t, t ≤ zT s → ∀ h', only [65, 110, 111] h h' → (∀ i, i ≠ 1 → h'.1 65 i = h.1 65 i) → h'.1 65 1 = 0 → RM s (cNN b c t) (vNN b v t) h' → Wp 3 j_M_on 22 [.ref 65, .int (nI n), .int (nI t)] [] h' (fun w h' => w = some (.int 1) ∧ only [65, 110, 111] h h' ∧ (∀ i, i ≠ 1 → h'.1 65 i = h.1 65 i) ∧ h'.1 65 1 = 0 ∧ RM s (cNN b c (zT s)) (vNN b v (zT s)) h') := by
      refine up_ind ?_ (fun t ht ih => ?_)
      · intro h' O A Z R'
        repeat (first | (refine W1 rfl ?_; try refine Wp.norm (L' := [_, _, _]) rfl ?_) | refine brT (by first | assumption | decide | omega) ?_ | refine brF (by first | assumption | decide | omega) ?_ | refine brTn (by first | assumption | decide | omega) ?_ | refine brFn (by first | assumption | decide | omega) ?_ | refine And.intro (vp_lit (by decide)) ?_ | refine And.intro (vp_in_nI (by omega) (by decide)) ?_ | ((first | change (_ → _) ∧ (_ → _) | change vp_in _ _ ∧ _ | change ¬ _ ∧ _); simp (disch := omega) only [nI_clamp, nI_leI, nI_ltI, nI_eq, nI_1, nI_add, nI_not_neg, nI_is_pos, nI_m1, nI_z, R'.T]))
        try change _ ∧ _
        exact ⟨Or.inr rfl, rfl, O, A, Z, R'⟩
      · intro h' O A Z R'
        have i1 : (1 : Int32) + 2 * nI t = nI (2 * t + 1) := by
          rw [show (2 : Int32) = nI 2 from rfl, pk_mul, Int32.add_comm, nI_1]
        have i2 : (2 : Int32) + 2 * nI t = nI (2 * t + 2) := by
          rw [show (2 : Int32) = nI 2 from rfl, pk_mul, Int32.add_comm, nI_add]
        have hnn : n = 2 * zT s + 3 := I.1
        have B' : ∀ i, i < n → h'.1 66 i = b i := fun i hi => by rw [O.1 66 i (by decide)]; exact hb i hi
        have B1 : ∀ i x, i < n → (wI h' 110 t x).1 66 i = b i := fun i x hi => by rw [wI_ne _ _ _ (by decide)]; exact B' i hi
        have ih := ih (wI (wI h' 110 t (cN b t)) 111 t (vN b t)) ((O.add (by decide)).add (by decide)) (fun i hi => by rw [wI_ne _ _ _ (by decide), wI_ne _ _ _ (by decide)]; exact A i hi) (by rw [wI_ne _ _ _ (by decide), wI_ne _ _ _ (by decide)]; exact Z) (by
          rw [← cNN_s, ← vNN_s]
          exact (R'.c110 t _).c111 t _)
        unfold cN vN at ih
        by_cases q1 : b (2 * t + 1) = 255
        · rw [if_pos q1] at ih
          by_cases q2 : b (2 * t + 2) = 255
          · rw [if_pos q2] at ih
            (refine W1 rfl ?_; try refine Wp.norm (L' := [_, _, _]) rfl ?_)
            repeat (first | refine Wp.at ih rfl rfl ?_ ?_ | (refine W1 rfl ?_; try refine Wp.norm (L' := [_, _, _]) rfl ?_) | refine brT (by first | assumption | decide | omega) ?_ | refine brF (by first | assumption | decide | omega) ?_ | refine brTn (by first | assumption | decide | omega) ?_ | refine brFn (by first | assumption | decide | omega) ?_ | refine And.intro (vp_lit (by decide)) ?_ | refine And.intro (vp_in_nI (by omega) (by decide)) ?_ | ((first | change (_ → _) ∧ (_ → _) | change vp_in _ _ ∧ _ | change ¬ _ ∧ _); simp (disch := omega) only [nI_clamp, nI_leI, nI_ltI, nI_eq, nI_1, nI_add, nI_not_neg, nI_is_pos, nI_m1, nI_z, R'.T, i1, i2, B', B1]))
            try change _ ∧ _
            · first | rfl | (simp (disch := omega) only [nI_1, nI_add, nI_clamp] <;> first | done | rfl)
            · first | rfl | (simp (disch := omega) only [nI_1, nI_add, nI_clamp] <;> first | done | rfl)
          · rw [if_neg q2] at ih
            (refine W1 rfl ?_; try refine Wp.norm (L' := [_, _, _]) rfl ?_)
            repeat (first | refine Wp.at ih rfl rfl ?_ ?_ | (refine W1 rfl ?_; try refine Wp.norm (L' := [_, _, _]) rfl ?_) | refine brT (by first | assumption | decide | omega) ?_ | refine brF (by first | assumption | decide | omega) ?_ | refine brTn (by first | assumption | decide | omega) ?_ | refine brFn (by first | assumption | decide | omega) ?_ | refine And.intro (vp_lit (by decide)) ?_ | refine And.intro (vp_in_nI (by omega) (by decide)) ?_ | ((first | change (_ → _) ∧ (_ → _) | change vp_in _ _ ∧ _ | change ¬ _ ∧ _); simp (disch := omega) only [nI_clamp, nI_leI, nI_ltI, nI_eq, nI_1, nI_add, nI_not_neg, nI_is_pos, nI_m1, nI_z, R'.T, i1, i2, B', B1]))
            try change _ ∧ _
            · first | rfl | (simp (disch := omega) only [nI_1, nI_add, nI_clamp] <;> first | done | rfl)
            · first | rfl | (simp (disch := omega) only [nI_1, nI_add, nI_clamp, i2, B1] <;> first | done | rfl)
        · rw [if_neg q1] at ih
          by_cases q2 : b (2 * t + 2) = 255
          · rw [if_pos q2] at ih
            (refine W1 rfl ?_; try refine Wp.norm (L' := [_, _, _]) rfl ?_)
            repeat (first | refine Wp.at ih rfl rfl ?_ ?_ | (refine W1 rfl ?_; try refine Wp.norm (L' := [_, _, _]) rfl ?_) | refine brT (by first | assumption | decide | omega) ?_ | refine brF (by first | assumption | decide | omega) ?_ | refine brTn (by first | assumption | decide | omega) ?_ | refine brFn (by first | assumption | decide | omega) ?_ | refine And.intro (vp_lit (by decide)) ?_ | refine And.intro (vp_in_nI (by omega) (by decide)) ?_ | ((first | change (_ → _) ∧ (_ → _) | change vp_in _ _ ∧ _ | change ¬ _ ∧ _); simp (disch := omega) only [nI_clamp, nI_leI, nI_ltI, nI_eq, nI_1, nI_add, nI_not_neg, nI_is_pos, nI_m1, nI_z, R'.T, i1, i2, B', B1]))
            try change _ ∧ _
            · first | rfl | (simp (disch := omega) only [nI_1, nI_add, nI_clamp] <;> first | done | rfl)
            · first | rfl | (simp (disch := omega) only [nI_1, nI_add, nI_clamp, i1, i2, B', B1] <;> first | done | rfl)
          · rw [if_neg q2] at ih
            (refine W1 rfl ?_; try refine Wp.norm (L' := [_, _, _]) rfl ?_)
            repeat (first | refine Wp.at ih rfl rfl ?_ ?_ | (refine W1 rfl ?_; try refine Wp.norm (L' := [_, _, _]) rfl ?_) | refine brT (by first | assumption | decide | omega) ?_ | refine brF (by first | assumption | decide | omega) ?_ | refine brTn (by first | assumption | decide | omega) ?_ | refine brFn (by first | assumption | decide | omega) ?_ | refine And.intro (vp_lit (by decide)) ?_ | refine And.intro (vp_in_nI (by omega) (by decide)) ?_ | ((first | change (_ → _) ∧ (_ → _) | change vp_in _ _ ∧ _ | change ¬ _ ∧ _); simp (disch := omega) only [nI_clamp, nI_leI, nI_ltI, nI_eq, nI_1, nI_add, nI_not_neg, nI_is_pos, nI_m1, nI_z, R'.T, i1, i2, B', B1]))
            try change _ ∧ _
            · first | rfl | (simp (disch := omega) only [nI_1, nI_add, nI_clamp] <;> first | done | rfl)
            · first | rfl | (simp (disch := omega) only [nI_1, nI_add, nI_clamp, i1, i2, B', B1] <;> first | done | rfl)
    have ih := lp 0 (Nat.zero_le _) (wI h 65 1 0) O0 A0 (wI_same _ _ _ _) (by rw [cNN_0, vNN_0]; exact R0)
    repeat (first | refine Wp.at ih rfl rfl ?_ rfl | (refine W1 rfl ?_; try refine Wp.norm (L' := [_, _, _]) rfl ?_) | refine brT (by first | assumption | decide | omega) ?_ | refine brF (by first | assumption | decide | omega) ?_ | refine brTn (by first | assumption | decide | omega) ?_ | refine brFn (by first | assumption | decide | omega) ?_ | refine And.intro (vp_lit (by decide)) ?_ | refine And.intro (vp_in_nI (by omega) (by decide)) ?_ | ((first | change (_ → _) ∧ (_ → _) | change vp_in _ _ ∧ _ | change ¬ _ ∧ _); simp (disch := omega) only [nI_clamp, nI_leI, nI_ltI, nI_eq, nI_1, nI_add, nI_not_neg, nI_is_pos, nI_m1, nI_z]))
    try change _ ∧ _
    first | rfl | (simp (disch := omega) only [nI_1, nI_add, nI_clamp, hN] <;> first | done | rfl)
  · rw [if_neg I]
    rw [if_neg I, if_neg I]
    repeat (first | (refine W1 rfl ?_; try refine Wp.norm (L' := [_, _, _]) rfl ?_) | refine brT (by first | assumption | decide | omega) ?_ | refine brF (by first | assumption | decide | omega) ?_ | refine brTn (by first | assumption | decide | omega) ?_ | refine brFn (by first | assumption | decide | omega) ?_ | refine And.intro (vp_lit (by decide)) ?_ | refine And.intro (vp_in_nI (by omega) (by decide)) ?_ | ((first | change (_ → _) ∧ (_ → _) | change vp_in _ _ ∧ _ | change ¬ _ ∧ _); simp (disch := omega) only [nI_clamp, nI_leI, nI_ltI, nI_eq, nI_1, nI_add, nI_not_neg, nI_is_pos, nI_m1, nI_z]))
    try change _ ∧ _
    exact ⟨Or.inl rfl, rfl, O0, A0, wI_same _ _ _ _, R0⟩
theorem RO.on (o : OK s) (I : imgOK s b n) : RO s (cNN b c (zT s)) (vNN b v (zT s)) := by
  have hP := o.P
  intro t ht
  unfold cNN vNN
  rw [if_pos ht, if_pos ht]
  unfold cN vN
  rcases I.2.2.2.2 t ht with ⟨h1, h2⟩ | ⟨h1, h2⟩
  · rw [if_pos h1, if_pos h2]
    exact Or.inl ⟨rfl, rfl⟩
  · rw [if_neg (fun z => p255 o (by rw [← z]; exact h1)), if_neg (fun z => p255 o (by rw [← z]; exact h2))]
    obtain ⟨p, hp, e1⟩ := (ix_cases _ (n := zP s) (by omega)).resolve_right (fun z => z h1)
    obtain ⟨q, hq, e2⟩ := (ix_cases _ (n := zP s) (by omega)).resolve_right (fun z => z h2)
    exact Or.inr ⟨p, q, hp, hq, e1, e2⟩
theorem o_on : op_34 Inv := fun h I => by
  obtain ⟨⟨n, h1, h2, h3, h4⟩, m, s, c, v, R, M, o, ro⟩ := id I
  obtain ⟨w, g1, r1, e1, O1, Z1, R1⟩ := w_E_on (b := h.1 66) R o h1 h2 (fun i hi => (h4 i hi).1)
  have M1 : RM s c v g1 := M.sr (O1.K (by intro k i hk z; simp at z; rcases z with z | z | z <;> (subst z; cases hk))) (fun _ _ _ => by rw [O1.2])
  obtain ⟨w2, g2, r2, e2, O2, A2, Z2, M2⟩ := w_M_on (b := h.1 66) M1 o h1 (by rw [O1.1 65 1 (by decide)]; exact h3) (fun i hi => by rw [O1.1 66 i (by decide)])
  subst e1
  subst e2
  have m1 : SMX g1 := m.sr (O1.K (by intro k i hk z; simp at z; rcases z with z | z | z <;> (subst z; cases hk)))
  have m2 : SMX g2 := m1.sr (fun k i hk => by
    by_cases e : k = 65
    · subst e
      exact A2 i (fun e => by subst e; cases hk)
    · refine O2.1 k i ?_
      intro z; simp at z; rcases z with z | z | z
      · exact e z
      · subst z; cases hk
      · subst z; cases hk)
  refine ⟨_, _, _, r1.d, r2.d, ⟨0, by decide, ?_, Z2, fun i hi => absurd hi (by omega)⟩, m2, s, _, _, R1.sr (O2.K (by intro k i hk z; simp at z; rcases z with z | z | z <;> (subst z; cases hk))), M2, o, ?_⟩
  · rw [O2.1 1 1 (by decide)]; exact Z1
  · by_cases q : imgOK s (h.1 66) n
    · rw [if_pos q, if_pos q]
      exact RO.on o q
    · rw [if_neg q, if_neg q]
      exact ro
end ONM
