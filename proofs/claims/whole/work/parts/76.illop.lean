/-! ===== ILL: the model whole, the clause ===== -/
section ILLB
variable {s : ST} {c v : RT} {h : HP} {x a b : Nat} {bd : Int64}
theorem w_M_ill (R : RM s c v h) (o : OK s) (ro : RO s c v) (hx : x < zP s) (hab : a ≤ b) (hb : b < 200) (hbd : ¬ bd < 0) : ∃ w h', Run 6 j_M_ill [.ref 65, .int (nI x), .int (nI a), .int (nI b), .long bd] h w h' ∧ (iG h h' ∧ w = some (.int (if 6 < mI s v x a b then -1 else if mI s v x a b = 0 then 0 else ilY (mI s v x a b) (ilR s c v x a b bd))) ∧ RM s (if 6 < mI s v x a b ∨ mI s v x a b = 0 then c else ilC (tI s v x a b) (mI s v x a b) (ilR s c v x a b bd) c) (if 6 < mI s v x a b ∨ mI s v x a b = 0 then v else ilC (tI s v x a b) (mI s v x a b) (ilR s c v x a b bd) v) h') := by
  have hT := o.T; have hP := o.P; have hK := o.K; have hD := o.D; have hO := o.O; have hQ := o.Q; have hL := o.L
  refine Run.ofP rfl ?_
  refine Wp.norm (L' := [_, _, _, _, _, _, _, _]) rfl ?_
  generalize hQQ : (fun w h' => iG h h' ∧ w = some (Value.int (if 6 < mI s v x a b then -1 else if mI s v x a b = 0 then 0 else ilY (mI s v x a b) (ilR s c v x a b bd))) ∧ RM s (if 6 < mI s v x a b ∨ mI s v x a b = 0 then c else ilC (tI s v x a b) (mI s v x a b) (ilR s c v x a b bd) c) (if 6 < mI s v x a b ∨ mI s v x a b = 0 then v else ilC (tI s v x a b) (mI s v x a b) (ilR s c v x a b bd) v) h') = QQ
  have ih := w_illF (bd := bd) (Q := QQ) R o hx hb hab (fun h7 h' G R' => by
    rw [← hQQ]
    exact ⟨G, by rw [if_pos h7], by rw [if_pos (Or.inl h7), if_pos (Or.inl h7)]; exact R'⟩) (fun h6 h1 F => by
    have N1 : h1.1 65 78 = nI (mI s v x a b) := F.2.2.2.1
    by_cases hm0 : mI s v x a b = 0
    · rw [hm0] at N1
      repeat (first | (refine W1 rfl ?_; try refine Wp.norm (L' := [_, _, _, _, _, _, _, _]) rfl ?_) | ((first | change (_ → _) ∧ (_ → _) | change vp_in _ _ ∧ _ | change ¬ _ ∧ _); simp (disch := omega) only [nI_clamp, nI_leI, nI_ltI, nI_eq, nI_1, nI_add, nI_not_neg, nI_is_pos, nI_m1, nI_z, N1]) | refine brT (by first | assumption | decide | omega) ?_ | refine brF (by first | assumption | decide | omega) ?_ | refine brTn (by first | assumption | decide | omega) ?_ | refine brFn (by first | assumption | decide | omega) ?_ | refine And.intro (vp_in_nI (by omega) (by decide)) ?_ | refine And.intro (vp_lit (by decide)) ?_ | refine divJ (by decide) ?_ | refine divI (by decide) ?_)
      try change _ ∧ _
      rw [← hQQ]
      exact ⟨F.i, by rw [if_neg (show ¬ 6 < mI s v x a b by omega), if_pos hm0], by rw [if_pos (Or.inr hm0), if_pos (Or.inr hm0)]; exact F.M R⟩
    · have T := tI_ok (s := s) (v := v) (x := x) (a := a) (b := b) h6
      have ro1 := RO.opA ro (tI s v x a b) (mI s v x a b)
      have hilR : ilR s c v x a b bd = srD s (opA (tI s v x a b) c (mI s v x a b)) (opA (tI s v x a b) v (mI s v x a b)) (tI s v x a b) (mI s v x a b) x bd (mI s v x a b) 0 (fun _ => 0) 0 := rfl
      have G1 := F.i
      have R1 := F.M R
      have A1 : ∀ d, d < mI s v x a b → h1.1 117 d = nI (tI s v x a b d) ∧ h1.1 118 d = c (tI s v x a b d) ∧ h1.1 119 d = v (tI s v x a b d) := F.2.2.2.2
      have hQ2 : ∀ y h', iG h h' → y = ilY (mI s v x a b) (ilR s c v x a b bd) → RM s (ilC (tI s v x a b) (mI s v x a b) (ilR s c v x a b bd) c) (ilC (tI s v x a b) (mI s v x a b) (ilR s c v x a b bd) v) h' → QQ (some (.int y)) h' := fun y h' z1 z2 z3 => by
        rw [← hQQ, if_neg (show ¬ 6 < mI s v x a b by omega), if_neg hm0, if_neg (show ¬ (6 < mI s v x a b ∨ mI s v x a b = 0) by omega), if_neg (show ¬ (6 < mI s v x a b ∨ mI s v x a b = 0) by omega), z2]
        exact ⟨z1, rfl, z3⟩
      clear F hQQ
      generalize htt : tI s v x a b = tt at *
      generalize hmm : mI s v x a b = m at *
      have lp3 : ∀ (y : Int32) (c' v' : RT) (h3 : HP), iG h h3 → h3.1 65 78 = nI m → (∀ d, d < m → h3.1 117 d = nI (tt d) ∧ h3.1 118 d = c (tt d) ∧ h3.1 119 d = v (tt d)) → (∀ h4, iG h h4 → RM s (setA tt c' (fun d => c (tt d)) m) (setA tt v' (fun d => v (tt d)) m) h4 → QQ (some (.int y)) h4) → ∀ n, n ≤ m → ∀ h4, onlyJ [110, 111] [] h3 h4 → iG h h4 → RM s (setA tt c' (fun d => c (tt d)) n) (setA tt v' (fun d => v (tt d)) n) h4 → Wp 6 j_M_ill 220 [.ref 65, .int (nI x), .int (nI a), .int (nI b), .long bd, .null, .int y, .int (nI n)] [] h4 QQ := by
        intro y c' v' h3 G3 N3 A3 KQ
        refine up_ind ?_ (fun n hn ih => ?_)
        · intro h4 O4 G4 R4
          have N4 : h4.1 65 78 = nI m := by rw [O4.1 65 78 (by decide)]; exact N3
          repeat (first | (refine W1 rfl ?_; try refine Wp.norm (L' := [_, _, _, _, _, _, _, _]) rfl ?_) | ((first | change (_ → _) ∧ (_ → _) | change vp_in _ _ ∧ _ | change ¬ _ ∧ _); simp (disch := omega) only [nI_clamp, nI_leI, nI_ltI, nI_eq, nI_1, nI_add, nI_not_neg, nI_is_pos, nI_m1, nI_z, N4]) | refine brT (by first | assumption | decide | omega) ?_ | refine brF (by first | assumption | decide | omega) ?_ | refine brTn (by first | assumption | decide | omega) ?_ | refine brFn (by first | assumption | decide | omega) ?_ | refine And.intro (vp_in_nI (by omega) (by decide)) ?_ | refine And.intro (vp_lit (by decide)) ?_ | refine divJ (by decide) ?_ | refine divI (by decide) ?_)
          try change _ ∧ _
          exact KQ h4 G4 R4
        · intro h4 O4 G4 R4
          have N4 : h4.1 65 78 = nI m := by rw [O4.1 65 78 (by decide)]; exact N3
          have htn := (T.2.1 n hn).1
          have t4 : h4.1 117 n = nI (tt n) := by rw [O4.1 117 n (by decide)]; exact (A3 n hn).1
          have c4 : h4.1 118 n = c (tt n) := by rw [O4.1 118 n (by decide)]; exact (A3 n hn).2.1
          have v4 : h4.1 119 n = v (tt n) := by rw [O4.1 119 n (by decide)]; exact (A3 n hn).2.2
          have t5 : ∀ i z, (wI h4 110 i z).1 117 n = nI (tt n) := fun i z => by rw [wI_ne _ _ _ (by decide)]; exact t4
          have v5 : ∀ i z, (wI h4 110 i z).1 119 n = v (tt n) := fun i z => by rw [wI_ne _ _ _ (by decide)]; exact v4
          have ih := ih (wI (wI h4 110 (tt n) (c (tt n))) 111 (tt n) (v (tt n))) ((O4.addI (by decide)).addI (by decide)) G4.lay ((R4.c110 (tt n) (c (tt n))).c111 (tt n) (v (tt n)))
          (refine W1 rfl ?_; try refine Wp.norm (L' := [_, _, _, _, _, _, _, _]) rfl ?_)
          repeat (first | refine Wp.at ih rfl rfl ?_ ?_ | (refine W1 rfl ?_; try refine Wp.norm (L' := [_, _, _, _, _, _, _, _]) rfl ?_) | ((first | change (_ → _) ∧ (_ → _) | change vp_in _ _ ∧ _ | change ¬ _ ∧ _); simp (disch := omega) only [nI_clamp, nI_leI, nI_ltI, nI_eq, nI_1, nI_add, nI_not_neg, nI_is_pos, nI_m1, nI_z, N4, t4, c4, v4, t5, v5]) | refine brT (by first | assumption | decide | omega) ?_ | refine brF (by first | assumption | decide | omega) ?_ | refine brTn (by first | assumption | decide | omega) ?_ | refine brFn (by first | assumption | decide | omega) ?_ | refine And.intro (vp_in_nI (by omega) (by decide)) ?_ | refine And.intro (vp_lit (by decide)) ?_ | refine divJ (by decide) ?_ | refine divI (by decide) ?_)
          try change _ ∧ _
          · first | done | rfl | (simp (disch := omega) only [nI_1, nI_add, nI_clamp] <;> first | done | rfl)
          · first | done | rfl | (simp (disch := omega) only [nI_1, nI_add, nI_clamp, N4, t4, c4, v4, t5, v5] <;> first | done | rfl)
      have lp2 : ∀ n, n ≤ m → ∀ h2, onlyJ [110, 111] [] h1 h2 → iG h h2 → RM s (opA tt c n) (opA tt v n) h2 → Wp 6 j_M_ill 173 [.ref 65, .int (nI x), .int (nI a), .int (nI b), .long bd, .null, .int (nI n), .null] [] h2 QQ := by
        refine up_ind ?_ (fun n hn ih => ?_)
        · intro h2 O2 G2 R2
          have N2 : h2.1 65 78 = nI m := by rw [O2.1 65 78 (by decide)]; exact N1
          obtain ⟨w, h3, r3, F3, S3⟩ := w_M_searches (bd := bd) (tt := tt) (m := m) R2 o T ro1 (by omega) hx N2 (fun d hd => by rw [O2.1 117 d (by decide)]; exact (A1 d hd).1)
          rw [← hilR] at S3
          have G3 : iG h h3 := G2.trans F3.i
          have N3 : h3.1 65 78 = nI m := by rw [F3.2 78 (by decide) (by decide)]; exact N2
          have A3 : ∀ d, d < m → h3.1 117 d = nI (tt d) ∧ h3.1 118 d = c (tt d) ∧ h3.1 119 d = v (tt d) := fun d hd => by
            rw [F3.1.1 117 d (by decide), O2.1 117 d (by decide), F3.1.1 118 d (by decide), O2.1 118 d (by decide), F3.1.1 119 d (by decide), O2.1 119 d (by decide)]
            exact A1 d hd
          have wh : ∀ t, (∃ d, d < m ∧ t = tt d) ∨ ∀ d, d < m → t ≠ tt d := fun t => by
            by_cases z : ∃ d, d < m ∧ t = tt d
            · exact Or.inl z
            · exact Or.inr (fun d hd e => z ⟨d, hd, e⟩)
          rcases S3 with ⟨er, c', v', rfl, R3, X3⟩ | ⟨cc, er, hcc, rfl, R3⟩
          · obtain ⟨y, hy⟩ : ∃ y : Int32, (if 2000 ≤ (ilR s c v x a b bd).2 then (-3 : Int32) else -2) = y := ⟨_, rfl⟩
            have hy0 : y ≤ 0 := by rw [← hy]; split <;> decide
            rw [hy] at r3
            have ih := lp3 y c' v' h3 G3 N3 A3 (fun h4 G4 R4 => hQ2 y h4 G4 (by rw [← hy]; unfold ilY; rw [if_pos er]) (by
              have ec : ∀ f, ilC tt m (ilR s c v x a b bd) f = f := fun f => by unfold ilC; rw [er]
              rw [ec, ec]
              refine R4.cg (fun t ht => ?_) (fun t ht => ?_)
              · rcases wh t with ⟨d, hd, rfl⟩ | z
                · exact setA_at T.2.2 _ _ m d hd (Nat.le_refl _)
                · rw [setA_o _ _ m t z, (X3 t z).1, opA_o tt c m t z]
              · rcases wh t with ⟨d, hd, rfl⟩ | z
                · exact setA_at T.2.2 _ _ m d hd (Nat.le_refl _)
                · rw [setA_o _ _ m t z, (X3 t z).2, opA_o tt v m t z])) 0 (by omega) h3 (onlyJ.rfl _ _ h3) G3 R3
            repeat (first | (refine W1 rfl ?_; try refine Wp.norm (L' := [_, _, _, _, _, _, _, _]) rfl ?_) | ((first | change (_ → _) ∧ (_ → _) | change vp_in _ _ ∧ _ | change ¬ _ ∧ _); simp (disch := omega) only [nI_clamp, nI_leI, nI_ltI, nI_eq, nI_1, nI_add, nI_not_neg, nI_is_pos, nI_m1, nI_z, N2]) | refine brT (by first | assumption | decide | omega) ?_ | refine brF (by first | assumption | decide | omega) ?_ | refine brTn (by first | assumption | decide | omega) ?_ | refine brFn (by first | assumption | decide | omega) ?_ | refine And.intro (vp_in_nI (by omega) (by decide)) ?_ | refine And.intro (vp_lit (by decide)) ?_ | refine divJ (by decide) ?_ | refine divI (by decide) ?_)
            try change _ ∧ _
            refine Cl.of r3 (by decide) ?_
            repeat (first | refine Wp.at ih rfl rfl ?_ rfl | (refine W1 rfl ?_; try refine Wp.norm (L' := [_, _, _, _, _, _, _, _]) rfl ?_) | ((first | change (_ → _) ∧ (_ → _) | change vp_in _ _ ∧ _ | change ¬ _ ∧ _); simp (disch := omega) only [nI_clamp, nI_leI, nI_ltI, nI_eq, nI_1, nI_add, nI_not_neg, nI_is_pos, nI_m1, nI_z]) | refine brT (by first | assumption | decide | omega) ?_ | refine brF (by first | assumption | decide | omega) ?_ | refine brTn (by first | assumption | decide | omega) ?_ | refine brFn (by first | assumption | decide | omega) ?_ | refine And.intro (vp_in_nI (by omega) (by decide)) ?_ | refine And.intro (vp_lit (by decide)) ?_ | refine divJ (by decide) ?_ | refine divI (by decide) ?_)
            try change _ ∧ _
            first | done | rfl | (simp (disch := omega) only [nI_1, nI_add, nI_clamp] <;> first | done | rfl)
          · repeat (first | (refine W1 rfl ?_; try refine Wp.norm (L' := [_, _, _, _, _, _, _, _]) rfl ?_) | ((first | change (_ → _) ∧ (_ → _) | change vp_in _ _ ∧ _ | change ¬ _ ∧ _); simp (disch := omega) only [nI_clamp, nI_leI, nI_ltI, nI_eq, nI_1, nI_add, nI_not_neg, nI_is_pos, nI_m1, nI_z, N2]) | refine brT (by first | assumption | decide | omega) ?_ | refine brF (by first | assumption | decide | omega) ?_ | refine brTn (by first | assumption | decide | omega) ?_ | refine brFn (by first | assumption | decide | omega) ?_ | refine And.intro (vp_in_nI (by omega) (by decide)) ?_ | refine And.intro (vp_lit (by decide)) ?_ | refine divJ (by decide) ?_ | refine divI (by decide) ?_)
            try change _ ∧ _
            refine Cl.of r3 (by decide) ?_
            have hle : ¬ nI m ≤ 0 := fun z => by rw [nI_le0 (by omega)] at z; omega
            repeat (first | (refine W1 rfl ?_; try refine Wp.norm (L' := [_, _, _, _, _, _, _, _]) rfl ?_) | ((first | change (_ → _) ∧ (_ → _) | change vp_in _ _ ∧ _ | change ¬ _ ∧ _); simp (disch := omega) only [nI_clamp, nI_leI, nI_ltI, nI_eq, nI_1, nI_add, nI_not_neg, nI_is_pos, nI_m1, nI_z]) | refine brT (by first | assumption | decide | omega) ?_ | refine brF (by first | assumption | decide | omega) ?_ | refine brTn (by first | assumption | decide | omega) ?_ | refine brFn (by first | assumption | decide | omega) ?_ | refine And.intro (vp_in_nI (by omega) (by decide)) ?_ | refine And.intro (vp_lit (by decide)) ?_ | refine divJ (by decide) ?_ | refine divI (by decide) ?_)
            try change _ ∧ _
            first | refine brF hle ?_ | skip
            repeat (first | (refine W1 rfl ?_; try refine Wp.norm (L' := [_, _, _, _, _, _, _, _]) rfl ?_) | ((first | change (_ → _) ∧ (_ → _) | change vp_in _ _ ∧ _ | change ¬ _ ∧ _); simp (disch := omega) only [nI_clamp, nI_leI, nI_ltI, nI_eq, nI_1, nI_add, nI_not_neg, nI_is_pos, nI_m1, nI_z]) | refine brT (by first | assumption | decide | omega) ?_ | refine brF (by first | assumption | decide | omega) ?_ | refine brTn (by first | assumption | decide | omega) ?_ | refine brFn (by first | assumption | decide | omega) ?_ | refine And.intro (vp_in_nI (by omega) (by decide)) ?_ | refine And.intro (vp_lit (by decide)) ?_ | refine divJ (by decide) ?_ | refine divI (by decide) ?_)
            try change _ ∧ _
            refine hQ2 _ h3 G3 (by unfold ilY; rw [if_neg (by rw [er]; simp)]) ?_
            have ec : ∀ f, ilC tt m (ilR s c v x a b bd) f = asg tt (opA tt f m) cc m := fun f => by unfold ilC; rw [er]
            rw [ec, ec]
            exact R3
        · intro h2 O2 G2 R2
          have N2 : h2.1 65 78 = nI m := by rw [O2.1 65 78 (by decide)]; exact N1
          have htn := (T.2.1 n hn).1
          have t2 : h2.1 117 n = nI (tt n) := by rw [O2.1 117 n (by decide)]; exact (A1 n hn).1
          have ih := ih (layM h2 (tt n) (-1)) ((O2.addI (by decide)).addI (by decide)) G2.lay (R2.lay (tt n) (-1))
          repeat (first | (refine W1 rfl ?_; try refine Wp.norm (L' := [_, _, _, _, _, _, _, _]) rfl ?_) | ((first | change (_ → _) ∧ (_ → _) | change vp_in _ _ ∧ _ | change ¬ _ ∧ _); simp (disch := omega) only [nI_clamp, nI_leI, nI_ltI, nI_eq, nI_1, nI_add, nI_not_neg, nI_is_pos, nI_m1, nI_z, N2]) | refine brT (by first | assumption | decide | omega) ?_ | refine brF (by first | assumption | decide | omega) ?_ | refine brTn (by first | assumption | decide | omega) ?_ | refine brFn (by first | assumption | decide | omega) ?_ | refine And.intro (vp_in_nI (by omega) (by decide)) ?_ | refine And.intro (vp_lit (by decide)) ?_ | refine divJ (by decide) ?_ | refine divI (by decide) ?_)
          try change _ ∧ _
          refine Cl.ofA (r_M_laysFor (t := tt n) (-1) (by omega)) (by first | done | rfl | (simp (disch := omega) only [nI_1, nI_add, nI_clamp, t2] <;> first | done | rfl)) (by decide) ?_
          repeat (first | refine Wp.at ih rfl rfl ?_ rfl | (refine W1 rfl ?_; try refine Wp.norm (L' := [_, _, _, _, _, _, _, _]) rfl ?_) | ((first | change (_ → _) ∧ (_ → _) | change vp_in _ _ ∧ _ | change ¬ _ ∧ _); simp (disch := omega) only [nI_clamp, nI_leI, nI_ltI, nI_eq, nI_1, nI_add, nI_not_neg, nI_is_pos, nI_m1, nI_z]) | refine brT (by first | assumption | decide | omega) ?_ | refine brF (by first | assumption | decide | omega) ?_ | refine brTn (by first | assumption | decide | omega) ?_ | refine brFn (by first | assumption | decide | omega) ?_ | refine And.intro (vp_in_nI (by omega) (by decide)) ?_ | refine And.intro (vp_lit (by decide)) ?_ | refine divJ (by decide) ?_ | refine divI (by decide) ?_)
          try change _ ∧ _
          first | done | rfl | (simp (disch := omega) only [nI_1, nI_add, nI_clamp] <;> first | done | rfl)
      have ih := lp2 0 (by omega) h1 (onlyJ.rfl _ _ h1) G1 R1
      have hm1 : ¬ nI m = 0 := fun z => by rw [nI_z (by omega)] at z; omega
      repeat (first | refine Wp.at ih rfl rfl ?_ rfl | (refine W1 rfl ?_; try refine Wp.norm (L' := [_, _, _, _, _, _, _, _]) rfl ?_) | ((first | change (_ → _) ∧ (_ → _) | change vp_in _ _ ∧ _ | change ¬ _ ∧ _); simp (disch := omega) only [nI_clamp, nI_leI, nI_ltI, nI_eq, nI_1, nI_add, nI_not_neg, nI_is_pos, nI_m1, nI_z, N1]) | refine brT (by first | assumption | decide | omega) ?_ | refine brF (by first | assumption | decide | omega) ?_ | refine brTn (by first | assumption | decide | omega) ?_ | refine brFn (by first | assumption | decide | omega) ?_ | refine And.intro (vp_in_nI (by omega) (by decide)) ?_ | refine And.intro (vp_lit (by decide)) ?_ | refine divJ (by decide) ?_ | refine divI (by decide) ?_)
      try change _ ∧ _
      first | done | rfl | (simp (disch := omega) only [nI_1, nI_add, nI_clamp] <;> first | done | rfl)) 0 (Nat.zero_le _) (wI h 65 78 0) ⟨(onlyJ.rfl _ _ h).addI (by decide), fun i hi => wI_ne2 _ _ hi, by show (0 : Nat) ≤ 6; decide, wI_same _ _ _ _, fun d hd => absurd hd (Nat.not_lt_zero d)⟩
  have z0 : (nI 0).toInt64 = 0 := rfl
  have z199 : (nI 199).toInt64 = 199 := rfl
  have i1 := (isInN (a := 0) (v := a) (b := 199) (by omega) (by omega) (by omega)).mpr ⟨by omega, by omega⟩
  have i2 := (isInN (a := a) (v := b) (b := 199) (by omega) (by omega) (by omega)).mpr ⟨by omega, by omega⟩
  rw [z0, z199] at i1
  rw [z199] at i2
  repeat (first | (refine W1 rfl ?_; try refine Wp.norm (L' := [_, _, _, _, _, _, _, _]) rfl ?_) | ((first | change (_ → _) ∧ (_ → _) | change vp_in _ _ ∧ _ | change ¬ _ ∧ _); simp (disch := omega) only [nI_clamp, nI_leI, nI_ltI, nI_eq, nI_1, nI_add, nI_not_neg, nI_is_pos, nI_m1, nI_z]) | refine brT (by first | assumption | decide | omega) ?_ | refine brF (by first | assumption | decide | omega) ?_ | refine brTn (by first | assumption | decide | omega) ?_ | refine brFn (by first | assumption | decide | omega) ?_ | refine And.intro (vp_in_nI (by omega) (by decide)) ?_ | refine And.intro (vp_lit (by decide)) ?_ | refine divJ (by decide) ?_ | refine divI (by decide) ?_)
  try change _ ∧ _
  refine Cl.of (g_MP R o hx) (by decide) ?_
  repeat (first | (refine W1 rfl ?_; try refine Wp.norm (L' := [_, _, _, _, _, _, _, _]) rfl ?_) | ((first | change (_ → _) ∧ (_ → _) | change vp_in _ _ ∧ _ | change ¬ _ ∧ _); simp (disch := omega) only [nI_clamp, nI_leI, nI_ltI, nI_eq, nI_1, nI_add, nI_not_neg, nI_is_pos, nI_m1, nI_z]) | refine brT (by first | assumption | decide | omega) ?_ | refine brF (by first | assumption | decide | omega) ?_ | refine brTn (by first | assumption | decide | omega) ?_ | refine brFn (by first | assumption | decide | omega) ?_ | refine And.intro (vp_in_nI (by omega) (by decide)) ?_ | refine And.intro (vp_lit (by decide)) ?_ | refine divJ (by decide) ?_ | refine divI (by decide) ?_)
  try change _ ∧ _
  refine Cl.of (r_M_isIn h (nI a).toInt64 0 199) (by decide) ?_
  rw [if_pos i1]
  iterate 1 (refine W1 rfl ?_; try refine Wp.norm (L' := [_, _, _, _, _, _, _, _]) rfl ?_)
  refine brF (by decide) ?_
  refine Wp.normS (pc' := 20) (S' := []) rfl rfl rfl ?_
  repeat (first | (refine W1 rfl ?_; try refine Wp.norm (L' := [_, _, _, _, _, _, _, _]) rfl ?_) | ((first | change (_ → _) ∧ (_ → _) | change vp_in _ _ ∧ _ | change ¬ _ ∧ _); simp (disch := omega) only [nI_clamp, nI_leI, nI_ltI, nI_eq, nI_1, nI_add, nI_not_neg, nI_is_pos, nI_m1, nI_z]) | refine brT (by first | assumption | decide | omega) ?_ | refine brF (by first | assumption | decide | omega) ?_ | refine brTn (by first | assumption | decide | omega) ?_ | refine brFn (by first | assumption | decide | omega) ?_ | refine And.intro (vp_in_nI (by omega) (by decide)) ?_ | refine And.intro (vp_lit (by decide)) ?_ | refine divJ (by decide) ?_ | refine divI (by decide) ?_)
  try change _ ∧ _
  refine Cl.of (r_M_isIn h (nI b).toInt64 (nI a).toInt64 199) (by decide) ?_
  rw [if_pos i2]
  iterate 1 (refine W1 rfl ?_; try refine Wp.norm (L' := [_, _, _, _, _, _, _, _]) rfl ?_)
  refine brF (by decide) ?_
  refine Wp.normS (pc' := 33) (S' := []) rfl rfl rfl ?_
  repeat (first | (refine W1 rfl ?_; try refine Wp.norm (L' := [_, _, _, _, _, _, _, _]) rfl ?_) | ((first | change (_ → _) ∧ (_ → _) | change vp_in _ _ ∧ _ | change ¬ _ ∧ _); simp (disch := omega) only [nI_clamp, nI_leI, nI_ltI, nI_eq, nI_1, nI_add, nI_not_neg, nI_is_pos, nI_m1, nI_z]) | refine brT (by first | assumption | decide | omega) ?_ | refine brF (by first | assumption | decide | omega) ?_ | refine brTn (by first | assumption | decide | omega) ?_ | refine brFn (by first | assumption | decide | omega) ?_ | refine And.intro (vp_in_nI (by omega) (by decide)) ?_ | refine And.intro (vp_lit (by decide)) ?_ | refine divJ (by decide) ?_ | refine divI (by decide) ?_)
  try change _ ∧ _
  rw [lgc_ge]
  refine brT (Int64.not_lt.mp hbd) ?_
  repeat (first | refine Wp.at ih rfl rfl ?_ rfl | (refine W1 rfl ?_; try refine Wp.norm (L' := [_, _, _, _, _, _, _, _]) rfl ?_) | ((first | change (_ → _) ∧ (_ → _) | change vp_in _ _ ∧ _ | change ¬ _ ∧ _); simp (disch := omega) only [nI_clamp, nI_leI, nI_ltI, nI_eq, nI_1, nI_add, nI_not_neg, nI_is_pos, nI_m1, nI_z]) | refine brT (by first | assumption | decide | omega) ?_ | refine brF (by first | assumption | decide | omega) ?_ | refine brTn (by first | assumption | decide | omega) ?_ | refine brFn (by first | assumption | decide | omega) ?_ | refine And.intro (vp_in_nI (by omega) (by decide)) ?_ | refine And.intro (vp_lit (by decide)) ?_ | refine divJ (by decide) ?_ | refine divI (by decide) ?_)
  try change _ ∧ _
  first | done | rfl | (simp (disch := omega) only [nI_1, nI_add, nI_clamp] <;> first | done | rfl)
end ILLB
theorem w_E_ill {s : ST} {c v : RT} {h h1 : HP} {p a b : Nat} {bd : Int64} (R : RC s c v h) (o : OK s) (hp : p < zP s) (hab : a ≤ b) (hb : b < 200) (hbd : ¬ bd < 0) {y : Int32} (r1 : Run 13 j_Illness_replace [.ref 57, .int (nI p), .int (nI a), .int (nI b), .long bd] h (some (.int y)) h1) : Run 14 j_E_ill [.ref 0, .int (nI p), .int (nI a), .int (nI b), .long bd] h (some (.int y)) h1 := by
  refine Run.of rfl ?_
  refine Wp.norm (L' := [_, _, _, _, _, _]) rfl ?_
  repeat (first | (refine W1 rfl ?_; try refine Wp.norm (L' := [_, _, _, _, _, _]) rfl ?_) | ((first | change (_ → _) ∧ (_ → _) | change vp_in _ _ ∧ _ | change ¬ _ ∧ _); simp (disch := omega) only [nI_clamp, nI_leI, nI_ltI, nI_eq, nI_1, nI_add, nI_not_neg, nI_is_pos, nI_m1, nI_z]) | refine brT (by first | assumption | decide | omega) ?_ | refine brF (by first | assumption | decide | omega) ?_ | refine brTn (by first | assumption | decide | omega) ?_ | refine brFn (by first | assumption | decide | omega) ?_ | refine And.intro (vp_in_nI (by omega) (by decide)) ?_ | refine And.intro (vp_lit (by decide)) ?_ | refine divJ (by decide) ?_ | refine divI (by decide) ?_)
  try change _ ∧ _
  refine Cl.of (g_EP R o hp) (by decide) ?_
  iterate 1 (refine W1 rfl ?_; try refine Wp.norm (L' := [_, _, _, _, _, _]) rfl ?_)
  refine brF (by decide) ?_
  iterate 2 (refine W1 rfl ?_; try refine Wp.norm (L' := [_, _, _, _, _, _]) rfl ?_)
  refine brF (nI_pos (by omega)) ?_
  iterate 3 (refine W1 rfl ?_; try refine Wp.norm (L' := [_, _, _, _, _, _]) rfl ?_)
  refine brF (fun z => by rw [nI_ltI (by omega) (by omega)] at z; omega) ?_
  iterate 3 (refine W1 rfl ?_; try refine Wp.norm (L' := [_, _, _, _, _, _]) rfl ?_)
  refine brF (fun z => by rw [show (200 : Int32) = nI 200 from rfl, nI_leI (by omega) (by omega)] at z; omega) ?_
  iterate 4 (refine W1 rfl ?_; try refine Wp.norm (L' := [_, _, _, _, _, _]) rfl ?_)
  change (_ → _) ∧ (_ → _)
  rw [lgc_ge]
  refine brT (Int64.not_lt.mp hbd) ?_
  repeat (first | (refine W1 rfl ?_; try refine Wp.norm (L' := [_, _, _, _, _, _]) rfl ?_) | ((first | change (_ → _) ∧ (_ → _) | change vp_in _ _ ∧ _ | change ¬ _ ∧ _); simp (disch := omega) only [nI_clamp, nI_leI, nI_ltI, nI_eq, nI_1, nI_add, nI_not_neg, nI_is_pos, nI_m1, nI_z]) | refine brT (by first | assumption | decide | omega) ?_ | refine brF (by first | assumption | decide | omega) ?_ | refine brTn (by first | assumption | decide | omega) ?_ | refine brFn (by first | assumption | decide | omega) ?_ | refine And.intro (vp_in_nI (by omega) (by decide)) ?_ | refine And.intro (vp_lit (by decide)) ?_ | refine divJ (by decide) ?_ | refine divI (by decide) ?_)
  try change _ ∧ _
  refine Cl.of r1 (by decide) ?_
  repeat (first | (refine W1 rfl ?_; try refine Wp.norm (L' := [_, _, _, _, _, _]) rfl ?_) | ((first | change (_ → _) ∧ (_ → _) | change vp_in _ _ ∧ _ | change ¬ _ ∧ _); simp (disch := omega) only [nI_clamp, nI_leI, nI_ltI, nI_eq, nI_1, nI_add, nI_not_neg, nI_is_pos, nI_m1, nI_z]) | refine brT (by first | assumption | decide | omega) ?_ | refine brF (by first | assumption | decide | omega) ?_ | refine brTn (by first | assumption | decide | omega) ?_ | refine brFn (by first | assumption | decide | omega) ?_ | refine And.intro (vp_in_nI (by omega) (by decide)) ?_ | refine And.intro (vp_lit (by decide)) ?_ | refine divJ (by decide) ?_ | refine divI (by decide) ?_)
  try change _ ∧ _
  try first | exact ⟨rfl, rfl⟩ | exact ⟨Or.inr rfl, rfl, rfl⟩ | exact ⟨Or.inl rfl, rfl, rfl⟩ | exact ⟨trivial, trivial⟩ | exact ⟨rfl, trivial⟩ | exact ⟨Or.inr rfl, rfl, trivial⟩ | exact ⟨Or.inl rfl, rfl, trivial⟩
theorem ill_in {f g : Int32} (h1 : (0 : Int64) ≤ f.toInt64 ∧ f.toInt64 ≤ 199) (h2 : f.toInt64 ≤ g.toInt64 ∧ g.toInt64 ≤ 199) : ¬ f < 0 ∧ ¬ g < f ∧ g < 200 := by
  rw [Int64.le_iff_toInt_le, Int64.le_iff_toInt_le, i64_i32, show (0 : Int64).toInt = 0 from rfl, show (199 : Int64).toInt = 199 from rfl] at h1
  rw [Int64.le_iff_toInt_le, Int64.le_iff_toInt_le, i64_i32, i64_i32, show (199 : Int64).toInt = 199 from rfl] at h2
  rw [Int32.lt_iff_toInt_lt, Int32.lt_iff_toInt_lt, Int32.lt_iff_toInt_lt, show (0 : Int32).toInt = 0 from rfl, show (200 : Int32).toInt = 200 from rfl]
  omega
theorem o_ill : op_26 Inv := fun x f g bd h I => by
  obtain ⟨t, m, s, c, v, R, M, o, ro⟩ := id I
  have hP := o.P
  by_cases hg : (0 ≤ x ∧ x < nI (zP s)) ∧ ¬ f < 0 ∧ ¬ g < f ∧ g < 200 ∧ ¬ bd < 0
  · obtain ⟨hg1, hg2, hg3, hg4, hbd⟩ := hg
    obtain ⟨p, hp, rfl⟩ := (ix_cases x (n := zP s) (by omega)).resolve_right (fun z => z hg1)
    obtain ⟨a, ha, rfl⟩ := nI_of (x := f) hg2
    have hg5 : ¬ g < 0 := by
      rw [Int32.lt_iff_toInt_lt] at *
      rw [show (0 : Int32).toInt = 0 from rfl] at *
      omega
    obtain ⟨b, hb', rfl⟩ := nI_of (x := g) hg5
    have hb : b < 200 := by rwa [show (200 : Int32) = nI 200 from rfl, nI_ltI hb' (by decide)] at hg4
    have hab : a ≤ b := by rw [nI_ltI hb' ha] at hg3; omega
    obtain ⟨w, h1, r1, O1, rfl, R1, ro1⟩ := w_replace R o ro hp hab hb hbd
    have M1 : RM s c v h1 := M.sr (O1.K (by intro k i hk z; simp at z; rcases z with z | z | z | z | z | z | z <;> (subst z; cases hk))) (fun k i hk => O1.2 k i (by intro z; simp at z; rcases z with z | z | z <;> (subst z; cases hk)))
    obtain ⟨w2, h2, r2, G2, rfl, M2⟩ := w_M_ill M1 o ro hp hab hb hbd
    have E' := w_E_ill R o hp hab hb hbd r1
    refine ⟨_, h1, h2, E'.d, r2.d, ?_, ?_, s, _, _, R1.sr (G2.1.K (by intro k i hk z; simp at z; rcases z with z | z | z | z | z | z <;> (subst z; cases hk))), M2, o, ro1⟩
    · refine (t.sr (O1.K (by intro k i hk z; simp at z; rcases z with z | z | z | z | z | z | z <;> (subst z; cases hk)))).sr (fun k i hk => ?_)
      by_cases e : k = 65
      · subst e
        exact G2.2 i (by rintro rfl; cases hk) (by rintro rfl; cases hk) (by rintro rfl; cases hk)
      · exact G2.1.1 k i (by intro z; simp at z; rcases z with z | z | z | z | z | z; exact e z; all_goals (subst z; cases hk))
    · refine (m.sr (O1.K (by intro k i hk z; simp at z; rcases z with z | z | z | z | z | z | z <;> (subst z; cases hk)))).sr (fun k i hk => ?_)
      by_cases e : k = 65
      · subst e
        exact G2.2 i (by rintro rfl; cases hk) (by rintro rfl; cases hk) (by rintro rfl; cases hk)
      · exact G2.1.1 k i (by intro z; simp at z; rcases z with z | z | z | z | z | z; exact e z; all_goals (subst z; cases hk))
  · refine ⟨-1, h, h, Run.d (d := 1) ?_, Run.d (d := 2) ?_, I⟩
    · show Run 1 j_E_ill _ _ _ _
      refine Run.of rfl ?_
      refine Wp.norm (L' := [_, _, _, _, _, _]) rfl ?_
      repeat (first | (refine W1 rfl ?_; try refine Wp.norm (L' := [_, _, _, _, _, _]) rfl ?_) | ((first | change (_ → _) ∧ (_ → _) | change vp_in _ _ ∧ _ | change ¬ _ ∧ _); simp (disch := omega) only [nI_clamp, nI_leI, nI_ltI, nI_eq, nI_1, nI_add, nI_not_neg, nI_is_pos, nI_m1, nI_z]) | refine brT (by first | assumption | decide | omega) ?_ | refine brF (by first | assumption | decide | omega) ?_ | refine brTn (by first | assumption | decide | omega) ?_ | refine brFn (by first | assumption | decide | omega) ?_ | refine And.intro (vp_in_nI (by omega) (by decide)) ?_ | refine And.intro (vp_lit (by decide)) ?_ | refine divJ (by decide) ?_ | refine divI (by decide) ?_)
      try change _ ∧ _
      by_cases q1 : 0 ≤ x ∧ x < nI (zP s)
      · have q1' := q1
        obtain ⟨p, hp, rfl⟩ := (ix_cases x (n := zP s) (by omega)).resolve_right (fun z => z q1)
        refine Cl.of (g_EP R o hp) (by decide) ?_
        iterate 1 (refine W1 rfl ?_; try refine Wp.norm (L' := [_, _, _, _, _, _]) rfl ?_)
        refine brF (by decide) ?_
        iterate 2 (refine W1 rfl ?_; try refine Wp.norm (L' := [_, _, _, _, _, _]) rfl ?_)
        refine ⟨fun q2 => ?_, fun q2 => ?_⟩
        · repeat (first | (refine W1 rfl ?_; try refine Wp.norm (L' := [_, _, _, _, _, _]) rfl ?_) | ((first | change (_ → _) ∧ (_ → _) | change vp_in _ _ ∧ _ | change ¬ _ ∧ _); simp (disch := omega) only [nI_clamp, nI_leI, nI_ltI, nI_eq, nI_1, nI_add, nI_not_neg, nI_is_pos, nI_m1, nI_z]) | refine brT (by first | assumption | decide | omega) ?_ | refine brF (by first | assumption | decide | omega) ?_ | refine brTn (by first | assumption | decide | omega) ?_ | refine brFn (by first | assumption | decide | omega) ?_ | refine And.intro (vp_in_nI (by omega) (by decide)) ?_ | refine And.intro (vp_lit (by decide)) ?_ | refine divJ (by decide) ?_ | refine divI (by decide) ?_)
          try change _ ∧ _
          try first | exact ⟨rfl, rfl⟩ | exact ⟨Or.inr rfl, rfl, rfl⟩ | exact ⟨Or.inl rfl, rfl, rfl⟩ | exact ⟨trivial, trivial⟩ | exact ⟨rfl, trivial⟩ | exact ⟨Or.inr rfl, rfl, trivial⟩ | exact ⟨Or.inl rfl, rfl, trivial⟩
        · iterate 3 (refine W1 rfl ?_; try refine Wp.norm (L' := [_, _, _, _, _, _]) rfl ?_)
          refine ⟨fun q3 => ?_, fun q3 => ?_⟩
          · repeat (first | (refine W1 rfl ?_; try refine Wp.norm (L' := [_, _, _, _, _, _]) rfl ?_) | ((first | change (_ → _) ∧ (_ → _) | change vp_in _ _ ∧ _ | change ¬ _ ∧ _); simp (disch := omega) only [nI_clamp, nI_leI, nI_ltI, nI_eq, nI_1, nI_add, nI_not_neg, nI_is_pos, nI_m1, nI_z]) | refine brT (by first | assumption | decide | omega) ?_ | refine brF (by first | assumption | decide | omega) ?_ | refine brTn (by first | assumption | decide | omega) ?_ | refine brFn (by first | assumption | decide | omega) ?_ | refine And.intro (vp_in_nI (by omega) (by decide)) ?_ | refine And.intro (vp_lit (by decide)) ?_ | refine divJ (by decide) ?_ | refine divI (by decide) ?_)
            try change _ ∧ _
            try first | exact ⟨rfl, rfl⟩ | exact ⟨Or.inr rfl, rfl, rfl⟩ | exact ⟨Or.inl rfl, rfl, rfl⟩ | exact ⟨trivial, trivial⟩ | exact ⟨rfl, trivial⟩ | exact ⟨Or.inr rfl, rfl, trivial⟩ | exact ⟨Or.inl rfl, rfl, trivial⟩
          · iterate 3 (refine W1 rfl ?_; try refine Wp.norm (L' := [_, _, _, _, _, _]) rfl ?_)
            refine ⟨fun q4 => ?_, fun q4 => ?_⟩
            · repeat (first | (refine W1 rfl ?_; try refine Wp.norm (L' := [_, _, _, _, _, _]) rfl ?_) | ((first | change (_ → _) ∧ (_ → _) | change vp_in _ _ ∧ _ | change ¬ _ ∧ _); simp (disch := omega) only [nI_clamp, nI_leI, nI_ltI, nI_eq, nI_1, nI_add, nI_not_neg, nI_is_pos, nI_m1, nI_z]) | refine brT (by first | assumption | decide | omega) ?_ | refine brF (by first | assumption | decide | omega) ?_ | refine brTn (by first | assumption | decide | omega) ?_ | refine brFn (by first | assumption | decide | omega) ?_ | refine And.intro (vp_in_nI (by omega) (by decide)) ?_ | refine And.intro (vp_lit (by decide)) ?_ | refine divJ (by decide) ?_ | refine divI (by decide) ?_)
              try change _ ∧ _
              try first | exact ⟨rfl, rfl⟩ | exact ⟨Or.inr rfl, rfl, rfl⟩ | exact ⟨Or.inl rfl, rfl, rfl⟩ | exact ⟨trivial, trivial⟩ | exact ⟨rfl, trivial⟩ | exact ⟨Or.inr rfl, rfl, trivial⟩ | exact ⟨Or.inl rfl, rfl, trivial⟩
            · iterate 4 (refine W1 rfl ?_; try refine Wp.norm (L' := [_, _, _, _, _, _]) rfl ?_)
              change (_ → _) ∧ (_ → _)
              rw [lgc_ge]
              refine brF (fun z => hg ⟨q1', q2, q3, Int32.not_le.mp q4, Int64.not_lt.mpr z⟩) ?_
              repeat (first | (refine W1 rfl ?_; try refine Wp.norm (L' := [_, _, _, _, _, _]) rfl ?_) | ((first | change (_ → _) ∧ (_ → _) | change vp_in _ _ ∧ _ | change ¬ _ ∧ _); simp (disch := omega) only [nI_clamp, nI_leI, nI_ltI, nI_eq, nI_1, nI_add, nI_not_neg, nI_is_pos, nI_m1, nI_z]) | refine brT (by first | assumption | decide | omega) ?_ | refine brF (by first | assumption | decide | omega) ?_ | refine brTn (by first | assumption | decide | omega) ?_ | refine brFn (by first | assumption | decide | omega) ?_ | refine And.intro (vp_in_nI (by omega) (by decide)) ?_ | refine And.intro (vp_lit (by decide)) ?_ | refine divJ (by decide) ?_ | refine divI (by decide) ?_)
              try change _ ∧ _
              try first | exact ⟨rfl, rfl⟩ | exact ⟨Or.inr rfl, rfl, rfl⟩ | exact ⟨Or.inl rfl, rfl, rfl⟩ | exact ⟨trivial, trivial⟩ | exact ⟨rfl, trivial⟩ | exact ⟨Or.inr rfl, rfl, trivial⟩ | exact ⟨Or.inl rfl, rfl, trivial⟩
      · refine Cl.of (g_EPn R q1) (by decide) ?_
        repeat (first | (refine W1 rfl ?_; try refine Wp.norm (L' := [_, _, _, _, _, _]) rfl ?_) | ((first | change (_ → _) ∧ (_ → _) | change vp_in _ _ ∧ _ | change ¬ _ ∧ _); simp (disch := omega) only [nI_clamp, nI_leI, nI_ltI, nI_eq, nI_1, nI_add, nI_not_neg, nI_is_pos, nI_m1, nI_z]) | refine brT (by first | assumption | decide | omega) ?_ | refine brF (by first | assumption | decide | omega) ?_ | refine brTn (by first | assumption | decide | omega) ?_ | refine brFn (by first | assumption | decide | omega) ?_ | refine And.intro (vp_in_nI (by omega) (by decide)) ?_ | refine And.intro (vp_lit (by decide)) ?_ | refine divJ (by decide) ?_ | refine divI (by decide) ?_)
        try change _ ∧ _
        try first | exact ⟨rfl, rfl⟩ | exact ⟨Or.inr rfl, rfl, rfl⟩ | exact ⟨Or.inl rfl, rfl, rfl⟩ | exact ⟨trivial, trivial⟩ | exact ⟨rfl, trivial⟩ | exact ⟨Or.inr rfl, rfl, trivial⟩ | exact ⟨Or.inl rfl, rfl, trivial⟩
    · show Run 2 j_M_ill _ _ _ _
      refine Run.of rfl ?_
      refine Wp.norm (L' := [_, _, _, _, _, _, _, _]) rfl ?_
      repeat (first | (refine W1 rfl ?_; try refine Wp.norm (L' := [_, _, _, _, _, _, _, _]) rfl ?_) | ((first | change (_ → _) ∧ (_ → _) | change vp_in _ _ ∧ _ | change ¬ _ ∧ _); simp (disch := omega) only [nI_clamp, nI_leI, nI_ltI, nI_eq, nI_1, nI_add, nI_not_neg, nI_is_pos, nI_m1, nI_z]) | refine brT (by first | assumption | decide | omega) ?_ | refine brF (by first | assumption | decide | omega) ?_ | refine brTn (by first | assumption | decide | omega) ?_ | refine brFn (by first | assumption | decide | omega) ?_ | refine And.intro (vp_in_nI (by omega) (by decide)) ?_ | refine And.intro (vp_lit (by decide)) ?_ | refine divJ (by decide) ?_ | refine divI (by decide) ?_)
      try change _ ∧ _
      by_cases q1 : 0 ≤ x ∧ x < nI (zP s)
      · have q1' := q1
        obtain ⟨p, hp, rfl⟩ := (ix_cases x (n := zP s) (by omega)).resolve_right (fun z => z q1)
        refine Cl.of (g_MP M o hp) (by decide) ?_
        repeat (first | (refine W1 rfl ?_; try refine Wp.norm (L' := [_, _, _, _, _, _, _, _]) rfl ?_) | ((first | change (_ → _) ∧ (_ → _) | change vp_in _ _ ∧ _ | change ¬ _ ∧ _); simp (disch := omega) only [nI_clamp, nI_leI, nI_ltI, nI_eq, nI_1, nI_add, nI_not_neg, nI_is_pos, nI_m1, nI_z]) | refine brT (by first | assumption | decide | omega) ?_ | refine brF (by first | assumption | decide | omega) ?_ | refine brTn (by first | assumption | decide | omega) ?_ | refine brFn (by first | assumption | decide | omega) ?_ | refine And.intro (vp_in_nI (by omega) (by decide)) ?_ | refine And.intro (vp_lit (by decide)) ?_ | refine divJ (by decide) ?_ | refine divI (by decide) ?_)
        try change _ ∧ _
        refine Cl.of (r_M_isIn h f.toInt64 0 199) (by decide) ?_
        by_cases i1 : (0 : Int64) ≤ f.toInt64 ∧ f.toInt64 ≤ 199
        · rw [if_pos i1]
          iterate 1 (refine W1 rfl ?_; try refine Wp.norm (L' := [_, _, _, _, _, _, _, _]) rfl ?_)
          refine brF (by decide) ?_
          refine Wp.normS (pc' := 20) (S' := []) rfl rfl rfl ?_
          repeat (first | (refine W1 rfl ?_; try refine Wp.norm (L' := [_, _, _, _, _, _, _, _]) rfl ?_) | ((first | change (_ → _) ∧ (_ → _) | change vp_in _ _ ∧ _ | change ¬ _ ∧ _); simp (disch := omega) only [nI_clamp, nI_leI, nI_ltI, nI_eq, nI_1, nI_add, nI_not_neg, nI_is_pos, nI_m1, nI_z]) | refine brT (by first | assumption | decide | omega) ?_ | refine brF (by first | assumption | decide | omega) ?_ | refine brTn (by first | assumption | decide | omega) ?_ | refine brFn (by first | assumption | decide | omega) ?_ | refine And.intro (vp_in_nI (by omega) (by decide)) ?_ | refine And.intro (vp_lit (by decide)) ?_ | refine divJ (by decide) ?_ | refine divI (by decide) ?_)
          try change _ ∧ _
          refine Cl.of (r_M_isIn h g.toInt64 f.toInt64 199) (by decide) ?_
          by_cases i2 : f.toInt64 ≤ g.toInt64 ∧ g.toInt64 ≤ 199
          · rw [if_pos i2]
            iterate 1 (refine W1 rfl ?_; try refine Wp.norm (L' := [_, _, _, _, _, _, _, _]) rfl ?_)
            refine brF (by decide) ?_
            refine Wp.normS (pc' := 33) (S' := []) rfl rfl rfl ?_
            repeat (first | (refine W1 rfl ?_; try refine Wp.norm (L' := [_, _, _, _, _, _, _, _]) rfl ?_) | ((first | change (_ → _) ∧ (_ → _) | change vp_in _ _ ∧ _ | change ¬ _ ∧ _); simp (disch := omega) only [nI_clamp, nI_leI, nI_ltI, nI_eq, nI_1, nI_add, nI_not_neg, nI_is_pos, nI_m1, nI_z]) | refine brT (by first | assumption | decide | omega) ?_ | refine brF (by first | assumption | decide | omega) ?_ | refine brTn (by first | assumption | decide | omega) ?_ | refine brFn (by first | assumption | decide | omega) ?_ | refine And.intro (vp_in_nI (by omega) (by decide)) ?_ | refine And.intro (vp_lit (by decide)) ?_ | refine divJ (by decide) ?_ | refine divI (by decide) ?_)
            try change _ ∧ _
            rw [lgc_ge]
            have q := ill_in i1 i2
            refine brF (fun z => hg ⟨q1', q.1, q.2.1, q.2.2, Int64.not_lt.mpr z⟩) ?_
            repeat (first | (refine W1 rfl ?_; try refine Wp.norm (L' := [_, _, _, _, _, _, _, _]) rfl ?_) | ((first | change (_ → _) ∧ (_ → _) | change vp_in _ _ ∧ _ | change ¬ _ ∧ _); simp (disch := omega) only [nI_clamp, nI_leI, nI_ltI, nI_eq, nI_1, nI_add, nI_not_neg, nI_is_pos, nI_m1, nI_z]) | refine brT (by first | assumption | decide | omega) ?_ | refine brF (by first | assumption | decide | omega) ?_ | refine brTn (by first | assumption | decide | omega) ?_ | refine brFn (by first | assumption | decide | omega) ?_ | refine And.intro (vp_in_nI (by omega) (by decide)) ?_ | refine And.intro (vp_lit (by decide)) ?_ | refine divJ (by decide) ?_ | refine divI (by decide) ?_)
            try change _ ∧ _
            try first | exact ⟨rfl, rfl⟩ | exact ⟨Or.inr rfl, rfl, rfl⟩ | exact ⟨Or.inl rfl, rfl, rfl⟩ | exact ⟨trivial, trivial⟩ | exact ⟨rfl, trivial⟩ | exact ⟨Or.inr rfl, rfl, trivial⟩ | exact ⟨Or.inl rfl, rfl, trivial⟩
          · rw [if_neg i2]
            iterate 1 (refine W1 rfl ?_; try refine Wp.norm (L' := [_, _, _, _, _, _, _, _]) rfl ?_)
            refine brT (by decide) ?_
            refine Wp.normS (pc' := 40) (S' := []) rfl rfl rfl ?_
            repeat (first | (refine W1 rfl ?_; try refine Wp.norm (L' := [_, _, _, _, _, _, _, _]) rfl ?_) | ((first | change (_ → _) ∧ (_ → _) | change vp_in _ _ ∧ _ | change ¬ _ ∧ _); simp (disch := omega) only [nI_clamp, nI_leI, nI_ltI, nI_eq, nI_1, nI_add, nI_not_neg, nI_is_pos, nI_m1, nI_z]) | refine brT (by first | assumption | decide | omega) ?_ | refine brF (by first | assumption | decide | omega) ?_ | refine brTn (by first | assumption | decide | omega) ?_ | refine brFn (by first | assumption | decide | omega) ?_ | refine And.intro (vp_in_nI (by omega) (by decide)) ?_ | refine And.intro (vp_lit (by decide)) ?_ | refine divJ (by decide) ?_ | refine divI (by decide) ?_)
            try change _ ∧ _
            try first | exact ⟨rfl, rfl⟩ | exact ⟨Or.inr rfl, rfl, rfl⟩ | exact ⟨Or.inl rfl, rfl, rfl⟩ | exact ⟨trivial, trivial⟩ | exact ⟨rfl, trivial⟩ | exact ⟨Or.inr rfl, rfl, trivial⟩ | exact ⟨Or.inl rfl, rfl, trivial⟩
        · rw [if_neg i1]
          iterate 1 (refine W1 rfl ?_; try refine Wp.norm (L' := [_, _, _, _, _, _, _, _]) rfl ?_)
          refine brT (by decide) ?_
          refine Wp.normS (pc' := 40) (S' := []) rfl rfl rfl ?_
          repeat (first | (refine W1 rfl ?_; try refine Wp.norm (L' := [_, _, _, _, _, _, _, _]) rfl ?_) | ((first | change (_ → _) ∧ (_ → _) | change vp_in _ _ ∧ _ | change ¬ _ ∧ _); simp (disch := omega) only [nI_clamp, nI_leI, nI_ltI, nI_eq, nI_1, nI_add, nI_not_neg, nI_is_pos, nI_m1, nI_z]) | refine brT (by first | assumption | decide | omega) ?_ | refine brF (by first | assumption | decide | omega) ?_ | refine brTn (by first | assumption | decide | omega) ?_ | refine brFn (by first | assumption | decide | omega) ?_ | refine And.intro (vp_in_nI (by omega) (by decide)) ?_ | refine And.intro (vp_lit (by decide)) ?_ | refine divJ (by decide) ?_ | refine divI (by decide) ?_)
          try change _ ∧ _
          try first | exact ⟨rfl, rfl⟩ | exact ⟨Or.inr rfl, rfl, rfl⟩ | exact ⟨Or.inl rfl, rfl, rfl⟩ | exact ⟨trivial, trivial⟩ | exact ⟨rfl, trivial⟩ | exact ⟨Or.inr rfl, rfl, trivial⟩ | exact ⟨Or.inl rfl, rfl, trivial⟩
      · refine Cl.of (g_MPn M o q1) (by decide) ?_
        repeat (first | (refine W1 rfl ?_; try refine Wp.norm (L' := [_, _, _, _, _, _, _, _]) rfl ?_) | ((first | change (_ → _) ∧ (_ → _) | change vp_in _ _ ∧ _ | change ¬ _ ∧ _); simp (disch := omega) only [nI_clamp, nI_leI, nI_ltI, nI_eq, nI_1, nI_add, nI_not_neg, nI_is_pos, nI_m1, nI_z]) | refine brT (by first | assumption | decide | omega) ?_ | refine brF (by first | assumption | decide | omega) ?_ | refine brTn (by first | assumption | decide | omega) ?_ | refine brFn (by first | assumption | decide | omega) ?_ | refine And.intro (vp_in_nI (by omega) (by decide)) ?_ | refine And.intro (vp_lit (by decide)) ?_ | refine divJ (by decide) ?_ | refine divI (by decide) ?_)
        try change _ ∧ _
        try first | exact ⟨rfl, rfl⟩ | exact ⟨Or.inr rfl, rfl, rfl⟩ | exact ⟨Or.inl rfl, rfl, rfl⟩ | exact ⟨trivial, trivial⟩ | exact ⟨rfl, trivial⟩ | exact ⟨Or.inr rfl, rfl, trivial⟩ | exact ⟨Or.inl rfl, rfl, trivial⟩
