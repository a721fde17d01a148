/-! ===== STEP: the model's, the clause ===== -/
section STEPM
variable {s : ST} {c v : RT} {h : HP}
theorem w_M_step (R : RM s c v h) (o : OK s) {seed bl : Int32} {x0 : Nat} (hs : (seed = -1 ∧ bl = 0) ∨ (¬ seed = -1 ∧ bl = 1 ∧ x0 < 2 ^ 31 ∧ seed = nI x0)) (hge : -1 ≤ seed) : ∃ w h', Run 3 j_M_step [.ref 65, .int seed] h w h' ∧ (w = some (.int (nI (laidN s bl x0 (zT s)))) ∧ RM s (sst s bl x0 (zT s)).1 (sst s bl x0 (zT s)).1 h' ∧ onlyJ [110, 111, 113] [112] h h') := by
  have hT := o.T; have hP := o.P; have hK := o.K; have hD := o.D; have hO := o.O; have hQ := o.Q; have hL := o.L
  refine Run.ofP rfl ?_
  refine Wp.norm (L' := [_, _, _, _, _, _, _, _, _]) rfl ?_
  have hlaid : ∀ t, laidN s bl x0 t ≤ t := fun t => by have := laid_open o bl x0 t; omega
  have lp3 : ∀ t, t ≤ zT s → ∀ h' xl x6 x7 x8, onlyJ [110, 111, 113] [112] h h' → RM s (sst s bl x0 t).1 (sst s bl x0 t).1 h' → lvM s (sst s bl x0 t).2.1 h' → (¬ bl = 0 → xl = lN (sst s bl x0 t).2.2) → Wp 3 j_M_step 66 [.ref 65, .int seed, .long xl, .null, .int (nI (laidN s bl x0 t)), .int (nI t), x6, x7, x8] [] h' (fun w h' => w = some (.int (nI (laidN s bl x0 (zT s)))) ∧ RM s (sst s bl x0 (zT s)).1 (sst s bl x0 (zT s)).1 h' ∧ onlyJ [110, 111, 113] [112] h h') := by
    refine up_ind ?_ (fun t ht ih => ?_)
    · intro h' xl x6 x7 x8 O R' L X
      repeat (first | (refine W1 rfl ?_; try refine Wp.norm (L' := [_, _, _, _, _, _, _, _, _]) rfl ?_) | refine brT (by first | assumption | decide | omega) ?_ | refine brF (by first | assumption | decide | omega) ?_ | refine brTn (by first | assumption | decide | omega) ?_ | refine brFn (by first | assumption | decide | omega) ?_ | ((first | change (_ → _) ∧ (_ → _) | change vp_in _ _ ∧ _ | change ¬ _ ∧ _); simp (disch := omega) only [nI_clamp, nI_leI, nI_ltI, nI_eq, nI_1, nI_add, nI_not_neg, nI_is_pos, nI_m1, nI_z, R'.T]) | refine And.intro (vp_in_nI (by omega) (by decide)) ?_ | refine And.intro (vp_lit (by decide)) ?_ | refine divJ (by decide) ?_ | refine divI (by decide) ?_)
      try change _ ∧ _
      exact ⟨rfl, R', O⟩
    · intro h' xl x6 x7 x8 O R' L X
      have hk := o.knd ht
      have hX : ¬ bl = 0 → (sst s bl x0 t).2.2 < 2 ^ 31 := fun z => sst_x bl (hs.elim (fun w => absurd w.2 z) (fun w => w.2.2.1)) t
      obtain ⟨_, h1, r1, rfl, O1, A1⟩ := w_M_likesOf R' o ht L
      have R1 : RM s (sst s bl x0 t).1 (sst s bl x0 t).1 h1 := R'.sr (O1.K (P := kRM) (by intro k i hk z; simp at z; subst z; cases hk)) (fun k i _ => O1.2 k i (by simp))
      have OO1 : onlyJ [110, 111, 113] [112] h h1 := O.trans (O1.mono (fun k z => by simp at z; rw [z]; decide) (by simp))
      have L1 : lvM s (sst s bl x0 t).2.1 h1 := fun k p hk hp => by rw [O1.2 112 _ (by simp)]; exact L k p hk hp
      have es : sst s bl x0 (t + 1) = (upd (sst s bl x0 t).1 t (who s (sst s bl x0 t).1 (sst s bl x0 t).2.1 t bl (sst s bl x0 t).2.2), lvU s (sst s bl x0 t).2.1 t (who s (sst s bl x0 t).1 (sst s bl x0 t).2.1 t bl (sst s bl x0 t).2.2), nlot bl (sst s bl x0 t).2.2 (cB (lkS s (sst s bl x0 t).1 (sst s bl x0 t).2.1 t (zP s)).2 (zP s))) := rfl
      have el : laidN s bl x0 (t + 1) = laidN s bl x0 t + (if cB (lkS s (sst s bl x0 t).1 (sst s bl x0 t).2.1 t (zP s)).2 (zP s) = 0 then 0 else 1) := rfl
      have hl := hlaid t
      have ft : (sst s bl x0 t).1 t = -1 := by
        have : ∀ m, m ≤ t → (sst s bl x0 m).1 t = -1 := by
          intro m
          induction m with
          | zero => intro _; rfl
          | succ m ihm =>
            intro hm
            show (upd _ _ _) t = -1
            rw [pk_un (by omega)]
            exact ihm (by omega)
        exact this t (Nat.le_refl _)
      rw [es, el] at ih
      have hw := who_cases o (sst s bl x0 t).1 (sst s bl x0 t).2.1 t bl (sst s bl x0 t).2.2
      generalize (sst s bl x0 t).1 = f at *
      generalize (sst s bl x0 t).2.1 = lv at *
      generalize (sst s bl x0 t).2.2 = x at *
      generalize hBB : (lkS s f lv t (zP s)).2 = B at *
      have hn16 : cB B (zP s) ≤ zP s := cnt_le _ _
      generalize hnn : cB B (zP s) = n at *
      generalize who s f lv t bl x = w at *
      generalize laidN s bl x0 t = l at *
      -- the persons get theirs
      have inner : ∀ (l' : Nat) (xl : Int64), (¬ bl = 0 → xl = lN (nlot bl x n)) → l' = l + (if n = 0 then 0 else 1) → ∀ e, e ≤ zP s → ∀ h2 x6 (x7 : Int32), onlyJ [110, 111, 113] [112] h h2 → RM s (upd f t w) (upd f t w) h2 → lvM s (lvH s lv t w e) h2 → Wp 3 j_M_step 147 [.ref 65, .int seed, .long xl, .null, .int (nI l'), .int (nI t), x6, .int x7, .int (nI e)] [] h2 (fun w h' => w = some (.int (nI (laidN s bl x0 (zT s)))) ∧ RM s (sst s bl x0 (zT s)).1 (sst s bl x0 (zT s)).1 h' ∧ onlyJ [110, 111, 113] [112] h h') := by
        intro l' xl hxl hl'
        refine up_ind ?_ (fun e he ih2 => ?_)
        · intro h2 x6 x7 O2 R2 L2
          have ih := ih h2 xl x6 (.int x7) (.int (nI (zP s))) O2 R2 (fun k p hk hp => by
            rw [L2 k p hk hp]
            unfold lvH
            rw [if_pos hp]) hxl
          rw [← hl'] at ih
          (refine W1 rfl ?_; try refine Wp.norm (L' := [_, _, _, _, _, _, _, _, _]) rfl ?_)
          repeat (first | refine Wp.at ih rfl rfl ?_ rfl | (refine W1 rfl ?_; try refine Wp.norm (L' := [_, _, _, _, _, _, _, _, _]) rfl ?_) | refine brT (by first | assumption | decide | omega) ?_ | refine brF (by first | assumption | decide | omega) ?_ | refine brTn (by first | assumption | decide | omega) ?_ | refine brFn (by first | assumption | decide | omega) ?_ | ((first | change (_ → _) ∧ (_ → _) | change vp_in _ _ ∧ _ | change ¬ _ ∧ _); simp (disch := omega) only [nI_clamp, nI_leI, nI_ltI, nI_eq, nI_1, nI_add, nI_not_neg, nI_is_pos, nI_m1, nI_z, show Int32.toNatClampNeg 1 = 1 from rfl, R2.P]) | refine And.intro (vp_in_nI (by omega) (by decide)) ?_ | refine And.intro (vp_lit (by decide)) ?_ | refine divJ (by decide) ?_ | refine divI (by decide) ?_)
          try change _ ∧ _
          first | rfl | (simp (disch := omega) only [nI_1, nI_add, nI_clamp] <;> first | done | rfl)
        · intro h2 x6 x7 O2 R2 L2
          have e16 : (16 : Int32) * nI (tK s t) + nI e = nI (16 * tK s t + e) := by rw [show (16 : Int32) = nI 16 from rfl, pk_mul, nI_add]
          have go : ∀ g, (g = if nI e = w then (720720 : Int32) else 0) → Wp 3 j_M_step 196 [.ref 65, .int seed, .long xl, .null, .int (nI l'), .int (nI t), x6, .int x7, .int (nI e)] [.int g, .long (h2.2 112 (16 * tK s t + e)), .int (nI (16 * tK s t + e)), .ref 112] h2 (fun w h' => w = some (.int (nI (laidN s bl x0 (zT s)))) ∧ RM s (sst s bl x0 (zT s)).1 (sst s bl x0 (zT s)).1 h' ∧ onlyJ [110, 111, 113] [112] h h') := by
            intro g hg
            have ih := ih2 (wJ h2 112 (16 * tK s t + e) (h2.2 112 (16 * tK s t + e) + (g - nI (dueN s e t)).toInt64)) x6 x7 (O2.addJ (by decide)) (R2.sr (fun _ _ _ => rfl) (fun k i hk => by rw [wJ_ne _ _ _ (by rintro rfl; cases hk)])) (by
              intro k p hk2 hp
              by_cases ek : k = tK s t ∧ p = e
              · obtain ⟨rfl, rfl⟩ := ek
                rw [wJ_same, L2 _ _ hk2 hp]
                unfold lvH lvU
                rw [if_neg (by omega), if_pos (by omega), if_pos rfl, hg]
              · have hne : 16 * k + p ≠ 16 * tK s t + e := by omega
                rw [wJ_ne2 _ _ hne, L2 k p hk2 hp]
                unfold lvH
                by_cases hpe : p < e
                · rw [if_pos hpe, if_pos (by omega)]
                · rw [if_neg hpe]
                  by_cases hpe2 : p = e
                  · rw [if_pos (by omega)]
                    unfold lvU
                    rw [if_neg (fun z => ek ⟨z, hpe2⟩)]
                  · rw [if_neg (by omega)])
            repeat (first | (refine W1 rfl ?_; try refine Wp.norm (L' := [_, _, _, _, _, _, _, _, _]) rfl ?_) | refine brT (by first | assumption | decide | omega) ?_ | refine brF (by first | assumption | decide | omega) ?_ | refine brTn (by first | assumption | decide | omega) ?_ | refine brFn (by first | assumption | decide | omega) ?_ | ((first | change (_ → _) ∧ (_ → _) | change vp_in _ _ ∧ _ | change ¬ _ ∧ _); simp (disch := omega) only [nI_clamp, nI_leI, nI_ltI, nI_eq, nI_1, nI_add, nI_not_neg, nI_is_pos, nI_m1, nI_z]) | refine And.intro (vp_in_nI (by omega) (by decide)) ?_ | refine And.intro (vp_lit (by decide)) ?_ | refine divJ (by decide) ?_ | refine divI (by decide) ?_)
            try change _ ∧ _
            refine Cl.of (r_M_dueOf R2 o he ht) (by decide) ?_
            repeat (first | refine Wp.at ih rfl rfl ?_ ?_ | (refine W1 rfl ?_; try refine Wp.norm (L' := [_, _, _, _, _, _, _, _, _]) rfl ?_) | refine brT (by first | assumption | decide | omega) ?_ | refine brF (by first | assumption | decide | omega) ?_ | refine brTn (by first | assumption | decide | omega) ?_ | refine brFn (by first | assumption | decide | omega) ?_ | ((first | change (_ → _) ∧ (_ → _) | change vp_in _ _ ∧ _ | change ¬ _ ∧ _); simp (disch := omega) only [nI_clamp, nI_leI, nI_ltI, nI_eq, nI_1, nI_add, nI_not_neg, nI_is_pos, nI_m1, nI_z]) | refine And.intro (vp_in_nI (by omega) (by decide)) ?_ | refine And.intro (vp_lit (by decide)) ?_ | refine divJ (by decide) ?_ | refine divI (by decide) ?_)
            try change _ ∧ _
            · first | rfl | (simp (disch := omega) only [nI_1, nI_add, nI_clamp] <;> first | done | rfl)
            · first | rfl | (simp (disch := omega) only [nI_1, nI_add, nI_clamp] <;> first | done | rfl)
          have hcw : (upd f t w) t = w := pk_us
          repeat (first | (refine W1 rfl ?_; try refine Wp.norm (L' := [_, _, _, _, _, _, _, _, _]) rfl ?_) | refine brT (by first | assumption | decide | omega) ?_ | refine brF (by first | assumption | decide | omega) ?_ | refine brTn (by first | assumption | decide | omega) ?_ | refine brFn (by first | assumption | decide | omega) ?_ | ((first | change (_ → _) ∧ (_ → _) | change vp_in _ _ ∧ _ | change ¬ _ ∧ _); simp (disch := omega) only [nI_clamp, nI_leI, nI_ltI, nI_eq, nI_1, nI_add, nI_not_neg, nI_is_pos, nI_m1, nI_z, show Int32.toNatClampNeg 1 = 1 from rfl, R2.P, R2.knd, e16, R2.cts, hcw]) | refine And.intro (vp_in_nI (by omega) (by decide)) ?_ | refine And.intro (vp_lit (by decide)) ?_ | refine divJ (by decide) ?_ | refine divI (by decide) ?_)
          try change _ ∧ _
          refine ⟨fun q => ?_, fun q => ?_⟩
          · iterate 1 (refine W1 rfl ?_; try refine Wp.norm (L' := [_, _, _, _, _, _, _, _, _]) rfl ?_)
            refine Wp.toQ (go _ (by rw [if_neg (fun z => q z.symm)])) rfl ?_ rfl
            first | rfl | (simp (disch := omega) only [nI_1, nI_add, nI_clamp, R2.knd, e16] <;> first | done | rfl)
          · iterate 2 (refine W1 rfl ?_; try refine Wp.norm (L' := [_, _, _, _, _, _, _, _, _]) rfl ?_)
            refine Wp.toQ (go _ (by rw [if_pos q.symm])) rfl ?_ rfl
            first | rfl | (simp (disch := omega) only [nI_1, nI_add, nI_clamp, R2.knd, e16] <;> first | done | rfl)
      -- behind the draw
      have mid : ∀ (at0 : Nat) (xl : Int64), (¬ bl = 0 → xl = lN (nlot bl x n)) → at0 = plc bl x n → ∀ x8, Wp 3 j_M_step 123 [.ref 65, .int seed, .long xl, .null, .int (nI l), .int (nI t), .int (nI n), .int (nI at0), x8] [] h1 (fun w h' => w = some (.int (nI (laidN s bl x0 (zT s)))) ∧ RM s (sst s bl x0 (zT s)).1 (sst s bl x0 (zT s)).1 h' ∧ onlyJ [110, 111, 113] [112] h h') := by
        intro at0 xl hxl hat x8
        rcases hw with ⟨n0, w0⟩ | ⟨n0, q, q1, q2, q3, q4⟩
        · have ih := inner l xl hxl (by rw [if_pos n0]; rfl) 0 (Nat.zero_le _) h1 (.int (nI n)) (nI at0) OO1 (R1.cg (fun u hu => by
            by_cases e : u = t
            · subst e; rw [pk_us, w0]; exact ft
            · rw [pk_un e]) (fun u hu => by
            by_cases e : u = t
            · subst e; rw [pk_us, w0]; exact ft
            · rw [pk_un e])) (by rw [lvH_0]; exact L1)
          repeat (first | refine Wp.at ih rfl rfl ?_ rfl | (refine W1 rfl ?_; try refine Wp.norm (L' := [_, _, _, _, _, _, _, _, _]) rfl ?_) | refine brT (by first | assumption | decide | omega) ?_ | refine brF (by first | assumption | decide | omega) ?_ | refine brTn (by first | assumption | decide | omega) ?_ | refine brFn (by first | assumption | decide | omega) ?_ | ((first | change (_ → _) ∧ (_ → _) | change vp_in _ _ ∧ _ | change ¬ _ ∧ _); simp (disch := omega) only [nI_clamp, nI_leI, nI_ltI, nI_eq, nI_1, nI_add, nI_not_neg, nI_is_pos, nI_m1, nI_z, nI_le0]) | refine And.intro (vp_in_nI (by omega) (by decide)) ?_ | refine And.intro (vp_lit (by decide)) ?_ | refine divJ (by decide) ?_ | refine divI (by decide) ?_)
          try change _ ∧ _
          first | rfl | (simp (disch := omega) only [nI_1, nI_add, nI_clamp] <;> first | done | rfl)
        · have hat2 : at0 < n := by rw [hat]; exact plc_lt n0
          have a1 := A1 q q2
          rw [q3, ← hat, ← q4] at a1
          have ih := inner (l + 1) xl hxl (by rw [if_neg (by omega)]) 0 (Nat.zero_le _) (layM h1 t w) (.int (nI n)) (nI at0) ((OO1.addI (by decide)).addI (by decide)) (R1.lay t w) (by rw [lvH_0]; exact L1)
          repeat (first | (refine W1 rfl ?_; try refine Wp.norm (L' := [_, _, _, _, _, _, _, _, _]) rfl ?_) | refine brT (by first | assumption | decide | omega) ?_ | refine brF (by first | assumption | decide | omega) ?_ | refine brTn (by first | assumption | decide | omega) ?_ | refine brFn (by first | assumption | decide | omega) ?_ | ((first | change (_ → _) ∧ (_ → _) | change vp_in _ _ ∧ _ | change ¬ _ ∧ _); simp (disch := omega) only [nI_clamp, nI_leI, nI_ltI, nI_eq, nI_1, nI_add, nI_not_neg, nI_is_pos, nI_m1, nI_z, nI_le0]) | refine And.intro (vp_in_nI (by omega) (by decide)) ?_ | refine And.intro (vp_lit (by decide)) ?_ | refine divJ (by decide) ?_ | refine divI (by decide) ?_)
          try change _ ∧ _
          refine Cl.ofA (r_M_laysFor (t := t) w (by omega)) (by first | rfl | (simp (disch := omega) only [nI_1, nI_add, nI_clamp, a1] <;> first | done | rfl)) (by decide) ?_
          repeat (first | refine Wp.at ih rfl rfl ?_ rfl | (refine W1 rfl ?_; try refine Wp.norm (L' := [_, _, _, _, _, _, _, _, _]) rfl ?_) | refine brT (by first | assumption | decide | omega) ?_ | refine brF (by first | assumption | decide | omega) ?_ | refine brTn (by first | assumption | decide | omega) ?_ | refine brFn (by first | assumption | decide | omega) ?_ | ((first | change (_ → _) ∧ (_ → _) | change vp_in _ _ ∧ _ | change ¬ _ ∧ _); simp (disch := omega) only [nI_clamp, nI_leI, nI_ltI, nI_eq, nI_1, nI_add, nI_not_neg, nI_is_pos, nI_m1, nI_z]) | refine And.intro (vp_in_nI (by omega) (by decide)) ?_ | refine And.intro (vp_lit (by decide)) ?_ | refine divJ (by decide) ?_ | refine divI (by decide) ?_)
          try change _ ∧ _
          first | rfl | (simp (disch := omega) only [nI_1, nI_add, nI_clamp] <;> first | done | rfl)
      repeat (first | (refine W1 rfl ?_; try refine Wp.norm (L' := [_, _, _, _, _, _, _, _, _]) rfl ?_) | refine brT (by first | assumption | decide | omega) ?_ | refine brF (by first | assumption | decide | omega) ?_ | refine brTn (by first | assumption | decide | omega) ?_ | refine brFn (by first | assumption | decide | omega) ?_ | ((first | change (_ → _) ∧ (_ → _) | change vp_in _ _ ∧ _ | change ¬ _ ∧ _); simp (disch := omega) only [nI_clamp, nI_leI, nI_ltI, nI_eq, nI_1, nI_add, nI_not_neg, nI_is_pos, nI_m1, nI_z, R'.T]) | refine And.intro (vp_in_nI (by omega) (by decide)) ?_ | refine And.intro (vp_lit (by decide)) ?_ | refine divJ (by decide) ?_ | refine divI (by decide) ?_)
      try change _ ∧ _
      refine Cl.of r1 (by decide) ?_
      repeat (first | (refine W1 rfl ?_; try refine Wp.norm (L' := [_, _, _, _, _, _, _, _, _]) rfl ?_) | refine brT (by first | assumption | decide | omega) ?_ | refine brF (by first | assumption | decide | omega) ?_ | refine brTn (by first | assumption | decide | omega) ?_ | refine brFn (by first | assumption | decide | omega) ?_ | ((first | change (_ → _) ∧ (_ → _) | change vp_in _ _ ∧ _ | change ¬ _ ∧ _); simp (disch := omega) only [nI_clamp, nI_leI, nI_ltI, nI_eq, nI_1, nI_add, nI_not_neg, nI_is_pos, nI_m1, nI_z, nI_le1]) | refine And.intro (vp_in_nI (by omega) (by decide)) ?_ | refine And.intro (vp_lit (by decide)) ?_ | refine divJ (by decide) ?_ | refine divI (by decide) ?_)
      try change _ ∧ _
      refine ⟨fun q1 => ?_, fun q1 => ?_⟩
      · have hno : ¬ (¬ bl = 0 ∧ 1 < n) := fun z => by omega
        have ih := mid 0 xl (fun z => by rw [X z]; unfold nlot; rw [if_neg hno]) (by unfold plc; rw [if_neg hno]) x8
        repeat (first | refine Wp.at ih rfl rfl ?_ rfl | (refine W1 rfl ?_; try refine Wp.norm (L' := [_, _, _, _, _, _, _, _, _]) rfl ?_) | refine brT (by first | assumption | decide | omega) ?_ | refine brF (by first | assumption | decide | omega) ?_ | refine brTn (by first | assumption | decide | omega) ?_ | refine brFn (by first | assumption | decide | omega) ?_ | ((first | change (_ → _) ∧ (_ → _) | change vp_in _ _ ∧ _ | change ¬ _ ∧ _); simp (disch := omega) only [nI_clamp, nI_leI, nI_ltI, nI_eq, nI_1, nI_add, nI_not_neg, nI_is_pos, nI_m1, nI_z]) | refine And.intro (vp_in_nI (by omega) (by decide)) ?_ | refine And.intro (vp_lit (by decide)) ?_ | refine divJ (by decide) ?_ | refine divI (by decide) ?_)
        try change _ ∧ _
        first | rfl | (simp (disch := omega) only [nI_1, nI_add, nI_clamp] <;> first | done | rfl)
      · rcases hs with ⟨g1, g2⟩ | ⟨g1, g2, g3, g4⟩
        · have hno : ¬ (¬ bl = 0 ∧ 1 < n) := fun z => z.1 g2
          have ih := mid 0 xl (fun z => absurd g2 z) (by unfold plc; rw [if_neg hno]) x8
          repeat (first | refine Wp.at ih rfl rfl ?_ rfl | (refine W1 rfl ?_; try refine Wp.norm (L' := [_, _, _, _, _, _, _, _, _]) rfl ?_) | refine brT (by first | assumption | decide | omega) ?_ | refine brF (by first | assumption | decide | omega) ?_ | refine brTn (by first | assumption | decide | omega) ?_ | refine brFn (by first | assumption | decide | omega) ?_ | ((first | change (_ → _) ∧ (_ → _) | change vp_in _ _ ∧ _ | change ¬ _ ∧ _); simp (disch := omega) only [nI_clamp, nI_leI, nI_ltI, nI_eq, nI_1, nI_add, nI_not_neg, nI_is_pos, nI_m1, nI_z]) | refine And.intro (vp_in_nI (by omega) (by decide)) ?_ | refine And.intro (vp_lit (by decide)) ?_ | refine divJ (by decide) ?_ | refine divI (by decide) ?_)
          try change _ ∧ _
          first | rfl | (simp (disch := omega) only [nI_1, nI_add, nI_clamp] <;> first | done | rfl)
        · have hbl : ¬ bl = 0 := by rw [g2]; decide
          have hyes : ¬ bl = 0 ∧ 1 < n := ⟨hbl, by omega⟩
          have hx31 := hX hbl
          have hnx : nxL x < 2147483648 := Nat.mod_lt _ (by decide)
          have hnl : (nI n).toInt64 = lN n := nI_l (by omega)
          have hn0 : ¬ (nI n).toInt64 = 0 := fun z => by
            rw [hnl, show (0 : Int64) = lN 0 from rfl, pk_lEQ (by omega) (by decide)] at z
            omega
          have e1 : (1103515245 : Int64) * xl + 12345 - (1103515245 * xl + 12345) / 2147483648 * 2147483648 = lN (nxL x) := by
            rw [X hbl, show (1103515245 : Int64) = lN 1103515245 from rfl, show (12345 : Int64) = lN 12345 from rfl, show (2147483648 : Int64) = lN 2147483648 from rfl, lN_mul, lN_add, pk_lRem (by omega) (by decide) (by decide)]
            rfl
          have ih := mid (nxL x / 256 % n) (lN (nxL x)) (fun _ => by unfold nlot; rw [if_pos hyes]) (by unfold plc; rw [if_pos hyes]) x8
          repeat (first | (refine W1 rfl ?_; try refine Wp.norm (L' := [_, _, _, _, _, _, _, _, _]) rfl ?_) | refine brT (by first | assumption | decide | omega) ?_ | refine brF (by first | assumption | decide | omega) ?_ | refine brTn (by first | assumption | decide | omega) ?_ | refine brFn (by first | assumption | decide | omega) ?_ | ((first | change (_ → _) ∧ (_ → _) | change vp_in _ _ ∧ _ | change ¬ _ ∧ _); simp (disch := omega) only [nI_clamp, nI_leI, nI_ltI, nI_eq, nI_1, nI_add, nI_not_neg, nI_is_pos, nI_m1, nI_z]) | refine And.intro (vp_in_nI (by omega) (by decide)) ?_ | refine And.intro (vp_lit (by decide)) ?_ | refine divJ (by decide) ?_ | refine divI (by decide) ?_)
          try change _ ∧ _
          rw [e1]
          refine ⟨hn0, ?_⟩
          rw [hnl, show (256 : Int64) = lN 256 from rfl, pk_lDiv (by omega) (by decide) (by decide), pk_lRem (by omega) (by omega) (by omega)]
          repeat (first | refine Wp.at ih rfl rfl ?_ rfl | (refine W1 rfl ?_; try refine Wp.norm (L' := [_, _, _, _, _, _, _, _, _]) rfl ?_) | refine brT (by first | assumption | decide | omega) ?_ | refine brF (by first | assumption | decide | omega) ?_ | refine brTn (by first | assumption | decide | omega) ?_ | refine brFn (by first | assumption | decide | omega) ?_ | ((first | change (_ → _) ∧ (_ → _) | change vp_in _ _ ∧ _ | change ¬ _ ∧ _); simp (disch := omega) only [nI_clamp, nI_leI, nI_ltI, nI_eq, nI_1, nI_add, nI_not_neg, nI_is_pos, nI_m1, nI_z]) | refine And.intro (vp_in_nI (by omega) (by decide)) ?_ | refine And.intro (vp_lit (by decide)) ?_ | refine divJ (by decide) ?_ | refine divI (by decide) ?_)
          try change _ ∧ _
          rw [lN_i]
  -- all levels are nought
  have lp2 : ∀ h', onlyJ [110, 111, 113] [112] h h' → RM s (fun _ => -1) (fun _ => -1) h' → ∀ k, k ≤ 96 → ∀ h2, onlyJ [110, 111, 113] [112] h h2 → RM s (fun _ => -1) (fun _ => -1) h2 → (∀ i, i < k → h2.2 112 i = 0) → Wp 3 j_M_step 39 [.ref 65, .int seed, .long seed.toInt64, .null, .int (nI k), .null, .null, .null, .null] [] h2 (fun w h' => w = some (.int (nI (laidN s bl x0 (zT s)))) ∧ RM s (sst s bl x0 (zT s)).1 (sst s bl x0 (zT s)).1 h' ∧ onlyJ [110, 111, 113] [112] h h') := by
    intro h' O R'
    refine up_ind ?_ (fun k hk ih => ?_)
    · intro h2 O2 R2 Z
      have ih := lp3 0 (Nat.zero_le _) h2 seed.toInt64 .null .null .null O2 R2 (fun k p hk hp => Z _ (by omega)) (fun z => by
        rcases hs with w | ⟨_, _, w1, w2⟩
        · exact absurd w.2 z
        · rw [w2, nI_l w1]
          rfl)
      (refine W1 rfl ?_; try refine Wp.norm (L' := [_, _, _, _, _, _, _, _, _]) rfl ?_)
      repeat (first | refine Wp.at ih rfl rfl ?_ rfl | (refine W1 rfl ?_; try refine Wp.norm (L' := [_, _, _, _, _, _, _, _, _]) rfl ?_) | refine brT (by first | assumption | decide | omega) ?_ | refine brF (by first | assumption | decide | omega) ?_ | refine brTn (by first | assumption | decide | omega) ?_ | refine brFn (by first | assumption | decide | omega) ?_ | ((first | change (_ → _) ∧ (_ → _) | change vp_in _ _ ∧ _ | change ¬ _ ∧ _); simp (disch := omega) only [nI_clamp, nI_leI, nI_ltI, nI_eq, nI_1, nI_add, nI_not_neg, nI_is_pos, nI_m1, nI_z, show (96 : Int32) = nI 96 from rfl]) | refine And.intro (vp_in_nI (by omega) (by decide)) ?_ | refine And.intro (vp_lit (by decide)) ?_ | refine divJ (by decide) ?_ | refine divI (by decide) ?_)
      try change _ ∧ _
      first | rfl | (simp (disch := omega) only [nI_1, nI_add, nI_clamp] <;> first | done | rfl)
    · intro h2 O2 R2 Z
      have ih := ih (wJ h2 112 k 0) (O2.addJ (by decide)) (R2.sr (fun _ _ _ => rfl) (fun k i hk => by rw [wJ_ne _ _ _ (by rintro rfl; cases hk)])) (fun i hi => by
        by_cases e : i = k
        · rw [e, wJ_same]
        · rw [wJ_ne2 _ _ e]; exact Z i (by omega))
      (refine W1 rfl ?_; try refine Wp.norm (L' := [_, _, _, _, _, _, _, _, _]) rfl ?_)
      repeat (first | refine Wp.at ih rfl rfl ?_ ?_ | (refine W1 rfl ?_; try refine Wp.norm (L' := [_, _, _, _, _, _, _, _, _]) rfl ?_) | refine brT (by first | assumption | decide | omega) ?_ | refine brF (by first | assumption | decide | omega) ?_ | refine brTn (by first | assumption | decide | omega) ?_ | refine brFn (by first | assumption | decide | omega) ?_ | ((first | change (_ → _) ∧ (_ → _) | change vp_in _ _ ∧ _ | change ¬ _ ∧ _); simp (disch := omega) only [nI_clamp, nI_leI, nI_ltI, nI_eq, nI_1, nI_add, nI_not_neg, nI_is_pos, nI_m1, nI_z, show (96 : Int32) = nI 96 from rfl]) | refine And.intro (vp_in_nI (by omega) (by decide)) ?_ | refine And.intro (vp_lit (by decide)) ?_ | refine divJ (by decide) ?_ | refine divI (by decide) ?_)
      try change _ ∧ _
      · first | rfl | (simp (disch := omega) only [nI_1, nI_add, nI_clamp] <;> first | done | rfl)
      · first | rfl | (simp (disch := omega) only [nI_1, nI_add, nI_clamp] <;> first | done | rfl)
  have lp1 : ∀ i, i ≤ zT s → ∀ h' c' v', onlyJ [110, 111, 113] [112] h h' → RM s c' v' h' → (∀ u, u < i → c' u = -1 ∧ v' u = -1) → Wp 3 j_M_step 14 [.ref 65, .int seed, .long seed.toInt64, .null, .int (nI i), .null, .null, .null, .null] [] h' (fun w h' => w = some (.int (nI (laidN s bl x0 (zT s)))) ∧ RM s (sst s bl x0 (zT s)).1 (sst s bl x0 (zT s)).1 h' ∧ onlyJ [110, 111, 113] [112] h h') := by
    refine up_ind ?_ (fun i hi ih => ?_)
    · intro h' c' v' O R' A
      have R2 : RM s (fun _ => -1) (fun _ => -1) h' := R'.cg (fun u hu => (A u hu).1) (fun u hu => (A u hu).2)
      have ih := lp2 h' O R2 0 (by decide) h' O R2 (fun i hi => absurd hi (by omega))
      (refine W1 rfl ?_; try refine Wp.norm (L' := [_, _, _, _, _, _, _, _, _]) rfl ?_)
      repeat (first | refine Wp.at ih rfl rfl ?_ rfl | (refine W1 rfl ?_; try refine Wp.norm (L' := [_, _, _, _, _, _, _, _, _]) rfl ?_) | refine brT (by first | assumption | decide | omega) ?_ | refine brF (by first | assumption | decide | omega) ?_ | refine brTn (by first | assumption | decide | omega) ?_ | refine brFn (by first | assumption | decide | omega) ?_ | ((first | change (_ → _) ∧ (_ → _) | change vp_in _ _ ∧ _ | change ¬ _ ∧ _); simp (disch := omega) only [nI_clamp, nI_leI, nI_ltI, nI_eq, nI_1, nI_add, nI_not_neg, nI_is_pos, nI_m1, nI_z, R'.T]) | refine And.intro (vp_in_nI (by omega) (by decide)) ?_ | refine And.intro (vp_lit (by decide)) ?_ | refine divJ (by decide) ?_ | refine divI (by decide) ?_)
      try change _ ∧ _
      first | rfl | (simp (disch := omega) only [nI_1, nI_add, nI_clamp] <;> first | done | rfl)
    · intro h' c' v' O R' A
      have ih := ih (layM h' i (-1)) (upd c' i (-1)) (upd v' i (-1)) ((O.addI (by decide)).addI (by decide)) (R'.lay i (-1)) (fun u hu => by
        by_cases e : u = i
        · subst e; exact ⟨pk_us, pk_us⟩
        · rw [pk_un e, pk_un e]; exact A u (by omega))
      repeat (first | (refine W1 rfl ?_; try refine Wp.norm (L' := [_, _, _, _, _, _, _, _, _]) rfl ?_) | refine brT (by first | assumption | decide | omega) ?_ | refine brF (by first | assumption | decide | omega) ?_ | refine brTn (by first | assumption | decide | omega) ?_ | refine brFn (by first | assumption | decide | omega) ?_ | ((first | change (_ → _) ∧ (_ → _) | change vp_in _ _ ∧ _ | change ¬ _ ∧ _); simp (disch := omega) only [nI_clamp, nI_leI, nI_ltI, nI_eq, nI_1, nI_add, nI_not_neg, nI_is_pos, nI_m1, nI_z, R'.T]) | refine And.intro (vp_in_nI (by omega) (by decide)) ?_ | refine And.intro (vp_lit (by decide)) ?_ | refine divJ (by decide) ?_ | refine divI (by decide) ?_)
      try change _ ∧ _
      refine Cl.of (r_M_laysFor (-1) (by omega)) (by decide) ?_
      repeat (first | refine Wp.at ih rfl rfl ?_ rfl | (refine W1 rfl ?_; try refine Wp.norm (L' := [_, _, _, _, _, _, _, _, _]) rfl ?_) | refine brT (by first | assumption | decide | omega) ?_ | refine brF (by first | assumption | decide | omega) ?_ | refine brTn (by first | assumption | decide | omega) ?_ | refine brFn (by first | assumption | decide | omega) ?_ | ((first | change (_ → _) ∧ (_ → _) | change vp_in _ _ ∧ _ | change ¬ _ ∧ _); simp (disch := omega) only [nI_clamp, nI_leI, nI_ltI, nI_eq, nI_1, nI_add, nI_not_neg, nI_is_pos, nI_m1, nI_z]) | refine And.intro (vp_in_nI (by omega) (by decide)) ?_ | refine And.intro (vp_lit (by decide)) ?_ | refine divJ (by decide) ?_ | refine divI (by decide) ?_)
      try change _ ∧ _
      first | rfl | (simp (disch := omega) only [nI_1, nI_add, nI_clamp] <;> first | done | rfl)
  have ih := lp1 0 (Nat.zero_le _) h c v (onlyJ.rfl _ _ h) R (fun u hu => absurd hu (by omega))
  repeat (first | refine Wp.at ih rfl rfl ?_ rfl | (refine W1 rfl ?_; try refine Wp.norm (L' := [_, _, _, _, _, _, _, _, _]) rfl ?_) | refine brT (by first | assumption | decide | omega) ?_ | refine brF (by first | assumption | decide | omega) ?_ | refine brTn (by first | assumption | decide | omega) ?_ | refine brFn (by first | assumption | decide | omega) ?_ | ((first | change (_ → _) ∧ (_ → _) | change vp_in _ _ ∧ _ | change ¬ _ ∧ _); simp (disch := omega) only [nI_clamp, nI_leI, nI_ltI, nI_eq, nI_1, nI_add, nI_not_neg, nI_is_pos, nI_m1, nI_z]) | refine And.intro (vp_in_nI (by omega) (by decide)) ?_ | refine And.intro (vp_lit (by decide)) ?_ | refine divJ (by decide) ?_ | refine divI (by decide) ?_)
  try change _ ∧ _
  first | rfl | (simp (disch := omega) only [nI_1, nI_add, nI_clamp] <;> first | done | rfl)
end STEPM
theorem o_step : op_17 Inv := fun seed h I => by
  obtain ⟨t, m, s, c, v, R, M, o, ro⟩ := id I
  rcases seed_cases seed with hlt | ⟨bl, x0, hs⟩
  · refine ⟨-2, h, h, Run.d (d := 0) ?_, Run.d (d := 0) ?_, I⟩
    · show Run 0 j_E_step _ _ _ _
      refine Run.of rfl ?_
      refine Wp.norm (L' := [_, _]) rfl ?_
      repeat (first | (refine W1 rfl ?_; try refine Wp.norm (L' := [_, _]) rfl ?_) | refine brT (by first | assumption | decide | omega) ?_ | refine brF (by first | assumption | decide | omega) ?_ | refine brTn (by first | assumption | decide | omega) ?_ | refine brFn (by first | assumption | decide | omega) ?_ | ((first | change (_ → _) ∧ (_ → _) | change vp_in _ _ ∧ _ | change ¬ _ ∧ _); simp (disch := omega) only [nI_clamp, nI_leI, nI_ltI, nI_eq, nI_1, nI_add, nI_not_neg, nI_is_pos, nI_m1, nI_z]) | refine And.intro (vp_in_nI (by omega) (by decide)) ?_ | refine And.intro (vp_lit (by decide)) ?_ | refine divJ (by decide) ?_ | refine divI (by decide) ?_)
      try change _ ∧ _
      refine brF (Int32.not_le.mpr hlt) ?_
      repeat (first | (refine W1 rfl ?_; try refine Wp.norm (L' := [_, _]) rfl ?_) | refine brT (by first | assumption | decide | omega) ?_ | refine brF (by first | assumption | decide | omega) ?_ | refine brTn (by first | assumption | decide | omega) ?_ | refine brFn (by first | assumption | decide | omega) ?_ | ((first | change (_ → _) ∧ (_ → _) | change vp_in _ _ ∧ _ | change ¬ _ ∧ _); simp (disch := omega) only [nI_clamp, nI_leI, nI_ltI, nI_eq, nI_1, nI_add, nI_not_neg, nI_is_pos, nI_m1, nI_z]) | refine And.intro (vp_in_nI (by omega) (by decide)) ?_ | refine And.intro (vp_lit (by decide)) ?_ | refine divJ (by decide) ?_ | refine divI (by decide) ?_)
      try change _ ∧ _
      try first | exact ⟨rfl, rfl⟩ | exact ⟨Or.inr rfl, rfl, rfl⟩ | exact ⟨Or.inl rfl, rfl, rfl⟩ | exact ⟨trivial, trivial⟩ | exact ⟨rfl, trivial⟩ | exact ⟨Or.inr rfl, rfl, trivial⟩ | exact ⟨Or.inl rfl, rfl, trivial⟩
    · show Run 0 j_M_step _ _ _ _
      refine Run.of rfl ?_
      refine Wp.norm (L' := [_, _, _, _, _, _, _, _, _]) rfl ?_
      repeat (first | (refine W1 rfl ?_; try refine Wp.norm (L' := [_, _, _, _, _, _, _, _, _]) rfl ?_) | refine brT (by first | assumption | decide | omega) ?_ | refine brF (by first | assumption | decide | omega) ?_ | refine brTn (by first | assumption | decide | omega) ?_ | refine brFn (by first | assumption | decide | omega) ?_ | ((first | change (_ → _) ∧ (_ → _) | change vp_in _ _ ∧ _ | change ¬ _ ∧ _); simp (disch := omega) only [nI_clamp, nI_leI, nI_ltI, nI_eq, nI_1, nI_add, nI_not_neg, nI_is_pos, nI_m1, nI_z]) | refine And.intro (vp_in_nI (by omega) (by decide)) ?_ | refine And.intro (vp_lit (by decide)) ?_ | refine divJ (by decide) ?_ | refine divI (by decide) ?_)
      try change _ ∧ _
      refine brF (Int32.not_le.mpr hlt) ?_
      repeat (first | (refine W1 rfl ?_; try refine Wp.norm (L' := [_, _, _, _, _, _, _, _, _]) rfl ?_) | refine brT (by first | assumption | decide | omega) ?_ | refine brF (by first | assumption | decide | omega) ?_ | refine brTn (by first | assumption | decide | omega) ?_ | refine brFn (by first | assumption | decide | omega) ?_ | ((first | change (_ → _) ∧ (_ → _) | change vp_in _ _ ∧ _ | change ¬ _ ∧ _); simp (disch := omega) only [nI_clamp, nI_leI, nI_ltI, nI_eq, nI_1, nI_add, nI_not_neg, nI_is_pos, nI_m1, nI_z]) | refine And.intro (vp_in_nI (by omega) (by decide)) ?_ | refine And.intro (vp_lit (by decide)) ?_ | refine divJ (by decide) ?_ | refine divI (by decide) ?_)
      try change _ ∧ _
      try first | exact ⟨rfl, rfl⟩ | exact ⟨Or.inr rfl, rfl, rfl⟩ | exact ⟨Or.inl rfl, rfl, rfl⟩ | exact ⟨trivial, trivial⟩ | exact ⟨rfl, trivial⟩ | exact ⟨Or.inr rfl, rfl, trivial⟩ | exact ⟨Or.inl rfl, rfl, trivial⟩
  · have hge : -1 ≤ seed := by
      rcases hs with ⟨e, _⟩ | ⟨_, _, h1, e⟩
      · rw [e]; decide
      · rw [e, Int32.le_iff_toInt_le, nI_toInt h1, show (-1 : Int32).toInt = -1 from rfl]
        omega
    obtain ⟨h1, r1, R1, O1⟩ := w_E_step R o ro hs hge
    have M1 : RM s c v h1 := M.sr (O1.K (by intro k i hk z; simp at z; rcases z with z | z <;> (subst z; cases hk))) (fun k i hk => O1.2 k i (by intro z; simp at z; rcases z with z | z <;> (subst z; cases hk)))
    obtain ⟨_, h2, r2, rfl, M2, O2⟩ := w_M_step M1 o hs hge
    refine ⟨_, h1, h2, r1.d, r2.d, ?_, ?_, s, _, _, R1.sr (O2.K (by intro k i hk z; simp at z; rcases z with z | z | z <;> (subst z; cases hk))), M2, o, sst_ro o bl x0 (zT s)⟩
    · exact (t.sr (O1.K (by intro k i hk z; simp at z; rcases z with z | z <;> (subst z; cases hk)))).sr (O2.K (by intro k i hk z; simp at z; rcases z with z | z | z <;> (subst z; cases hk)))
    · exact (m.sr (O1.K (by intro k i hk z; simp at z; rcases z with z | z <;> (subst z; cases hk)))).sr (O2.K (by intro k i hk z; simp at z; rcases z with z | z | z <;> (subst z; cases hk)))
