/-! ===== STEP ===== -/
theorem nI_le0 {n : Nat} (h : n < 2 ^ 31) : (nI n ≤ 0) ↔ n = 0 := by rw [show (0 : Int32) = nI 0 from rfl, nI_leI h (by decide)]; omega
section STEP
variable {s : ST} {c v : RT} {h : HP} {lv : LV} {t : Nat}
theorem RC.cg {c' v' : RT} (R : RC s c v h) (hc : ∀ t, t < zT s → c t = c' t) (hv : ∀ t, t < zT s → v t = v' t) : RC s c' v' h := R.wcs (fun _ _ _ _ _ => rfl) (fun t ht => by rw [R.cts ht, hc t ht]) (fun t ht => by rw [R.srv ht, hv t ht])
theorem RM.cg {c' v' : RT} (R : RM s c v h) (hc : ∀ t, t < zT s → c t = c' t) (hv : ∀ t, t < zT s → v t = v' t) : RM s c' v' h := R.wcs (fun _ _ _ _ _ => rfl) rfl (fun t ht => by rw [R.cts ht, hc t ht]) (fun t ht => by rw [R.srv ht, hv t ht])
theorem bIf5 (t p : Nat) : bIf s v t p ≤ 5 := by
  unfold bIf
  split
  · decide
  · split
    · decide
    · split
      · decide
      · split <;> decide
theorem w_M_likesOf (R : RM s c v h) (o : OK s) (ht : t < zT s) (hl : ∀ k p, k < zK s → p < zP s → h.2 112 (16 * k + p) = lv k p) : ∃ w h', Run 2 j_M_likesOf [.ref 65, .int (nI t)] h w h' ∧ (w = some (.int (nI (cB (lkS s v lv t (zP s)).2 (zP s)))) ∧ onlyJ [113] [] h h' ∧ ∀ q, (lkS s v lv t (zP s)).2 q = true → h'.1 113 (cB (lkS s v lv t (zP s)).2 q) = nI q) := by
  have hT := o.T; have hP := o.P; have hK := o.K; have hD := o.D; have hO := o.O; have hQ := o.Q; have hL := o.L
  have hk := o.knd ht
  refine Run.ofP rfl ?_
  refine Wp.norm (L' := [_, _, _, _, _, _, _, _]) rfl ?_
  have lp : ∀ i, i ≤ zP s → ∀ h' x6, onlyJ [113] [] h h' → (∀ q, (lkS s v lv t i).2 q = true → h'.1 113 (cB (lkS s v lv t i).2 q) = nI q) → Wp 2 j_M_likesOf 7 [.ref 65, .int (nI t), .int (nI (cB (lkS s v lv t i).2 i)), .long (lkS s v lv t i).1, .null, .int (nI i), x6, .null] [] h' (fun w h' => w = some (.int (nI (cB (lkS s v lv t (zP s)).2 (zP s)))) ∧ onlyJ [113] [] h h' ∧ ∀ q, (lkS s v lv t (zP s)).2 q = true → h'.1 113 (cB (lkS s v lv t (zP s)).2 q) = nI q) := by
    refine up_ind ?_ (fun i hi ih => ?_)
    · intro h' x6 O A
      have R' := R.sr (O.K (P := kRM) (by intro k i hk z; simp at z; subst z; cases hk)) (fun k i _ => O.2 k i (by simp))
      repeat (first | (refine W1 rfl ?_; try refine Wp.norm (L' := [_, _, _, _, _, _, _, _]) rfl ?_) | refine brT (by first | assumption | decide | omega) ?_ | refine brF (by first | assumption | decide | omega) ?_ | refine brTn (by first | assumption | decide | omega) ?_ | refine brFn (by first | assumption | decide | omega) ?_ | ((first | change (_ → _) ∧ (_ → _) | change vp_in _ _ ∧ _ | change ¬ _ ∧ _); simp (disch := omega) only [nI_clamp, nI_leI, nI_ltI, nI_eq, nI_1, nI_add, nI_not_neg, nI_is_pos, nI_m1, nI_z, show Int32.toNatClampNeg 1 = 1 from rfl, R'.P]) | refine And.intro (vp_in_nI (by omega) (by decide)) ?_ | refine And.intro (vp_lit (by decide)) ?_ | refine divJ (by decide) ?_ | refine divI (by decide) ?_)
      try change _ ∧ _
      exact ⟨rfl, O, A⟩
    · intro h' x6 O A
      have R' := R.sr (O.K (P := kRM) (by intro k i hk z; simp at z; subst z; cases hk)) (fun k i _ => O.2 k i (by simp))
      have hci : cB (lkS s v lv t i).2 i ≤ i := cnt_le _ _
      have e16 : (16 : Int32) * nI (tK s t) + nI i = nI (16 * tK s t + i) := by rw [show (16 : Int32) = nI 16 from rfl, pk_mul, nI_add]
      have hb := bIf5 (s := s) (v := v) t i
      repeat (first | (refine W1 rfl ?_; try refine Wp.norm (L' := [_, _, _, _, _, _, _, _]) rfl ?_) | refine brT (by first | assumption | decide | omega) ?_ | refine brF (by first | assumption | decide | omega) ?_ | refine brTn (by first | assumption | decide | omega) ?_ | refine brFn (by first | assumption | decide | omega) ?_ | ((first | change (_ → _) ∧ (_ → _) | change vp_in _ _ ∧ _ | change ¬ _ ∧ _); simp (disch := omega) only [nI_clamp, nI_leI, nI_ltI, nI_eq, nI_1, nI_add, nI_not_neg, nI_is_pos, nI_m1, nI_z, show Int32.toNatClampNeg 1 = 1 from rfl, R'.P]) | refine And.intro (vp_in_nI (by omega) (by decide)) ?_ | refine And.intro (vp_lit (by decide)) ?_ | refine divJ (by decide) ?_ | refine divI (by decide) ?_)
      try change _ ∧ _
      refine Cl.of (r_M_barIf R' o hi ht) (by decide) ?_
      by_cases q : bIf s v t i = 0
      · have ha : ablB s v t i = true := by unfold ablB; simp [hi, q]
        rw [q]
        repeat (first | (refine W1 rfl ?_; try refine Wp.norm (L' := [_, _, _, _, _, _, _, _]) rfl ?_) | refine brT (by first | assumption | decide | omega) ?_ | refine brF (by first | assumption | decide | omega) ?_ | refine brTn (by first | assumption | decide | omega) ?_ | refine brFn (by first | assumption | decide | omega) ?_ | ((first | change (_ → _) ∧ (_ → _) | change vp_in _ _ ∧ _ | change ¬ _ ∧ _); simp (disch := omega) only [nI_clamp, nI_leI, nI_ltI, nI_eq, nI_1, nI_add, nI_not_neg, nI_is_pos, nI_m1, nI_z]) | refine And.intro (vp_in_nI (by omega) (by decide)) ?_ | refine And.intro (vp_lit (by decide)) ?_ | refine divJ (by decide) ?_ | refine divI (by decide) ?_)
        try change _ ∧ _
        refine Cl.of (r_M_dueOf R' o hi ht) (by decide) ?_
        repeat (first | (refine W1 rfl ?_; try refine Wp.norm (L' := [_, _, _, _, _, _, _, _]) rfl ?_) | refine brT (by first | assumption | decide | omega) ?_ | refine brF (by first | assumption | decide | omega) ?_ | refine brTn (by first | assumption | decide | omega) ?_ | refine brFn (by first | assumption | decide | omega) ?_ | ((first | change (_ → _) ∧ (_ → _) | change vp_in _ _ ∧ _ | change ¬ _ ∧ _); simp (disch := omega) only [nI_clamp, nI_leI, nI_ltI, nI_eq, nI_1, nI_add, nI_not_neg, nI_is_pos, nI_m1, nI_z, R'.knd, e16, nI_le0]) | refine And.intro (vp_in_nI (by omega) (by decide)) ?_ | refine And.intro (vp_lit (by decide)) ?_ | refine divJ (by decide) ?_ | refine divI (by decide) ?_)
        try change _ ∧ _
        rw [show (nI (dueN s i t)).toInt64 - h'.2 112 (16 * tK s t + i) = lak s lv t i by rw [O.2 112 _ (by simp), hl (tK s t) i hk hi]; rfl]
        have fin : ∀ n, n < 16 → (∀ q, (lkS s v lv t (i + 1)).2 q = true → (wI h' 113 n (nI i)).1 113 (cB (lkS s v lv t (i + 1)).2 q) = nI q) → cB (lkS s v lv t (i + 1)).2 (i + 1) = n + 1 → (lkS s v lv t (i + 1)).1 = lak s lv t i → ∀ m, Wp 2 j_M_likesOf 86 [.ref 65, .int (nI t), .int (nI n), .long m, .null, .int (nI i), .long (lak s lv t i), .null] [] h' (fun w h' => w = some (.int (nI (cB (lkS s v lv t (zP s)).2 (zP s)))) ∧ onlyJ [113] [] h h' ∧ ∀ q, (lkS s v lv t (zP s)).2 q = true → h'.1 113 (cB (lkS s v lv t (zP s)).2 q) = nI q) := by
          intro n hn A' e1 e2 m
          rw [e1, e2] at ih
          have ih := ih (wI h' 113 n (nI i)) (.long (lak s lv t i)) (O.addI (by decide)) A'
          repeat (first | refine Wp.at ih rfl rfl ?_ ?_ | (refine W1 rfl ?_; try refine Wp.norm (L' := [_, _, _, _, _, _, _, _]) rfl ?_) | refine brT (by first | assumption | decide | omega) ?_ | refine brF (by first | assumption | decide | omega) ?_ | refine brTn (by first | assumption | decide | omega) ?_ | refine brFn (by first | assumption | decide | omega) ?_ | ((first | change (_ → _) ∧ (_ → _) | change vp_in _ _ ∧ _ | change ¬ _ ∧ _); simp (disch := omega) only [nI_clamp, nI_leI, nI_ltI, nI_eq, nI_1, nI_add, nI_not_neg, nI_is_pos, nI_m1, nI_z]) | refine And.intro (vp_in_nI (by omega) (by decide)) ?_ | refine And.intro (vp_lit (by decide)) ?_ | refine divJ (by decide) ?_ | refine divI (by decide) ?_)
          try change _ ∧ _
          · first | rfl | (simp (disch := omega) only [nI_1, nI_add, nI_clamp] <;> first | done | rfl)
          · first | rfl | (simp (disch := omega) only [nI_1, nI_add, nI_clamp] <;> first | done | rfl)
        have new : (cB (lkS s v lv t i).2 i = 0 ∨ (lkS s v lv t i).1 < lak s lv t i) → ∀ m, Wp 2 j_M_likesOf 86 [.ref 65, .int (nI t), .int (nI 0), .long m, .null, .int (nI i), .long (lak s lv t i), .null] [] h' (fun w h' => w = some (.int (nI (cB (lkS s v lv t (zP s)).2 (zP s)))) ∧ onlyJ [113] [] h h' ∧ ∀ q, (lkS s v lv t (zP s)).2 q = true → h'.1 113 (cB (lkS s v lv t (zP s)).2 q) = nI q) := by
          intro hn
          refine fin 0 (by decide) ?_ ?_ ?_
          · rw [lk_new ha hn]
            intro q hq
            have : q = i := by simpa using hq
            subst this
            rw [cB_0 (fun q' hq' => by simp; omega), wI_same]
          · rw [lk_new ha hn, cB_one]
          · rw [lk_new ha hn]
        have app : ¬ (cB (lkS s v lv t i).2 i = 0 ∨ (lkS s v lv t i).1 < lak s lv t i) → lak s lv t i = (lkS s v lv t i).1 → ∀ m, Wp 2 j_M_likesOf 86 [.ref 65, .int (nI t), .int (nI (cB (lkS s v lv t i).2 i)), .long m, .null, .int (nI i), .long (lak s lv t i), .null] [] h' (fun w h' => w = some (.int (nI (cB (lkS s v lv t (zP s)).2 (zP s)))) ∧ onlyJ [113] [] h h' ∧ ∀ q, (lkS s v lv t (zP s)).2 q = true → h'.1 113 (cB (lkS s v lv t (zP s)).2 q) = nI q) := by
          intro hn he
          refine fin _ (by omega) ?_ ?_ ?_
          · rw [lk_eq ha hn he]
            intro q hq
            have hle : q ≤ i := by
              rcases Bool.or_eq_true _ _ |>.mp hq with w | w
              · have := lkS_lt i q w; omega
              · have : q = i := by simpa using w
                omega
            rw [show cB (fun q => (lkS s v lv t i).2 q || decide (q = i)) q = cB (lkS s v lv t i).2 q from cB_congr (fun q' hq' => by simp; intro e; omega)]
            by_cases e : q = i
            · subst e; rw [wI_same]
            · have hq2 : (lkS s v lv t i).2 q = true := by simpa [e] using hq
              have := cB_lt (lkS_lt i q hq2) hq2
              rw [wI_ne2 _ _ (by omega)]
              exact A q hq2
          · rw [lk_eq ha hn he, cB_more]
          · rw [lk_eq ha hn he, he]
        refine ⟨fun q0 => ?_, fun q0 => ?_⟩
        · have ih := new (Or.inl q0) (lkS s v lv t i).1
          rw [q0]
          repeat (first | refine Wp.at ih rfl rfl ?_ rfl | (refine W1 rfl ?_; try refine Wp.norm (L' := [_, _, _, _, _, _, _, _]) rfl ?_) | refine brT (by first | assumption | decide | omega) ?_ | refine brF (by first | assumption | decide | omega) ?_ | refine brTn (by first | assumption | decide | omega) ?_ | refine brFn (by first | assumption | decide | omega) ?_ | ((first | change (_ → _) ∧ (_ → _) | change vp_in _ _ ∧ _ | change ¬ _ ∧ _); simp (disch := omega) only [nI_clamp, nI_leI, nI_ltI, nI_eq, nI_1, nI_add, nI_not_neg, nI_is_pos, nI_m1, nI_z, nI_le0]) | refine And.intro (vp_in_nI (by omega) (by decide)) ?_ | refine And.intro (vp_lit (by decide)) ?_ | refine divJ (by decide) ?_ | refine divI (by decide) ?_)
          try change _ ∧ _
          first | rfl | (simp (disch := omega) only [nI_1, nI_add, nI_clamp] <;> first | done | rfl)
        · repeat (first | (refine W1 rfl ?_; try refine Wp.norm (L' := [_, _, _, _, _, _, _, _]) rfl ?_) | refine brT (by first | assumption | decide | omega) ?_ | refine brF (by first | assumption | decide | omega) ?_ | refine brTn (by first | assumption | decide | omega) ?_ | refine brFn (by first | assumption | decide | omega) ?_ | ((first | change (_ → _) ∧ (_ → _) | change vp_in _ _ ∧ _ | change ¬ _ ∧ _); simp (disch := omega) only [nI_clamp, nI_leI, nI_ltI, nI_eq, nI_1, nI_add, nI_not_neg, nI_is_pos, nI_m1, nI_z, nI_le0]) | refine And.intro (vp_in_nI (by omega) (by decide)) ?_ | refine And.intro (vp_lit (by decide)) ?_ | refine divJ (by decide) ?_ | refine divI (by decide) ?_)
          try change _ ∧ _
          rw [lgc_ge]
          refine ⟨fun q1 => ?_, fun q1 => ?_⟩
          · repeat (first | (refine W1 rfl ?_; try refine Wp.norm (L' := [_, _, _, _, _, _, _, _]) rfl ?_) | refine brT (by first | assumption | decide | omega) ?_ | refine brF (by first | assumption | decide | omega) ?_ | refine brTn (by first | assumption | decide | omega) ?_ | refine brFn (by first | assumption | decide | omega) ?_ | ((first | change (_ → _) ∧ (_ → _) | change vp_in _ _ ∧ _ | change ¬ _ ∧ _); simp (disch := omega) only [nI_clamp, nI_leI, nI_ltI, nI_eq, nI_1, nI_add, nI_not_neg, nI_is_pos, nI_m1, nI_z, nI_le0]) | refine And.intro (vp_in_nI (by omega) (by decide)) ?_ | refine And.intro (vp_lit (by decide)) ?_ | refine divJ (by decide) ?_ | refine divI (by decide) ?_)
            try change _ ∧ _
            rw [lgc_le]
            refine ⟨fun q2 => ?_, fun q2 => ?_⟩
            · have hn : ¬ (cB (lkS s v lv t i).2 i = 0 ∨ (lkS s v lv t i).1 < lak s lv t i) := fun z => z.elim (fun w => q0 w) (fun w => absurd w (Int64.not_lt.mpr q2))
              have he : lak s lv t i = (lkS s v lv t i).1 := Int64.le_antisymm q2 q1
              have ih := app hn he (lkS s v lv t i).1
              repeat (first | refine Wp.at ih rfl rfl ?_ rfl | (refine W1 rfl ?_; try refine Wp.norm (L' := [_, _, _, _, _, _, _, _]) rfl ?_) | refine brT (by first | assumption | decide | omega) ?_ | refine brF (by first | assumption | decide | omega) ?_ | refine brTn (by first | assumption | decide | omega) ?_ | refine brFn (by first | assumption | decide | omega) ?_ | ((first | change (_ → _) ∧ (_ → _) | change vp_in _ _ ∧ _ | change ¬ _ ∧ _); simp (disch := omega) only [nI_clamp, nI_leI, nI_ltI, nI_eq, nI_1, nI_add, nI_not_neg, nI_is_pos, nI_m1, nI_z, nI_le0]) | refine And.intro (vp_in_nI (by omega) (by decide)) ?_ | refine And.intro (vp_lit (by decide)) ?_ | refine divJ (by decide) ?_ | refine divI (by decide) ?_)
              try change _ ∧ _
              first | rfl | (simp (disch := omega) only [nI_1, nI_add, nI_clamp] <;> first | done | rfl)
            · have ih := new (Or.inr (Int64.not_le.mp q2)) (lkS s v lv t i).1
              repeat (first | refine Wp.at ih rfl rfl ?_ rfl | (refine W1 rfl ?_; try refine Wp.norm (L' := [_, _, _, _, _, _, _, _]) rfl ?_) | refine brT (by first | assumption | decide | omega) ?_ | refine brF (by first | assumption | decide | omega) ?_ | refine brTn (by first | assumption | decide | omega) ?_ | refine brFn (by first | assumption | decide | omega) ?_ | ((first | change (_ → _) ∧ (_ → _) | change vp_in _ _ ∧ _ | change ¬ _ ∧ _); simp (disch := omega) only [nI_clamp, nI_leI, nI_ltI, nI_eq, nI_1, nI_add, nI_not_neg, nI_is_pos, nI_m1, nI_z, nI_le0]) | refine And.intro (vp_in_nI (by omega) (by decide)) ?_ | refine And.intro (vp_lit (by decide)) ?_ | refine divJ (by decide) ?_ | refine divI (by decide) ?_)
              try change _ ∧ _
              first | rfl | (simp (disch := omega) only [nI_1, nI_add, nI_clamp] <;> first | done | rfl)
          · have hn : ¬ (cB (lkS s v lv t i).2 i = 0 ∨ (lkS s v lv t i).1 < lak s lv t i) := fun z => z.elim (fun w => q0 w) (fun w => q1 (Int64.le_of_lt w))
            have he : ¬ lak s lv t i = (lkS s v lv t i).1 := fun z => q1 (by rw [z]; exact Int64.le_refl _)
            rw [lk_no ha hn he, cB_same (lkS_ge (Nat.le_refl _))] at ih
            have ih := ih h' (.long (lak s lv t i)) O A
            repeat (first | refine Wp.at ih rfl rfl ?_ rfl | (refine W1 rfl ?_; try refine Wp.norm (L' := [_, _, _, _, _, _, _, _]) rfl ?_) | refine brT (by first | assumption | decide | omega) ?_ | refine brF (by first | assumption | decide | omega) ?_ | refine brTn (by first | assumption | decide | omega) ?_ | refine brFn (by first | assumption | decide | omega) ?_ | ((first | change (_ → _) ∧ (_ → _) | change vp_in _ _ ∧ _ | change ¬ _ ∧ _); simp (disch := omega) only [nI_clamp, nI_leI, nI_ltI, nI_eq, nI_1, nI_add, nI_not_neg, nI_is_pos, nI_m1, nI_z, nI_le0]) | refine And.intro (vp_in_nI (by omega) (by decide)) ?_ | refine And.intro (vp_lit (by decide)) ?_ | refine divJ (by decide) ?_ | refine divI (by decide) ?_)
            try change _ ∧ _
            first | rfl | (simp (disch := omega) only [nI_1, nI_add, nI_clamp] <;> first | done | rfl)
      · have ha : ablB s v t i = false := by unfold ablB; simp [q]
        rw [lk_skip ha, cB_same (lkS_ge (Nat.le_refl _))] at ih
        have ih := ih h' x6 O A
        repeat (first | refine Wp.at ih rfl rfl ?_ rfl | (refine W1 rfl ?_; try refine Wp.norm (L' := [_, _, _, _, _, _, _, _]) rfl ?_) | refine brT (by first | assumption | decide | omega) ?_ | refine brF (by first | assumption | decide | omega) ?_ | refine brTn (by first | assumption | decide | omega) ?_ | refine brFn (by first | assumption | decide | omega) ?_ | ((first | change (_ → _) ∧ (_ → _) | change vp_in _ _ ∧ _ | change ¬ _ ∧ _); simp (disch := omega) only [nI_clamp, nI_leI, nI_ltI, nI_eq, nI_1, nI_add, nI_not_neg, nI_is_pos, nI_m1, nI_z, nI_le0]) | refine And.intro (vp_in_nI (by omega) (by decide)) ?_ | refine And.intro (vp_lit (by decide)) ?_ | refine divJ (by decide) ?_ | refine divI (by decide) ?_)
        try change _ ∧ _
        first | rfl | (simp (disch := omega) only [nI_1, nI_add, nI_clamp] <;> first | done | rfl)
  have ih := lp 0 (Nat.zero_le _) h .null (onlyJ.rfl _ _ h) (fun q hq => by cases hq)
  repeat (first | refine Wp.at ih rfl rfl ?_ rfl | (refine W1 rfl ?_; try refine Wp.norm (L' := [_, _, _, _, _, _, _, _]) rfl ?_) | refine brT (by first | assumption | decide | omega) ?_ | refine brF (by first | assumption | decide | omega) ?_ | refine brTn (by first | assumption | decide | omega) ?_ | refine brFn (by first | assumption | decide | omega) ?_ | ((first | change (_ → _) ∧ (_ → _) | change vp_in _ _ ∧ _ | change ¬ _ ∧ _); simp (disch := omega) only [nI_clamp, nI_leI, nI_ltI, nI_eq, nI_1, nI_add, nI_not_neg, nI_is_pos, nI_m1, nI_z, nI_le0]) | refine And.intro (vp_in_nI (by omega) (by decide)) ?_ | refine And.intro (vp_lit (by decide)) ?_ | refine divJ (by decide) ?_ | refine divI (by decide) ?_)
  try change _ ∧ _
  first | rfl | (simp (disch := omega) only [nI_1, nI_add, nI_clamp] <;> first | done | rfl)
end STEP
