/-! ===== SWAPS: the class's methods ===== -/
def beB (s : ST) (v : RT) (t : Nat) : Bool := decide (¬ bOf s v t = 0)
def mgk (s : ST) (c : RT) (p : Nat) (a : Int64) : Nat → Int64
  | 0 => a
  | k + 1 => mxJ (mgk s c p a k) (gapV s c p (some k))
def mgp (s : ST) (c : RT) : Nat → Int64
  | 0 => 0
  | p + 1 => mgk s c p (mgp s c p) (zK s)
section SW2
variable {s : ST} {c v : RT} {h : HP} {i j t : Nat}
theorem mxJ_lt (x y w : Int64) : mxJ x y < w ↔ x < w ∧ y < w := by
  rw [Int64.lt_iff_toInt_lt, Int64.lt_iff_toInt_lt, Int64.lt_iff_toInt_lt, mxJ_toInt]
  omega
theorem mgp_lt {w : Int64} : ∀ n, mgp s c n < w ↔ (0 : Int64) < w ∧ ∀ p k, p < n → k < zK s → gapV s c p (some k) < w := by
  have h1 : ∀ p a n, mgk s c p a n < w ↔ a < w ∧ ∀ k, k < n → gapV s c p (some k) < w := by
    intro p a n
    induction n with
    | zero => exact ⟨fun z => ⟨z, fun k hk => absurd hk (by omega)⟩, fun z => z.1⟩
    | succ n ih =>
      unfold mgk
      rw [mxJ_lt, ih]
      constructor
      · rintro ⟨⟨z1, z2⟩, z3⟩
        refine ⟨z1, fun k hk => ?_⟩
        by_cases e : k = n
        · subst e; exact z3
        · exact z2 k (by omega)
      · rintro ⟨z1, z2⟩
        exact ⟨⟨z1, fun k hk => z2 k (by omega)⟩, z2 n (by omega)⟩
  intro n
  induction n with
  | zero => exact ⟨fun z => ⟨z, fun p k hp => absurd hp (by omega)⟩, fun z => z.1⟩
  | succ n ih =>
    unfold mgp
    rw [h1, ih]
    constructor
    · rintro ⟨⟨z1, z2⟩, z3⟩
      refine ⟨z1, fun p k hp hk => ?_⟩
      by_cases e : p = n
      · subst e; exact z3 k hk
      · exact z2 p k (by omega) hk
    · rintro ⟨z1, z2⟩
      exact ⟨⟨z1, fun p k hp hk => z2 p k (by omega) hk⟩, fun k hk => z2 n k (by omega) hk⟩
theorem mg_wsk (o : OK s) (hP : 0 < zP s) (hK : 0 < zK s) : mgp s c (zP s) = (wsk s c (zK s)).1 := by
  have key : ∀ w : Int64, mgp s c (zP s) < w ↔ (wsk s c (zK s)).1 < w := by
    intro w
    rw [mgp_lt, wsk_lt]
    have g0 := gapV_pos (c := c) (k := some 0) o hP
    constructor
    · rintro ⟨z1, z2⟩
      refine ⟨?_, fun k p hk hp => z2 p k hp hk⟩
      rw [Int64.lt_iff_toInt_lt] at *
      rw [show (0 : Int64).toInt = 0 from rfl] at z1
      rw [show (-1 : Int64).toInt = -1 from rfl]
      omega
    · rintro ⟨z1, z2⟩
      refine ⟨?_, fun p k hp hk => z2 k p hk hp⟩
      have := z2 0 0 hK hP
      rw [Int64.lt_iff_toInt_lt] at *
      rw [show (0 : Int64).toInt = 0 from rfl]
      omega
  have k1 := key (wsk s c (zK s)).1
  have k2 := key (mgp s c (zP s))
  rw [Int64.lt_iff_toInt_lt, Int64.lt_iff_toInt_lt] at k1 k2
  exact Int64.toInt_inj.mp (by omega)
/-- what measure leaves -/
def msd (s : ST) (c v : RT) (h' : HP) : Prop := (∀ t, t < zT s → h'.1 55 t = bI (beB s v t)) ∧ (∀ p k, p < zP s → k < zK s → h'.2 56 (p * 6 + k) = gapV s c p (some k)) ∧ h'.2 54 6 = mgp s c (zP s)
theorem w_measure (R : RC s c v h) (o : OK s) (ro : RO s c v) : ∃ h', Run 3 j_Swapper_measure [.ref 54] h none h' ∧ onlyJ [55] [54, 56] h h' ∧ msd s c v h' := by
  have hT := o.T; have hP := o.P; have hK := o.K; have hD := o.D; have hO := o.O; have hQ := o.Q; have hL := o.L
  obtain ⟨w, h', r, e, O, A⟩ := Run.ofP (d := 3) (j := j_Swapper_measure) (as := [.ref 54]) (h := h) (P := fun w h' => w = none ∧ onlyJ [55] [54, 56] h h' ∧ msd s c v h') rfl (by
    refine Wp.norm (L' := [_, _, _, _, _]) rfl ?_
    have RR : ∀ h', onlyJ [55] [54, 56] h h' → RC s c v h' := fun h' O => R.sr (O.K (by intro k i hk z; simp at z; subst z; cases hk))
    have lp2 : ∀ p, p ≤ zP s → ∀ h' x2 x3, onlyJ [55] [54, 56] h h' → (∀ t, t < zT s → h'.1 55 t = bI (beB s v t)) → (∀ p' k, p' < p → k < zK s → h'.2 56 (p' * 6 + k) = gapV s c p' (some k)) → h'.2 54 6 = mgp s c p → Wp 3 j_Swapper_measure 48 [.ref 54, .int (nI p), x2, x3, .null] [] h' (fun w h' => w = none ∧ onlyJ [55] [54, 56] h h' ∧ msd s c v h') := by
      refine up_ind ?_ (fun p hp ih => ?_)
      · intro h' x2 x3 O B G W
        have R' := RR h' O
        repeat (first | (refine W1 rfl ?_; try refine Wp.norm (L' := [_, _, _, _, _]) rfl ?_) | ((first | change (_ → _) ∧ (_ → _) | change vp_in _ _ ∧ _ | change ¬ _ ∧ _); simp (disch := omega) only [nI_clamp, nI_leI, nI_ltI, nI_eq, nI_1, nI_add, nI_not_neg, nI_is_pos, nI_m1, nI_z, R'.P]) | refine brT (by first | assumption | decide | omega) ?_ | refine brF (by first | assumption | decide | omega) ?_ | refine brTn (by first | assumption | decide | omega) ?_ | refine brFn (by first | assumption | decide | omega) ?_ | refine And.intro (vp_in_nI (by omega) (by decide)) ?_ | refine And.intro (vp_lit (by decide)) ?_ | refine divJ (by decide) ?_ | refine divI (by decide) ?_)
        try change _ ∧ _
        exact ⟨rfl, O, B, G, W⟩
      · have inner : ∀ k, k ≤ zK s → ∀ h' x3, onlyJ [55] [54, 56] h h' → (∀ t, t < zT s → h'.1 55 t = bI (beB s v t)) → (∀ p' k', (p' < p ∧ k' < zK s) ∨ (p' = p ∧ k' < k) → h'.2 56 (p' * 6 + k') = gapV s c p' (some k')) → h'.2 54 6 = mgk s c p (mgp s c p) k → Wp 3 j_Swapper_measure 61 [.ref 54, .int (nI p), .int (nI k), x3, .null] [] h' (fun w h' => w = none ∧ onlyJ [55] [54, 56] h h' ∧ msd s c v h') := by
          refine up_ind ?_ (fun k hk ih2 => ?_)
          · intro h' x3 O B G W
            have R' := RR h' O
            have ih := ih h' (.int (nI (zK s))) x3 O B (fun p' k' h1 h2 => by
              by_cases e : p' = p
              · exact G p' k' (Or.inr ⟨e, h2⟩)
              · exact G p' k' (Or.inl ⟨by omega, h2⟩)) W
            (refine W1 rfl ?_; try refine Wp.norm (L' := [_, _, _, _, _]) rfl ?_)
            repeat (first | refine Wp.at ih rfl rfl ?_ rfl | (refine W1 rfl ?_; try refine Wp.norm (L' := [_, _, _, _, _]) rfl ?_) | ((first | change (_ → _) ∧ (_ → _) | change vp_in _ _ ∧ _ | change ¬ _ ∧ _); simp (disch := omega) only [nI_clamp, nI_leI, nI_ltI, nI_eq, nI_1, nI_add, nI_not_neg, nI_is_pos, nI_m1, nI_z, R'.K]) | refine brT (by first | assumption | decide | omega) ?_ | refine brF (by first | assumption | decide | omega) ?_ | refine brTn (by first | assumption | decide | omega) ?_ | refine brFn (by first | assumption | decide | omega) ?_ | refine And.intro (vp_in_nI (by omega) (by decide)) ?_ | refine And.intro (vp_lit (by decide)) ?_ | refine divJ (by decide) ?_ | refine divI (by decide) ?_)
            try change _ ∧ _
            first | done | rfl | (simp (disch := omega) only [nI_1, nI_add, nI_clamp] <;> first | done | rfl)
          · intro h' x3 O B G W
            have R' := RR h' O
            have e6 : nI p * 6 + nI k = nI (p * 6 + k) := by rw [show (6 : Int32) = nI 6 from rfl, pk_mul, nI_add]
            have ih := ih2 (wJ (wJ h' 56 (p * 6 + k) (gapV s c p (some k))) 54 6 (mxJ (mgk s c p (mgp s c p) k) (gapV s c p (some k)))) (.long (gapV s c p (some k))) ((O.addJ (by decide)).addJ (by decide)) B (fun p' k' hh => by
              rw [wJ_ne _ _ _ (by decide)]
              by_cases e : p' = p ∧ k' = k
              · rw [e.1, e.2, wJ_same]
              · have hk6 : k' < 6 := by omega
                rw [wJ_ne2 _ _ (show p' * 6 + k' ≠ p * 6 + k by omega)]
                exact G p' k' (by omega)) (wJ_same _ _ _ _)
            repeat (first | (refine W1 rfl ?_; try refine Wp.norm (L' := [_, _, _, _, _]) rfl ?_) | ((first | change (_ → _) ∧ (_ → _) | change vp_in _ _ ∧ _ | change ¬ _ ∧ _); simp (disch := omega) only [nI_clamp, nI_leI, nI_ltI, nI_eq, nI_1, nI_add, nI_not_neg, nI_is_pos, nI_m1, nI_z, R'.K]) | refine brT (by first | assumption | decide | omega) ?_ | refine brF (by first | assumption | decide | omega) ?_ | refine brTn (by first | assumption | decide | omega) ?_ | refine brFn (by first | assumption | decide | omega) ?_ | refine And.intro (vp_in_nI (by omega) (by decide)) ?_ | refine And.intro (vp_lit (by decide)) ?_ | refine divJ (by decide) ?_ | refine divI (by decide) ?_)
            try change _ ∧ _
            refine Cl.of (r_Levels_gapOf (k := some k) R' o (fun k' e => by cases e; exact hk) hp) (by decide) ?_
            repeat (first | (refine W1 rfl ?_; try refine Wp.norm (L' := [_, _, _, _, _]) rfl ?_) | ((first | change (_ → _) ∧ (_ → _) | change vp_in _ _ ∧ _ | change ¬ _ ∧ _); simp (disch := omega) only [nI_clamp, nI_leI, nI_ltI, nI_eq, nI_1, nI_add, nI_not_neg, nI_is_pos, nI_m1, nI_z, e6]) | refine brT (by first | assumption | decide | omega) ?_ | refine brF (by first | assumption | decide | omega) ?_ | refine brTn (by first | assumption | decide | omega) ?_ | refine brFn (by first | assumption | decide | omega) ?_ | refine And.intro (vp_in_nI (by omega) (by decide)) ?_ | refine And.intro (vp_lit (by decide)) ?_ | refine divJ (by decide) ?_ | refine divI (by decide) ?_)
            try change _ ∧ _
            refine Cl.ofA (r_maxJ _ (mgk s c p (mgp s c p) k) (gapV s c p (some k))) (by rw [wJ_ne _ _ _ (by decide), W]; rfl) (by decide) ?_
            repeat (first | refine Wp.at ih rfl rfl ?_ ?_ | (refine W1 rfl ?_; try refine Wp.norm (L' := [_, _, _, _, _]) rfl ?_) | ((first | change (_ → _) ∧ (_ → _) | change vp_in _ _ ∧ _ | change ¬ _ ∧ _); simp (disch := omega) only [nI_clamp, nI_leI, nI_ltI, nI_eq, nI_1, nI_add, nI_not_neg, nI_is_pos, nI_m1, nI_z, e6]) | refine brT (by first | assumption | decide | omega) ?_ | refine brF (by first | assumption | decide | omega) ?_ | refine brTn (by first | assumption | decide | omega) ?_ | refine brFn (by first | assumption | decide | omega) ?_ | refine And.intro (vp_in_nI (by omega) (by decide)) ?_ | refine And.intro (vp_lit (by decide)) ?_ | refine divJ (by decide) ?_ | refine divI (by decide) ?_)
            try change _ ∧ _
            · first | done | rfl | (simp (disch := omega) only [nI_1, nI_add, nI_clamp] <;> first | done | rfl)
            · first | done | rfl | (simp (disch := omega) only [nI_1, nI_add, nI_clamp, e6] <;> first | done | rfl)
        intro h' x2 x3 O B G W
        have R' := RR h' O
        have ih := inner 0 (Nat.zero_le _) h' x3 O B (fun p' k' hh => G p' k' (by omega) (by omega)) W
        (refine W1 rfl ?_; try refine Wp.norm (L' := [_, _, _, _, _]) rfl ?_)
        repeat (first | refine Wp.at ih rfl rfl ?_ rfl | (refine W1 rfl ?_; try refine Wp.norm (L' := [_, _, _, _, _]) rfl ?_) | ((first | change (_ → _) ∧ (_ → _) | change vp_in _ _ ∧ _ | change ¬ _ ∧ _); simp (disch := omega) only [nI_clamp, nI_leI, nI_ltI, nI_eq, nI_1, nI_add, nI_not_neg, nI_is_pos, nI_m1, nI_z, R'.P]) | refine brT (by first | assumption | decide | omega) ?_ | refine brF (by first | assumption | decide | omega) ?_ | refine brTn (by first | assumption | decide | omega) ?_ | refine brFn (by first | assumption | decide | omega) ?_ | refine And.intro (vp_in_nI (by omega) (by decide)) ?_ | refine And.intro (vp_lit (by decide)) ?_ | refine divJ (by decide) ?_ | refine divI (by decide) ?_)
        try change _ ∧ _
        first | done | rfl | (simp (disch := omega) only [nI_1, nI_add, nI_clamp] <;> first | done | rfl)
    have lp1 : ∀ t, t ≤ zT s → ∀ h', onlyJ [55] [54, 56] h h' → (∀ u, u < t → h'.1 55 u = bI (beB s v u)) → Wp 3 j_Swapper_measure 2 [.ref 54, .int (nI t), .null, .null, .null] [] h' (fun w h' => w = none ∧ onlyJ [55] [54, 56] h h' ∧ msd s c v h') := by
      refine up_ind ?_ (fun t ht ih => ?_)
      · intro h' O B
        have R' := RR h' O
        have ih := lp2 0 (Nat.zero_le _) (wJ h' 54 6 0) .null .null (O.addJ (by decide)) B (fun p' k hp' => absurd hp' (by omega)) (wJ_same _ _ _ _)
        (refine W1 rfl ?_; try refine Wp.norm (L' := [_, _, _, _, _]) rfl ?_)
        repeat (first | refine Wp.at ih rfl rfl ?_ rfl | (refine W1 rfl ?_; try refine Wp.norm (L' := [_, _, _, _, _]) rfl ?_) | ((first | change (_ → _) ∧ (_ → _) | change vp_in _ _ ∧ _ | change ¬ _ ∧ _); simp (disch := omega) only [nI_clamp, nI_leI, nI_ltI, nI_eq, nI_1, nI_add, nI_not_neg, nI_is_pos, nI_m1, nI_z, R'.T]) | refine brT (by first | assumption | decide | omega) ?_ | refine brF (by first | assumption | decide | omega) ?_ | refine brTn (by first | assumption | decide | omega) ?_ | refine brFn (by first | assumption | decide | omega) ?_ | refine And.intro (vp_in_nI (by omega) (by decide)) ?_ | refine And.intro (vp_lit (by decide)) ?_ | refine divJ (by decide) ?_ | refine divI (by decide) ?_)
        try change _ ∧ _
        first | done | rfl | (simp (disch := omega) only [nI_1, nI_add, nI_clamp] <;> first | done | rfl)
      · intro h' O B
        have R' := RR h' O
        have hb := bOf_le (v := v) o t
        have ih := ih (wI h' 55 t (bI (beB s v t))) (O.addI (by decide)) (fun u hu => by
          by_cases e : u = t
          · rw [e, wI_same]
          · rw [wI_ne2 _ _ e]; exact B u (by omega))
        repeat (first | (refine W1 rfl ?_; try refine Wp.norm (L' := [_, _, _, _, _]) rfl ?_) | ((first | change (_ → _) ∧ (_ → _) | change vp_in _ _ ∧ _ | change ¬ _ ∧ _); simp (disch := omega) only [nI_clamp, nI_leI, nI_ltI, nI_eq, nI_1, nI_add, nI_not_neg, nI_is_pos, nI_m1, nI_z, R'.T]) | refine brT (by first | assumption | decide | omega) ?_ | refine brF (by first | assumption | decide | omega) ?_ | refine brTn (by first | assumption | decide | omega) ?_ | refine brFn (by first | assumption | decide | omega) ?_ | refine And.intro (vp_in_nI (by omega) (by decide)) ?_ | refine And.intro (vp_lit (by decide)) ?_ | refine divJ (by decide) ?_ | refine divI (by decide) ?_)
        try change _ ∧ _
        refine Cl.of (r_Rota_barOf R' o ro ht) (by decide) ?_
        unfold beB at ih
        generalize bOf s v t = q at *
        by_cases q0 : q = 0
        · subst q0
          repeat (first | refine Wp.at ih rfl rfl ?_ ?_ | (refine W1 rfl ?_; try refine Wp.norm (L' := [_, _, _, _, _]) rfl ?_) | ((first | change (_ → _) ∧ (_ → _) | change vp_in _ _ ∧ _ | change ¬ _ ∧ _); simp (disch := omega) only [nI_clamp, nI_leI, nI_ltI, nI_eq, nI_1, nI_add, nI_not_neg, nI_is_pos, nI_m1, nI_z]) | refine brT (by first | assumption | decide | omega) ?_ | refine brF (by first | assumption | decide | omega) ?_ | refine brTn (by first | assumption | decide | omega) ?_ | refine brFn (by first | assumption | decide | omega) ?_ | refine And.intro (vp_in_nI (by omega) (by decide)) ?_ | refine And.intro (vp_lit (by decide)) ?_ | refine divJ (by decide) ?_ | refine divI (by decide) ?_)
          try change _ ∧ _
          · first | done | rfl | (simp (disch := omega) only [nI_1, nI_add, nI_clamp] <;> first | done | rfl)
          · first | rfl | exact congrArg (fun x => wI h' 55 t x) (by decide)
        · rw [show decide (¬ q = 0) = true by simpa using q0] at ih
          repeat (first | refine Wp.at ih rfl rfl ?_ ?_ | (refine W1 rfl ?_; try refine Wp.norm (L' := [_, _, _, _, _]) rfl ?_) | ((first | change (_ → _) ∧ (_ → _) | change vp_in _ _ ∧ _ | change ¬ _ ∧ _); simp (disch := omega) only [nI_clamp, nI_leI, nI_ltI, nI_eq, nI_1, nI_add, nI_not_neg, nI_is_pos, nI_m1, nI_z]) | refine brT (by first | assumption | decide | omega) ?_ | refine brF (by first | assumption | decide | omega) ?_ | refine brTn (by first | assumption | decide | omega) ?_ | refine brFn (by first | assumption | decide | omega) ?_ | refine And.intro (vp_in_nI (by omega) (by decide)) ?_ | refine And.intro (vp_lit (by decide)) ?_ | refine divJ (by decide) ?_ | refine divI (by decide) ?_)
          try change _ ∧ _
          · first | done | rfl | (simp (disch := omega) only [nI_1, nI_add, nI_clamp] <;> first | done | rfl)
          · first | rfl | exact congrArg (fun x => wI h' 55 t x) (by decide)
    have ih := lp1 0 (Nat.zero_le _) h (onlyJ.rfl _ _ h) (fun u hu => absurd hu (by omega))
    repeat (first | refine Wp.at ih rfl rfl ?_ rfl | (refine W1 rfl ?_; try refine Wp.norm (L' := [_, _, _, _, _]) rfl ?_) | ((first | change (_ → _) ∧ (_ → _) | change vp_in _ _ ∧ _ | change ¬ _ ∧ _); simp (disch := omega) only [nI_clamp, nI_leI, nI_ltI, nI_eq, nI_1, nI_add, nI_not_neg, nI_is_pos, nI_m1, nI_z]) | refine brT (by first | assumption | decide | omega) ?_ | refine brF (by first | assumption | decide | omega) ?_ | refine brTn (by first | assumption | decide | omega) ?_ | refine brFn (by first | assumption | decide | omega) ?_ | refine And.intro (vp_in_nI (by omega) (by decide)) ?_ | refine And.intro (vp_lit (by decide)) ?_ | refine divJ (by decide) ?_ | refine divI (by decide) ?_)
    try change _ ∧ _
    first | done | rfl | (simp (disch := omega) only [nI_1, nI_add, nI_clamp] <;> first | done | rfl))
  subst e
  exact ⟨h', r, O, A⟩
theorem r_exchange (R : RC s c v h) (o : OK s) (hi : i < zT s) (hj : j < zT s) (hij : i ≠ j) : ∃ h', Run 0 j_Swapper_exchange [.ref 54, .int (nI i), .int (nI j)] h none h' ∧ onlyJ [46, 47] [] h h' ∧ RC s (swp c i j) (swp v i j) h' := by
  have hT := o.T; have hP := o.P; have hK := o.K; have hD := o.D; have hO := o.O; have hQ := o.Q; have hL := o.L
  refine ⟨wI (wI (wI (wI h 46 i (c j)) 47 i (v j)) 46 j (c i)) 47 j (v i), ?_, ((((onlyJ.rfl _ _ h).addI (by decide)).addI (by decide)).addI (by decide)).addI (by decide), ?_⟩
  · refine Run.of rfl ?_
    refine Wp.norm (L' := [_, _, _, _, _]) rfl ?_
    repeat (first | (refine W1 rfl ?_; try refine Wp.norm (L' := [_, _, _, _, _]) rfl ?_) | ((first | change (_ → _) ∧ (_ → _) | change vp_in _ _ ∧ _ | change ¬ _ ∧ _); simp (disch := omega) only [nI_clamp, nI_leI, nI_ltI, nI_eq, nI_1, nI_add, nI_not_neg, nI_is_pos, nI_m1, nI_z]) | refine brT (by first | assumption | decide | omega) ?_ | refine brF (by first | assumption | decide | omega) ?_ | refine brTn (by first | assumption | decide | omega) ?_ | refine brFn (by first | assumption | decide | omega) ?_ | refine And.intro (vp_in_nI (by omega) (by decide)) ?_ | refine And.intro (vp_lit (by decide)) ?_ | refine divJ (by decide) ?_ | refine divI (by decide) ?_)
    try change _ ∧ _
    simp (disch := omega) only [nI_clamp, wI_ne, wI_ne2, R.cts, R.srv]
    exact ⟨trivial, trivial⟩
  · have := (((R.c46 i (c j)).c47 i (v j)).c46 j (c i)).c47 j (v i)
    rwa [upd_swp c hij, upd_swp v hij] at this
/-- may the turn's bar change -/
def snc (s : ST) (i j t : Nat) : Nat := if tD s j ≤ tD s t then tD s t - tD s j else tD s t - tD s i
def mcB (s : ST) (v : RT) (i j t : Nat) : Bool := decide (snc s i j t = 0) || (decide (snc s i j t ≤ zL s) && (decide (v t = v i) || decide (v t = v j)))
theorem r_mayChange (R : RC s c v h) (o : OK s) (hi : i < zT s) (hj : j < zT s) (ht : t < zT s) (hd : tD s i ≤ tD s t) : Run 0 j_Swapper_mayChange [.ref 54, .int (nI t), .int (nI i), .int (nI j)] h (some (.int (bI (mcB s v i j t)))) h := by
  have hT := o.T; have hP := o.P; have hK := o.K; have hD := o.D; have hO := o.O; have hQ := o.Q; have hL := o.L
  have d1 := o.day hi
  have d2 := o.day hj
  have d3 := o.day ht
  have fin : snc s i j t < 200 → Wp 0 j_Swapper_mayChange 51 [.ref 54, .int (nI t), .int (nI i), .int (nI j), .int (nI (tD s t)), .int (nI (snc s i j t)), .null] [] h (fun v' h2 => v' = some (.int (bI (mcB s v i j t))) ∧ h2 = h) := by
    intro hs
    unfold mcB
    generalize snc s i j t = g at *
    repeat (first | (refine W1 rfl ?_; try refine Wp.norm (L' := [_, _, _, _, _, _, _]) rfl ?_) | ((first | change (_ → _) ∧ (_ → _) | change vp_in _ _ ∧ _ | change ¬ _ ∧ _); simp (disch := omega) only [nI_clamp, nI_leI, nI_ltI, nI_eq, nI_1, nI_add, nI_not_neg, nI_is_pos, nI_m1, nI_z]) | refine brT (by first | assumption | decide | omega) ?_ | refine brF (by first | assumption | decide | omega) ?_ | refine brTn (by first | assumption | decide | omega) ?_ | refine brFn (by first | assumption | decide | omega) ?_ | refine And.intro (vp_in_nI (by omega) (by decide)) ?_ | refine And.intro (vp_lit (by decide)) ?_ | refine divJ (by decide) ?_ | refine divI (by decide) ?_)
    try change _ ∧ _
    refine ⟨fun q => ?_, fun q => ?_⟩
    · rw [show decide (g = 0) = false by simpa using q, Bool.false_or]
      repeat (first | (refine W1 rfl ?_; try refine Wp.norm (L' := [_, _, _, _, _, _, _]) rfl ?_) | ((first | change (_ → _) ∧ (_ → _) | change vp_in _ _ ∧ _ | change ¬ _ ∧ _); simp (disch := omega) only [nI_clamp, nI_leI, nI_ltI, nI_eq, nI_1, nI_add, nI_not_neg, nI_is_pos, nI_m1, nI_z, R.srv, R.lng]) | refine brT (by first | assumption | decide | omega) ?_ | refine brF (by first | assumption | decide | omega) ?_ | refine brTn (by first | assumption | decide | omega) ?_ | refine brFn (by first | assumption | decide | omega) ?_ | refine And.intro (vp_in_nI (by omega) (by decide)) ?_ | refine And.intro (vp_lit (by decide)) ?_ | refine divJ (by decide) ?_ | refine divI (by decide) ?_)
      try change _ ∧ _
      refine ⟨fun q2 => ?_, fun q2 => ?_⟩
      · repeat (first | (refine W1 rfl ?_; try refine Wp.norm (L' := [_, _, _, _, _, _, _]) rfl ?_) | ((first | change (_ → _) ∧ (_ → _) | change vp_in _ _ ∧ _ | change ¬ _ ∧ _); simp (disch := omega) only [nI_clamp, nI_leI, nI_ltI, nI_eq, nI_1, nI_add, nI_not_neg, nI_is_pos, nI_m1, nI_z]) | refine brT (by first | assumption | decide | omega) ?_ | refine brF (by first | assumption | decide | omega) ?_ | refine brTn (by first | assumption | decide | omega) ?_ | refine brFn (by first | assumption | decide | omega) ?_ | refine And.intro (vp_in_nI (by omega) (by decide)) ?_ | refine And.intro (vp_lit (by decide)) ?_ | refine divJ (by decide) ?_ | refine divI (by decide) ?_)
        try change _ ∧ _
        rw [show decide (g ≤ zL s) = false by simp; omega]
        try first | exact ⟨rfl, rfl⟩ | exact ⟨Or.inr rfl, rfl, rfl⟩ | exact ⟨Or.inl rfl, rfl, rfl⟩ | exact ⟨trivial, trivial⟩ | exact ⟨rfl, trivial⟩ | exact ⟨Or.inr rfl, rfl, trivial⟩ | exact ⟨Or.inl rfl, rfl, trivial⟩
      · rw [show decide (g ≤ zL s) = true by simp; omega, Bool.true_and]
        repeat (first | (refine W1 rfl ?_; try refine Wp.norm (L' := [_, _, _, _, _, _, _]) rfl ?_) | ((first | change (_ → _) ∧ (_ → _) | change vp_in _ _ ∧ _ | change ¬ _ ∧ _); simp (disch := omega) only [nI_clamp, nI_leI, nI_ltI, nI_eq, nI_1, nI_add, nI_not_neg, nI_is_pos, nI_m1, nI_z, R.srv]) | refine brT (by first | assumption | decide | omega) ?_ | refine brF (by first | assumption | decide | omega) ?_ | refine brTn (by first | assumption | decide | omega) ?_ | refine brFn (by first | assumption | decide | omega) ?_ | refine And.intro (vp_in_nI (by omega) (by decide)) ?_ | refine And.intro (vp_lit (by decide)) ?_ | refine divJ (by decide) ?_ | refine divI (by decide) ?_)
        try change _ ∧ _
        refine ⟨fun q3 => ?_, fun q3 => ?_⟩
        · repeat (first | (refine W1 rfl ?_; try refine Wp.norm (L' := [_, _, _, _, _, _, _]) rfl ?_) | ((first | change (_ → _) ∧ (_ → _) | change vp_in _ _ ∧ _ | change ¬ _ ∧ _); simp (disch := omega) only [nI_clamp, nI_leI, nI_ltI, nI_eq, nI_1, nI_add, nI_not_neg, nI_is_pos, nI_m1, nI_z]) | refine brT (by first | assumption | decide | omega) ?_ | refine brF (by first | assumption | decide | omega) ?_ | refine brTn (by first | assumption | decide | omega) ?_ | refine brFn (by first | assumption | decide | omega) ?_ | refine And.intro (vp_in_nI (by omega) (by decide)) ?_ | refine And.intro (vp_lit (by decide)) ?_ | refine divJ (by decide) ?_ | refine divI (by decide) ?_)
          try change _ ∧ _
          rw [show decide (v t = v i) = true by simpa using q3]
          try first | exact ⟨rfl, rfl⟩ | exact ⟨Or.inr rfl, rfl, rfl⟩ | exact ⟨Or.inl rfl, rfl, rfl⟩ | exact ⟨trivial, trivial⟩ | exact ⟨rfl, trivial⟩ | exact ⟨Or.inr rfl, rfl, trivial⟩ | exact ⟨Or.inl rfl, rfl, trivial⟩
        · rw [show decide (v t = v i) = false by simpa using q3, Bool.false_or]
          repeat (first | (refine W1 rfl ?_; try refine Wp.norm (L' := [_, _, _, _, _, _, _]) rfl ?_) | ((first | change (_ → _) ∧ (_ → _) | change vp_in _ _ ∧ _ | change ¬ _ ∧ _); simp (disch := omega) only [nI_clamp, nI_leI, nI_ltI, nI_eq, nI_1, nI_add, nI_not_neg, nI_is_pos, nI_m1, nI_z, R.srv]) | refine brT (by first | assumption | decide | omega) ?_ | refine brF (by first | assumption | decide | omega) ?_ | refine brTn (by first | assumption | decide | omega) ?_ | refine brFn (by first | assumption | decide | omega) ?_ | refine And.intro (vp_in_nI (by omega) (by decide)) ?_ | refine And.intro (vp_lit (by decide)) ?_ | refine divJ (by decide) ?_ | refine divI (by decide) ?_)
          try change _ ∧ _
          refine ⟨fun q4 => ?_, fun q4 => ?_⟩
          · repeat (first | (refine W1 rfl ?_; try refine Wp.norm (L' := [_, _, _, _, _, _, _]) rfl ?_) | ((first | change (_ → _) ∧ (_ → _) | change vp_in _ _ ∧ _ | change ¬ _ ∧ _); simp (disch := omega) only [nI_clamp, nI_leI, nI_ltI, nI_eq, nI_1, nI_add, nI_not_neg, nI_is_pos, nI_m1, nI_z]) | refine brT (by first | assumption | decide | omega) ?_ | refine brF (by first | assumption | decide | omega) ?_ | refine brTn (by first | assumption | decide | omega) ?_ | refine brFn (by first | assumption | decide | omega) ?_ | refine And.intro (vp_in_nI (by omega) (by decide)) ?_ | refine And.intro (vp_lit (by decide)) ?_ | refine divJ (by decide) ?_ | refine divI (by decide) ?_)
            try change _ ∧ _
            rw [show decide (v t = v j) = false by simpa using q4]
            try first | exact ⟨rfl, rfl⟩ | exact ⟨Or.inr rfl, rfl, rfl⟩ | exact ⟨Or.inl rfl, rfl, rfl⟩ | exact ⟨trivial, trivial⟩ | exact ⟨rfl, trivial⟩ | exact ⟨Or.inr rfl, rfl, trivial⟩ | exact ⟨Or.inl rfl, rfl, trivial⟩
          · repeat (first | (refine W1 rfl ?_; try refine Wp.norm (L' := [_, _, _, _, _, _, _]) rfl ?_) | ((first | change (_ → _) ∧ (_ → _) | change vp_in _ _ ∧ _ | change ¬ _ ∧ _); simp (disch := omega) only [nI_clamp, nI_leI, nI_ltI, nI_eq, nI_1, nI_add, nI_not_neg, nI_is_pos, nI_m1, nI_z]) | refine brT (by first | assumption | decide | omega) ?_ | refine brF (by first | assumption | decide | omega) ?_ | refine brTn (by first | assumption | decide | omega) ?_ | refine brFn (by first | assumption | decide | omega) ?_ | refine And.intro (vp_in_nI (by omega) (by decide)) ?_ | refine And.intro (vp_lit (by decide)) ?_ | refine divJ (by decide) ?_ | refine divI (by decide) ?_)
            try change _ ∧ _
            rw [show decide (v t = v j) = true by simpa using q4]
            try first | exact ⟨rfl, rfl⟩ | exact ⟨Or.inr rfl, rfl, rfl⟩ | exact ⟨Or.inl rfl, rfl, rfl⟩ | exact ⟨trivial, trivial⟩ | exact ⟨rfl, trivial⟩ | exact ⟨Or.inr rfl, rfl, trivial⟩ | exact ⟨Or.inl rfl, rfl, trivial⟩
    · repeat (first | (refine W1 rfl ?_; try refine Wp.norm (L' := [_, _, _, _, _, _, _]) rfl ?_) | ((first | change (_ → _) ∧ (_ → _) | change vp_in _ _ ∧ _ | change ¬ _ ∧ _); simp (disch := omega) only [nI_clamp, nI_leI, nI_ltI, nI_eq, nI_1, nI_add, nI_not_neg, nI_is_pos, nI_m1, nI_z]) | refine brT (by first | assumption | decide | omega) ?_ | refine brF (by first | assumption | decide | omega) ?_ | refine brTn (by first | assumption | decide | omega) ?_ | refine brFn (by first | assumption | decide | omega) ?_ | refine And.intro (vp_in_nI (by omega) (by decide)) ?_ | refine And.intro (vp_lit (by decide)) ?_ | refine divJ (by decide) ?_ | refine divI (by decide) ?_)
      try change _ ∧ _
      rw [show decide (g = 0) = true by simpa using q]
      try first | exact ⟨rfl, rfl⟩ | exact ⟨Or.inr rfl, rfl, rfl⟩ | exact ⟨Or.inl rfl, rfl, rfl⟩ | exact ⟨trivial, trivial⟩ | exact ⟨rfl, trivial⟩ | exact ⟨Or.inr rfl, rfl, trivial⟩ | exact ⟨Or.inl rfl, rfl, trivial⟩
  refine Run.of rfl ?_
  refine Wp.norm (L' := [_, _, _, _, _, _, _]) rfl ?_
  repeat (first | (refine W1 rfl ?_; try refine Wp.norm (L' := [_, _, _, _, _, _, _]) rfl ?_) | ((first | change (_ → _) ∧ (_ → _) | change vp_in _ _ ∧ _ | change ¬ _ ∧ _); simp (disch := omega) only [nI_clamp, nI_leI, nI_ltI, nI_eq, nI_1, nI_add, nI_not_neg, nI_is_pos, nI_m1, nI_z, R.day]) | refine brT (by first | assumption | decide | omega) ?_ | refine brF (by first | assumption | decide | omega) ?_ | refine brTn (by first | assumption | decide | omega) ?_ | refine brFn (by first | assumption | decide | omega) ?_ | refine And.intro (vp_in_nI (by omega) (by decide)) ?_ | refine And.intro (vp_lit (by decide)) ?_ | refine divJ (by decide) ?_ | refine divI (by decide) ?_)
  try change _ ∧ _
  refine ⟨fun q => ?_, fun q => ?_⟩
  · have e : snc s i j t = tD s t - tD s i := by unfold snc; rw [if_neg (by omega)]
    have ih := fin (by omega)
    rw [e] at ih
    repeat (first | refine Wp.at ih rfl rfl ?_ rfl | (refine W1 rfl ?_; try refine Wp.norm (L' := [_, _, _, _, _, _, _]) rfl ?_) | ((first | change (_ → _) ∧ (_ → _) | change vp_in _ _ ∧ _ | change ¬ _ ∧ _); simp (disch := omega) only [nI_clamp, nI_leI, nI_ltI, nI_eq, nI_1, nI_add, nI_not_neg, nI_is_pos, nI_m1, nI_z, R.day]) | refine brT (by first | assumption | decide | omega) ?_ | refine brF (by first | assumption | decide | omega) ?_ | refine brTn (by first | assumption | decide | omega) ?_ | refine brFn (by first | assumption | decide | omega) ?_ | refine And.intro (vp_in_nI (by omega) (by decide)) ?_ | refine And.intro (vp_lit (by decide)) ?_ | refine divJ (by decide) ?_ | refine divI (by decide) ?_)
    try change _ ∧ _
    first | done | rfl | (simp (disch := omega) only [nI_1, nI_add, nI_clamp, R.day, pk_sub] <;> first | done | rfl)
  · have e : snc s i j t = tD s t - tD s j := by unfold snc; rw [if_pos (by omega)]
    have ih := fin (by omega)
    rw [e] at ih
    repeat (first | refine Wp.at ih rfl rfl ?_ rfl | (refine W1 rfl ?_; try refine Wp.norm (L' := [_, _, _, _, _, _, _]) rfl ?_) | ((first | change (_ → _) ∧ (_ → _) | change vp_in _ _ ∧ _ | change ¬ _ ∧ _); simp (disch := omega) only [nI_clamp, nI_leI, nI_ltI, nI_eq, nI_1, nI_add, nI_not_neg, nI_is_pos, nI_m1, nI_z, R.day]) | refine brT (by first | assumption | decide | omega) ?_ | refine brF (by first | assumption | decide | omega) ?_ | refine brTn (by first | assumption | decide | omega) ?_ | refine brFn (by first | assumption | decide | omega) ?_ | refine And.intro (vp_in_nI (by omega) (by decide)) ?_ | refine And.intro (vp_lit (by decide)) ?_ | refine divJ (by decide) ?_ | refine divI (by decide) ?_)
    try change _ ∧ _
    first | done | rfl | (simp (disch := omega) only [nI_1, nI_add, nI_clamp, R.day, pk_sub] <;> first | done | rfl)
end SW2
