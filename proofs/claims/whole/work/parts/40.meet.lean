/-! ===== WHO SERVES WHEN; MEET, MEETS ===== -/
theorem cnt_init {p : Nat → Prop} [DecidablePred p] {T : Nat} (hp : ∀ t u, t ≤ u → u < T → p u → p t) {t : Nat} (ht : t < T) : t < cnt p T ↔ p t := by
  have full : ∀ n, (∀ u, u < n → p u) → cnt p n = n := by
    intro n
    induction n with
    | zero => intro _; rfl
    | succ n ih =>
      intro h
      unfold cnt
      rw [ih (fun u hu => h u (by omega)), if_pos (h n (by omega))]
  have none : ∀ k n, (∀ u, n ≤ u → u < n + k → ¬ p u) → cnt p (n + k) = cnt p n := by
    intro k
    induction k with
    | zero => intro n _; rfl
    | succ k ih =>
      intro n h
      have e : cnt p (n + (k + 1)) = cnt p (n + k) + (if p (n + k) then 1 else 0) := rfl
      rw [e, ih n (fun u h1 h2 => h u h1 (by omega)), if_neg (h (n + k) (by omega) (by omega))]
      rfl
  constructor
  · intro h
    by_cases hpt : p t
    · exact hpt
    · exfalso
      have e := none (T - t) t (fun u h1 h2 hu => hpt (hp t u h1 (by omega) hu))
      rw [show t + (T - t) = T by omega] at e
      have := cnt_le p t
      omega
  · intro hpt
    have e := full (t + 1) (fun u hu => hp u t (by omega) ht hpt)
    have := cnt_mono p (show t + 1 ≤ T by omega)
    omega
section MEET
variable {s : ST} {c v : RT} {h : HP}
theorem dF_lt (o : OK s) {t d : Nat} (ht : t < zT s) (hd : d < 201) : t < dF s d ↔ tD s t < d := by
  rw [o.dfs hd]
  exact cnt_init (p := fun u => tD s u < d) (fun t u h1 h2 h3 => Nat.lt_of_le_of_lt (o.up h1 h2) h3) ht
theorem dF_le (o : OK s) {d : Nat} (hd : d < 201) : dF s d ≤ zT s := by
  rw [o.dfs hd]
  exact cnt_le _ _
theorem dF_mono (o : OK s) {d e : Nat} (hd : d ≤ e) (he : e < 201) : dF s d ≤ dF s e := by
  rw [o.dfs he, o.dfs (by omega)]
  have : ∀ n, cnt (fun u => tD s u < d) n ≤ cnt (fun u => tD s u < e) n := by
    intro n
    induction n with
    | zero => exact Nat.le_refl _
    | succ n ih =>
      unfold cnt
      by_cases h1 : tD s n < d
      · rw [if_pos h1, if_pos (by omega)]; omega
      · rw [if_neg h1]; omega
  exact this _
theorem on_day (o : OK s) {t d : Nat} (ht : t < zT s) (hd : d < 200) : tD s t = d ↔ dF s d ≤ t ∧ t < dF s (d + 1) := by
  have h1 := dF_lt o ht (show d < 201 by omega)
  have h2 := dF_lt o ht (show d + 1 < 201 by omega)
  omega
/-- somebody serves another turn of the day -/
def svo (s : ST) (v : RT) (p : Int32) (d : Nat) (but : Int32) : Nat → Bool
  | 0 => false
  | n + 1 => svo s v p d but n || (decide (¬ nI n = but) && decide (tD s n = d) && decide (v n = p))
theorem svo_iff (s : ST) (v : RT) (p : Int32) (d : Nat) (but : Int32) : ∀ n, svo s v p d but n = true ↔ ∃ u, u < n ∧ ¬ nI u = but ∧ tD s u = d ∧ v u = p
  | 0 => by simp [svo]
  | n + 1 => by
    unfold svo
    rw [Bool.or_eq_true, svo_iff s v p d but n]
    simp only [Bool.and_eq_true, decide_eq_true_eq]
    constructor
    · rintro (⟨u, h1, h2⟩ | ⟨⟨h1, h2⟩, h3⟩)
      · exact ⟨u, by omega, h2⟩
      · exact ⟨n, by omega, h1, h2, h3⟩
    · rintro ⟨u, h1, h2, h3, h4⟩
      by_cases e : u = n
      · subst e
        exact Or.inr ⟨⟨h2, h3⟩, h4⟩
      · exact Or.inl ⟨u, by omega, h2, h3, h4⟩
theorem r_M_servesOn (R : RM s c v h) (o : OK s) (p : Int32) {d : Nat} (hd : d < 2 ^ 31) (but : Int32) : Run 0 j_M_servesOn [.ref 65, .int p, .int (nI d), .int but] h (some (.int (if svo s v p d but (zT s) = true then 1 else 0))) h := by
  have hT := o.T; have hP := o.P; have hK := o.K; have hD := o.D; have hO := o.O; have hQ := o.Q; have hL := o.L
  have lp : ∀ i, i ≤ zT s → svo s v p d but i = false → Wp 0 j_M_servesOn 3 [.ref 65, .int p, .int (nI d), .int but, .int (nI i)] [] h (fun v' h2 => v' = some (.int (if svo s v p d but (zT s) = true then 1 else 0)) ∧ h2 = h) := by
    refine up_ind ?_ (fun i hi ih => ?_)
    · intro hf
      repeat (first | (refine W1 rfl ?_; try refine Wp.norm (L' := [_, _, _, _, _]) rfl ?_) | refine brT (by first | assumption | decide | omega) ?_ | refine brF (by first | assumption | decide | omega) ?_ | refine brTn (by first | assumption | decide | omega) ?_ | refine brFn (by first | assumption | decide | omega) ?_ | refine And.intro (vp_lit (by decide)) ?_ | refine And.intro (vp_in_nI (by omega) (by decide)) ?_ | ((first | change (_ → _) ∧ (_ → _) | change vp_in _ _ ∧ _ | change ¬ _ ∧ _); simp (disch := omega) only [nI_clamp, nI_leI, nI_ltI, nI_eq, nI_1, nI_add, nI_not_neg, nI_is_pos, nI_m1, nI_z, R.T]))
      try change _ ∧ _
      rw [hf]
      try first | exact ⟨rfl, rfl⟩ | exact ⟨Or.inr rfl, rfl, rfl⟩ | exact ⟨Or.inl rfl, rfl, rfl⟩ | exact ⟨trivial, trivial⟩ | exact ⟨rfl, trivial⟩ | exact ⟨Or.inr rfl, rfl, trivial⟩ | exact ⟨Or.inl rfl, rfl, trivial⟩
    · intro hf
      have hdy := o.day hi
      have e : svo s v p d but (i + 1) = (svo s v p d but i || (decide (¬ nI i = but) && decide (tD s i = d) && decide (v i = p))) := rfl
      rw [hf, Bool.false_or] at e
      repeat (first | (refine W1 rfl ?_; try refine Wp.norm (L' := [_, _, _, _, _]) rfl ?_) | refine brT (by first | assumption | decide | omega) ?_ | refine brF (by first | assumption | decide | omega) ?_ | refine brTn (by first | assumption | decide | omega) ?_ | refine brFn (by first | assumption | decide | omega) ?_ | refine And.intro (vp_lit (by decide)) ?_ | refine And.intro (vp_in_nI (by omega) (by decide)) ?_ | ((first | change (_ → _) ∧ (_ → _) | change vp_in _ _ ∧ _ | change ¬ _ ∧ _); simp (disch := omega) only [nI_clamp, nI_leI, nI_ltI, nI_eq, nI_1, nI_add, nI_not_neg, nI_is_pos, nI_m1, nI_z, R.T]))
      try change _ ∧ _
      refine ⟨fun q1 => ?_, fun q1 => ?_⟩
      · have ih := ih (by rw [e]; simp [q1])
        repeat (first | refine Wp.at ih rfl rfl ?_ rfl | (refine W1 rfl ?_; try refine Wp.norm (L' := [_, _, _, _, _]) rfl ?_) | refine brT (by first | assumption | decide | omega) ?_ | refine brF (by first | assumption | decide | omega) ?_ | refine brTn (by first | assumption | decide | omega) ?_ | refine brFn (by first | assumption | decide | omega) ?_ | refine And.intro (vp_lit (by decide)) ?_ | refine And.intro (vp_in_nI (by omega) (by decide)) ?_ | ((first | change (_ → _) ∧ (_ → _) | change vp_in _ _ ∧ _ | change ¬ _ ∧ _); simp (disch := omega) only [nI_clamp, nI_leI, nI_ltI, nI_eq, nI_1, nI_add, nI_not_neg, nI_is_pos, nI_m1, nI_z]))
        try change _ ∧ _
        first | rfl | (simp (disch := omega) only [nI_1, nI_add, nI_clamp] <;> first | done | rfl)
      · repeat (first | (refine W1 rfl ?_; try refine Wp.norm (L' := [_, _, _, _, _]) rfl ?_) | refine brT (by first | assumption | decide | omega) ?_ | refine brF (by first | assumption | decide | omega) ?_ | refine brTn (by first | assumption | decide | omega) ?_ | refine brFn (by first | assumption | decide | omega) ?_ | refine And.intro (vp_lit (by decide)) ?_ | refine And.intro (vp_in_nI (by omega) (by decide)) ?_ | ((first | change (_ → _) ∧ (_ → _) | change vp_in _ _ ∧ _ | change ¬ _ ∧ _); simp (disch := omega) only [nI_clamp, nI_leI, nI_ltI, nI_eq, nI_1, nI_add, nI_not_neg, nI_is_pos, nI_m1, nI_z, R.day]))
        try change _ ∧ _
        refine ⟨fun q2 => ?_, fun q2 => ?_⟩
        · have ih := ih (by rw [e]; simp [q2])
          repeat (first | refine Wp.at ih rfl rfl ?_ rfl | (refine W1 rfl ?_; try refine Wp.norm (L' := [_, _, _, _, _]) rfl ?_) | refine brT (by first | assumption | decide | omega) ?_ | refine brF (by first | assumption | decide | omega) ?_ | refine brTn (by first | assumption | decide | omega) ?_ | refine brFn (by first | assumption | decide | omega) ?_ | refine And.intro (vp_lit (by decide)) ?_ | refine And.intro (vp_in_nI (by omega) (by decide)) ?_ | ((first | change (_ → _) ∧ (_ → _) | change vp_in _ _ ∧ _ | change ¬ _ ∧ _); simp (disch := omega) only [nI_clamp, nI_leI, nI_ltI, nI_eq, nI_1, nI_add, nI_not_neg, nI_is_pos, nI_m1, nI_z]))
          try change _ ∧ _
          first | rfl | (simp (disch := omega) only [nI_1, nI_add, nI_clamp] <;> first | done | rfl)
        · repeat (first | (refine W1 rfl ?_; try refine Wp.norm (L' := [_, _, _, _, _]) rfl ?_) | refine brT (by first | assumption | decide | omega) ?_ | refine brF (by first | assumption | decide | omega) ?_ | refine brTn (by first | assumption | decide | omega) ?_ | refine brFn (by first | assumption | decide | omega) ?_ | refine And.intro (vp_lit (by decide)) ?_ | refine And.intro (vp_in_nI (by omega) (by decide)) ?_ | ((first | change (_ → _) ∧ (_ → _) | change vp_in _ _ ∧ _ | change ¬ _ ∧ _); simp (disch := omega) only [nI_clamp, nI_leI, nI_ltI, nI_eq, nI_1, nI_add, nI_not_neg, nI_is_pos, nI_m1, nI_z, R.srv]))
          try change _ ∧ _
          refine ⟨fun q3 => ?_, fun q3 => ?_⟩
          · have ih := ih (by rw [e]; simp [q3])
            repeat (first | refine Wp.at ih rfl rfl ?_ rfl | (refine W1 rfl ?_; try refine Wp.norm (L' := [_, _, _, _, _]) rfl ?_) | refine brT (by first | assumption | decide | omega) ?_ | refine brF (by first | assumption | decide | omega) ?_ | refine brTn (by first | assumption | decide | omega) ?_ | refine brFn (by first | assumption | decide | omega) ?_ | refine And.intro (vp_lit (by decide)) ?_ | refine And.intro (vp_in_nI (by omega) (by decide)) ?_ | ((first | change (_ → _) ∧ (_ → _) | change vp_in _ _ ∧ _ | change ¬ _ ∧ _); simp (disch := omega) only [nI_clamp, nI_leI, nI_ltI, nI_eq, nI_1, nI_add, nI_not_neg, nI_is_pos, nI_m1, nI_z]))
            try change _ ∧ _
            first | rfl | (simp (disch := omega) only [nI_1, nI_add, nI_clamp] <;> first | done | rfl)
          · repeat (first | (refine W1 rfl ?_; try refine Wp.norm (L' := [_, _, _, _, _]) rfl ?_) | refine brT (by first | assumption | decide | omega) ?_ | refine brF (by first | assumption | decide | omega) ?_ | refine brTn (by first | assumption | decide | omega) ?_ | refine brFn (by first | assumption | decide | omega) ?_ | refine And.intro (vp_lit (by decide)) ?_ | refine And.intro (vp_in_nI (by omega) (by decide)) ?_ | ((first | change (_ → _) ∧ (_ → _) | change vp_in _ _ ∧ _ | change ¬ _ ∧ _); simp (disch := omega) only [nI_clamp, nI_leI, nI_ltI, nI_eq, nI_1, nI_add, nI_not_neg, nI_is_pos, nI_m1, nI_z]))
            try change _ ∧ _
            rw [if_pos ((svo_iff s v p d but _).mpr ⟨i, hi, q1, q2, q3⟩)]
            try first | exact ⟨rfl, rfl⟩ | exact ⟨Or.inr rfl, rfl, rfl⟩ | exact ⟨Or.inl rfl, rfl, rfl⟩ | exact ⟨trivial, trivial⟩ | exact ⟨rfl, trivial⟩ | exact ⟨Or.inr rfl, rfl, trivial⟩ | exact ⟨Or.inl rfl, rfl, trivial⟩
  refine Run.of rfl ?_
  refine Wp.norm (L' := [_, _, _, _, _]) rfl ?_
  have ih := lp 0 (Nat.zero_le _) rfl
  repeat (first | refine Wp.at ih rfl rfl ?_ rfl | (refine W1 rfl ?_; try refine Wp.norm (L' := [_, _, _, _, _]) rfl ?_) | refine brT (by first | assumption | decide | omega) ?_ | refine brF (by first | assumption | decide | omega) ?_ | refine brTn (by first | assumption | decide | omega) ?_ | refine brFn (by first | assumption | decide | omega) ?_ | refine And.intro (vp_lit (by decide)) ?_ | refine And.intro (vp_in_nI (by omega) (by decide)) ?_ | ((first | change (_ → _) ∧ (_ → _) | change vp_in _ _ ∧ _ | change ¬ _ ∧ _); simp (disch := omega) only [nI_clamp, nI_leI, nI_ltI, nI_eq, nI_1, nI_add, nI_not_neg, nI_is_pos, nI_m1, nI_z]))
  try change _ ∧ _
  first | rfl | (simp (disch := omega) only [nI_1, nI_add, nI_clamp] <;> first | done | rfl)
/-- in a run of turns -/
def svr (v : RT) (p : Int32) (a : Nat) : Nat → Bool
  | 0 => false
  | k + 1 => svr v p a k || decide (v (a + k) = p)
theorem svr_iff (v : RT) (p : Int32) (a : Nat) : ∀ n, svr v p a n = true ↔ ∃ u, a ≤ u ∧ u < a + n ∧ v u = p
  | 0 => by
    simp only [svr, Bool.false_eq_true, false_iff]
    rintro ⟨u, h1, h2, _⟩
    omega
  | n + 1 => by
    unfold svr
    rw [Bool.or_eq_true, svr_iff v p a n, decide_eq_true_eq]
    constructor
    · rintro (⟨u, h1, h2, h3⟩ | h1)
      · exact ⟨u, h1, by omega, h3⟩
      · exact ⟨a + n, by omega, by omega, h1⟩
    · rintro ⟨u, h1, h2, h3⟩
      by_cases e : u = a + n
      · subst e
        exact Or.inr h3
      · exact Or.inl ⟨u, h1, by omega, h3⟩
theorem svr_svo (o : OK s) (p : Int32) {d : Nat} (hd : d < 200) : svr v p (dF s d) (dF s (d + 1) - dF s d) = svo s v p d (-1) (zT s) := by
  have hT := o.T
  apply Bool.eq_iff_iff.mpr
  rw [svr_iff, svo_iff]
  have h1 := dF_mono o (show d ≤ d + 1 by omega) (by omega)
  have h2 := dF_le o (show d + 1 < 201 by omega)
  constructor
  · rintro ⟨u, a, b, e⟩
    exact ⟨u, by omega, fun z => (nI_m1 (by omega)).mp z, (on_day o (by omega) hd).mpr ⟨a, by omega⟩, e⟩
  · rintro ⟨u, a, _, b, e⟩
    have := (on_day o a hd).mp b
    exact ⟨u, this.1, by omega, e⟩
def mtN (s : ST) (v : RT) (p q : Nat) : Nat := cnt (fun d => svo s v (nI p) d (-1) (zT s) = true ∧ svo s v (nI q) d (-1) (zT s) = true) (zD s)
def bI (b : Bool) : Int32 := if b = true then 1 else 0
theorem bI_0 (b : Bool) : (bI b = 0) ↔ b = false := by cases b <;> decide
theorem r_Rota_daysTogether (R : RC s c v h) (o : OK s) {p q : Nat} (hp : p < zP s) (hq : q < zP s) : Run 0 j_Rota_daysTogether [.ref 45, .int (nI p), .int (nI q)] h (some (.int (nI (mtN s v p q)))) h := by
  have hT := o.T; have hP := o.P; have hK := o.K; have hD := o.D; have hO := o.O; have hQ := o.Q; have hL := o.L
  have lp : ∀ d, d ≤ zD s → ∀ x5 x6 x7, Wp 0 j_Rota_daysTogether 5 [.ref 45, .int (nI p), .int (nI q), .int (nI (cnt (fun d => svo s v (nI p) d (-1) (zT s) = true ∧ svo s v (nI q) d (-1) (zT s) = true) d)), .int (nI d), x5, x6, x7] [] h (fun v' h2 => v' = some (.int (nI (mtN s v p q))) ∧ h2 = h) := by
    refine up_ind ?_ (fun d hd ih => ?_)
    · intro x5 x6 x7
      repeat (first | (refine W1 rfl ?_; try refine Wp.norm (L' := [_, _, _, _, _, _, _, _]) rfl ?_) | refine brT (by first | assumption | decide | omega) ?_ | refine brF (by first | assumption | decide | omega) ?_ | refine brTn (by first | assumption | decide | omega) ?_ | refine brFn (by first | assumption | decide | omega) ?_ | refine And.intro (vp_lit (by decide)) ?_ | refine And.intro (vp_in_nI (by omega) (by decide)) ?_ | ((first | change (_ → _) ∧ (_ → _) | change vp_in _ _ ∧ _ | change ¬ _ ∧ _); simp (disch := omega) only [nI_clamp, nI_leI, nI_ltI, nI_eq, nI_1, nI_add, nI_not_neg, nI_is_pos, nI_m1, nI_z, R.dys]))
      try change _ ∧ _
      try first | exact ⟨rfl, rfl⟩ | exact ⟨Or.inr rfl, rfl, rfl⟩ | exact ⟨Or.inl rfl, rfl, rfl⟩ | exact ⟨trivial, trivial⟩ | exact ⟨rfl, trivial⟩ | exact ⟨Or.inr rfl, rfl, trivial⟩ | exact ⟨Or.inl rfl, rfl, trivial⟩
    · intro x5 x6 x7
      rw [cnt] at ih
      have hcd := cnt_le (fun d => svo s v (nI p) d (-1) (zT s) = true ∧ svo s v (nI q) d (-1) (zT s) = true) d
      have h1 := dF_mono o (show d ≤ d + 1 by omega) (by omega)
      have h2 := dF_le o (show d + 1 < 201 by omega)
      generalize hN : cnt (fun d => svo s v (nI p) d (-1) (zT s) = true ∧ svo s v (nI q) d (-1) (zT s) = true) d = N at *
      have inner : ∀ k, k ≤ dF s (d + 1) - dF s d → Wp 0 j_Rota_daysTogether 35 [.ref 45, .int (nI p), .int (nI q), .int (nI N), .int (nI d), .int (bI (svr v (nI p) (dF s d) k)), .int (bI (svr v (nI q) (dF s d) k)), .int (nI (dF s d + k))] [] h (fun v' h2 => v' = some (.int (nI (mtN s v p q))) ∧ h2 = h) := by
        refine up_ind ?_ (fun k hk ih2 => ?_)
        · rw [svr_svo o _ (by omega), svr_svo o _ (by omega), show dF s d + (dF s (d + 1) - dF s d) = dF s (d + 1) by omega]
          repeat (first | (refine W1 rfl ?_; try refine Wp.norm (L' := [_, _, _, _, _, _, _, _]) rfl ?_) | refine brT (by first | assumption | decide | omega) ?_ | refine brF (by first | assumption | decide | omega) ?_ | refine brTn (by first | assumption | decide | omega) ?_ | refine brFn (by first | assumption | decide | omega) ?_ | refine And.intro (vp_lit (by decide)) ?_ | refine And.intro (vp_in_nI (by omega) (by decide)) ?_ | ((first | change (_ → _) ∧ (_ → _) | change vp_in _ _ ∧ _ | change ¬ _ ∧ _); simp (disch := omega) only [nI_clamp, nI_leI, nI_ltI, nI_eq, nI_1, nI_add, nI_not_neg, nI_is_pos, nI_m1, nI_z, R.dfs, bI_0]))
          try change _ ∧ _
          refine ⟨fun a1 => ?_, fun a1 => ?_⟩
          · rw [if_neg (fun z => by rw [a1] at z; cases z.1)] at ih
            have ih := ih (.int (bI (svo s v (nI p) d (-1) (zT s)))) (.int (bI (svo s v (nI q) d (-1) (zT s)))) (.int (nI (dF s (d + 1))))
            repeat (first | refine Wp.at ih rfl rfl ?_ rfl | (refine W1 rfl ?_; try refine Wp.norm (L' := [_, _, _, _, _, _, _, _]) rfl ?_) | refine brT (by first | assumption | decide | omega) ?_ | refine brF (by first | assumption | decide | omega) ?_ | refine brTn (by first | assumption | decide | omega) ?_ | refine brFn (by first | assumption | decide | omega) ?_ | refine And.intro (vp_lit (by decide)) ?_ | refine And.intro (vp_in_nI (by omega) (by decide)) ?_ | ((first | change (_ → _) ∧ (_ → _) | change vp_in _ _ ∧ _ | change ¬ _ ∧ _); simp (disch := omega) only [nI_clamp, nI_leI, nI_ltI, nI_eq, nI_1, nI_add, nI_not_neg, nI_is_pos, nI_m1, nI_z]))
            try change _ ∧ _
            first | rfl | (simp (disch := omega) only [nI_1, nI_add, nI_clamp] <;> first | done | rfl)
          · repeat (first | (refine W1 rfl ?_; try refine Wp.norm (L' := [_, _, _, _, _, _, _, _]) rfl ?_) | refine brT (by first | assumption | decide | omega) ?_ | refine brF (by first | assumption | decide | omega) ?_ | refine brTn (by first | assumption | decide | omega) ?_ | refine brFn (by first | assumption | decide | omega) ?_ | refine And.intro (vp_lit (by decide)) ?_ | refine And.intro (vp_in_nI (by omega) (by decide)) ?_ | ((first | change (_ → _) ∧ (_ → _) | change vp_in _ _ ∧ _ | change ¬ _ ∧ _); simp (disch := omega) only [nI_clamp, nI_leI, nI_ltI, nI_eq, nI_1, nI_add, nI_not_neg, nI_is_pos, nI_m1, nI_z, bI_0]))
            try change _ ∧ _
            refine ⟨fun a2 => ?_, fun a2 => ?_⟩
            · rw [if_neg (fun z => by rw [a2] at z; cases z.2)] at ih
              have ih := ih (.int (bI (svo s v (nI p) d (-1) (zT s)))) (.int (bI (svo s v (nI q) d (-1) (zT s)))) (.int (nI (dF s (d + 1))))
              repeat (first | refine Wp.at ih rfl rfl ?_ rfl | (refine W1 rfl ?_; try refine Wp.norm (L' := [_, _, _, _, _, _, _, _]) rfl ?_) | refine brT (by first | assumption | decide | omega) ?_ | refine brF (by first | assumption | decide | omega) ?_ | refine brTn (by first | assumption | decide | omega) ?_ | refine brFn (by first | assumption | decide | omega) ?_ | refine And.intro (vp_lit (by decide)) ?_ | refine And.intro (vp_in_nI (by omega) (by decide)) ?_ | ((first | change (_ → _) ∧ (_ → _) | change vp_in _ _ ∧ _ | change ¬ _ ∧ _); simp (disch := omega) only [nI_clamp, nI_leI, nI_ltI, nI_eq, nI_1, nI_add, nI_not_neg, nI_is_pos, nI_m1, nI_z]))
              try change _ ∧ _
              first | rfl | (simp (disch := omega) only [nI_1, nI_add, nI_clamp] <;> first | done | rfl)
            · rw [if_pos ⟨by simpa using a1, by simpa using a2⟩] at ih
              have ih := ih (.int (bI (svo s v (nI p) d (-1) (zT s)))) (.int (bI (svo s v (nI q) d (-1) (zT s)))) (.int (nI (dF s (d + 1))))
              repeat (first | refine Wp.at ih rfl rfl ?_ rfl | (refine W1 rfl ?_; try refine Wp.norm (L' := [_, _, _, _, _, _, _, _]) rfl ?_) | refine brT (by first | assumption | decide | omega) ?_ | refine brF (by first | assumption | decide | omega) ?_ | refine brTn (by first | assumption | decide | omega) ?_ | refine brFn (by first | assumption | decide | omega) ?_ | refine And.intro (vp_lit (by decide)) ?_ | refine And.intro (vp_in_nI (by omega) (by decide)) ?_ | ((first | change (_ → _) ∧ (_ → _) | change vp_in _ _ ∧ _ | change ¬ _ ∧ _); simp (disch := omega) only [nI_clamp, nI_leI, nI_ltI, nI_eq, nI_1, nI_add, nI_not_neg, nI_is_pos, nI_m1, nI_z]))
              try change _ ∧ _
              first | rfl | (simp (disch := omega) only [nI_1, nI_add, nI_clamp] <;> first | done | rfl)
        · have e1 : ∀ r, svr v r (dF s d) (k + 1) = (svr v r (dF s d) k || decide (v (dF s d + k) = r)) := fun _ => rfl
          rw [e1, e1] at ih2
          have two : ∀ b, b = (svr v (nI p) (dF s d) k || decide (v (dF s d + k) = nI p)) → Wp 0 j_Rota_daysTogether 75 [.ref 45, .int (nI p), .int (nI q), .int (nI N), .int (nI d), .int (bI b), .int (bI (svr v (nI q) (dF s d) k)), .int (nI (dF s d + k))] [] h (fun v' h2 => v' = some (.int (nI (mtN s v p q))) ∧ h2 = h) := by
            intro b hb
            subst hb
            have ih := ih2
            repeat (first | (refine W1 rfl ?_; try refine Wp.norm (L' := [_, _, _, _, _, _, _, _]) rfl ?_) | refine brT (by first | assumption | decide | omega) ?_ | refine brF (by first | assumption | decide | omega) ?_ | refine brTn (by first | assumption | decide | omega) ?_ | refine brFn (by first | assumption | decide | omega) ?_ | refine And.intro (vp_lit (by decide)) ?_ | refine And.intro (vp_in_nI (by omega) (by decide)) ?_ | ((first | change (_ → _) ∧ (_ → _) | change vp_in _ _ ∧ _ | change ¬ _ ∧ _); simp (disch := omega) only [nI_clamp, nI_leI, nI_ltI, nI_eq, nI_1, nI_add, nI_not_neg, nI_is_pos, nI_m1, nI_z, bI_0]))
            try change _ ∧ _
            refine ⟨fun a1 => ?_, fun a1 => ?_⟩
            · rw [show svr v (nI q) (dF s d) k = true by simpa using a1] at ih ⊢
              repeat (first | refine Wp.at ih rfl rfl ?_ rfl | (refine W1 rfl ?_; try refine Wp.norm (L' := [_, _, _, _, _, _, _, _]) rfl ?_) | refine brT (by first | assumption | decide | omega) ?_ | refine brF (by first | assumption | decide | omega) ?_ | refine brTn (by first | assumption | decide | omega) ?_ | refine brFn (by first | assumption | decide | omega) ?_ | refine And.intro (vp_lit (by decide)) ?_ | refine And.intro (vp_in_nI (by omega) (by decide)) ?_ | ((first | change (_ → _) ∧ (_ → _) | change vp_in _ _ ∧ _ | change ¬ _ ∧ _); simp (disch := omega) only [nI_clamp, nI_leI, nI_ltI, nI_eq, nI_1, nI_add, nI_not_neg, nI_is_pos, nI_m1, nI_z]))
              try change _ ∧ _
              first | rfl | (simp (disch := omega) only [nI_1, nI_add, nI_clamp] <;> first | done | rfl)
            · rw [a1, Bool.false_or] at ih
              rw [a1]
              repeat (first | (refine W1 rfl ?_; try refine Wp.norm (L' := [_, _, _, _, _, _, _, _]) rfl ?_) | refine brT (by first | assumption | decide | omega) ?_ | refine brF (by first | assumption | decide | omega) ?_ | refine brTn (by first | assumption | decide | omega) ?_ | refine brFn (by first | assumption | decide | omega) ?_ | refine And.intro (vp_lit (by decide)) ?_ | refine And.intro (vp_in_nI (by omega) (by decide)) ?_ | ((first | change (_ → _) ∧ (_ → _) | change vp_in _ _ ∧ _ | change ¬ _ ∧ _); simp (disch := omega) only [nI_clamp, nI_leI, nI_ltI, nI_eq, nI_1, nI_add, nI_not_neg, nI_is_pos, nI_m1, nI_z, R.srv]))
              try change _ ∧ _
              refine ⟨fun a2 => ?_, fun a2 => ?_⟩
              · rw [show decide (v (dF s d + k) = nI q) = false by simpa using a2] at ih
                repeat (first | refine Wp.at ih rfl rfl ?_ rfl | (refine W1 rfl ?_; try refine Wp.norm (L' := [_, _, _, _, _, _, _, _]) rfl ?_) | refine brT (by first | assumption | decide | omega) ?_ | refine brF (by first | assumption | decide | omega) ?_ | refine brTn (by first | assumption | decide | omega) ?_ | refine brFn (by first | assumption | decide | omega) ?_ | refine And.intro (vp_lit (by decide)) ?_ | refine And.intro (vp_in_nI (by omega) (by decide)) ?_ | ((first | change (_ → _) ∧ (_ → _) | change vp_in _ _ ∧ _ | change ¬ _ ∧ _); simp (disch := omega) only [nI_clamp, nI_leI, nI_ltI, nI_eq, nI_1, nI_add, nI_not_neg, nI_is_pos, nI_m1, nI_z]))
                try change _ ∧ _
                first | rfl | (simp (disch := omega) only [nI_1, nI_add, nI_clamp] <;> first | done | rfl)
              · rw [show decide (v (dF s d + k) = nI q) = true by simpa using a2] at ih
                repeat (first | refine Wp.at ih rfl rfl ?_ rfl | (refine W1 rfl ?_; try refine Wp.norm (L' := [_, _, _, _, _, _, _, _]) rfl ?_) | refine brT (by first | assumption | decide | omega) ?_ | refine brF (by first | assumption | decide | omega) ?_ | refine brTn (by first | assumption | decide | omega) ?_ | refine brFn (by first | assumption | decide | omega) ?_ | refine And.intro (vp_lit (by decide)) ?_ | refine And.intro (vp_in_nI (by omega) (by decide)) ?_ | ((first | change (_ → _) ∧ (_ → _) | change vp_in _ _ ∧ _ | change ¬ _ ∧ _); simp (disch := omega) only [nI_clamp, nI_leI, nI_ltI, nI_eq, nI_1, nI_add, nI_not_neg, nI_is_pos, nI_m1, nI_z]))
                try change _ ∧ _
                first | rfl | (simp (disch := omega) only [nI_1, nI_add, nI_clamp] <;> first | done | rfl)
          repeat (first | (refine W1 rfl ?_; try refine Wp.norm (L' := [_, _, _, _, _, _, _, _]) rfl ?_) | refine brT (by first | assumption | decide | omega) ?_ | refine brF (by first | assumption | decide | omega) ?_ | refine brTn (by first | assumption | decide | omega) ?_ | refine brFn (by first | assumption | decide | omega) ?_ | refine And.intro (vp_lit (by decide)) ?_ | refine And.intro (vp_in_nI (by omega) (by decide)) ?_ | ((first | change (_ → _) ∧ (_ → _) | change vp_in _ _ ∧ _ | change ¬ _ ∧ _); simp (disch := omega) only [nI_clamp, nI_leI, nI_ltI, nI_eq, nI_1, nI_add, nI_not_neg, nI_is_pos, nI_m1, nI_z, R.dfs, bI_0]))
          try change _ ∧ _
          refine ⟨fun a1 => ?_, fun a1 => ?_⟩
          · have ih := two true (by rw [show svr v (nI p) (dF s d) k = true by simpa using a1]; rfl)
            repeat (first | refine Wp.at ih rfl rfl ?_ rfl | (refine W1 rfl ?_; try refine Wp.norm (L' := [_, _, _, _, _, _, _, _]) rfl ?_) | refine brT (by first | assumption | decide | omega) ?_ | refine brF (by first | assumption | decide | omega) ?_ | refine brTn (by first | assumption | decide | omega) ?_ | refine brFn (by first | assumption | decide | omega) ?_ | refine And.intro (vp_lit (by decide)) ?_ | refine And.intro (vp_in_nI (by omega) (by decide)) ?_ | ((first | change (_ → _) ∧ (_ → _) | change vp_in _ _ ∧ _ | change ¬ _ ∧ _); simp (disch := omega) only [nI_clamp, nI_leI, nI_ltI, nI_eq, nI_1, nI_add, nI_not_neg, nI_is_pos, nI_m1, nI_z]))
            try change _ ∧ _
            first | rfl | (simp (disch := omega) only [nI_1, nI_add, nI_clamp] <;> first | done | rfl)
          · repeat (first | (refine W1 rfl ?_; try refine Wp.norm (L' := [_, _, _, _, _, _, _, _]) rfl ?_) | refine brT (by first | assumption | decide | omega) ?_ | refine brF (by first | assumption | decide | omega) ?_ | refine brTn (by first | assumption | decide | omega) ?_ | refine brFn (by first | assumption | decide | omega) ?_ | refine And.intro (vp_lit (by decide)) ?_ | refine And.intro (vp_in_nI (by omega) (by decide)) ?_ | ((first | change (_ → _) ∧ (_ → _) | change vp_in _ _ ∧ _ | change ¬ _ ∧ _); simp (disch := omega) only [nI_clamp, nI_leI, nI_ltI, nI_eq, nI_1, nI_add, nI_not_neg, nI_is_pos, nI_m1, nI_z, R.srv]))
            try change _ ∧ _
            refine ⟨fun a2 => ?_, fun a2 => ?_⟩
            · have ih := two false (by rw [a1, show decide (v (dF s d + k) = nI p) = false by simpa using a2]; rfl)
              repeat (first | refine Wp.at ih rfl rfl ?_ rfl | (refine W1 rfl ?_; try refine Wp.norm (L' := [_, _, _, _, _, _, _, _]) rfl ?_) | refine brT (by first | assumption | decide | omega) ?_ | refine brF (by first | assumption | decide | omega) ?_ | refine brTn (by first | assumption | decide | omega) ?_ | refine brFn (by first | assumption | decide | omega) ?_ | refine And.intro (vp_lit (by decide)) ?_ | refine And.intro (vp_in_nI (by omega) (by decide)) ?_ | ((first | change (_ → _) ∧ (_ → _) | change vp_in _ _ ∧ _ | change ¬ _ ∧ _); simp (disch := omega) only [nI_clamp, nI_leI, nI_ltI, nI_eq, nI_1, nI_add, nI_not_neg, nI_is_pos, nI_m1, nI_z]))
              try change _ ∧ _
              first | rfl | (simp (disch := omega) only [nI_1, nI_add, nI_clamp] <;> first | done | rfl)
            · have ih := two true (by rw [show decide (v (dF s d + k) = nI p) = true by simpa using a2, Bool.or_true])
              repeat (first | refine Wp.at ih rfl rfl ?_ rfl | (refine W1 rfl ?_; try refine Wp.norm (L' := [_, _, _, _, _, _, _, _]) rfl ?_) | refine brT (by first | assumption | decide | omega) ?_ | refine brF (by first | assumption | decide | omega) ?_ | refine brTn (by first | assumption | decide | omega) ?_ | refine brFn (by first | assumption | decide | omega) ?_ | refine And.intro (vp_lit (by decide)) ?_ | refine And.intro (vp_in_nI (by omega) (by decide)) ?_ | ((first | change (_ → _) ∧ (_ → _) | change vp_in _ _ ∧ _ | change ¬ _ ∧ _); simp (disch := omega) only [nI_clamp, nI_leI, nI_ltI, nI_eq, nI_1, nI_add, nI_not_neg, nI_is_pos, nI_m1, nI_z]))
              try change _ ∧ _
              first | rfl | (simp (disch := omega) only [nI_1, nI_add, nI_clamp] <;> first | done | rfl)
      have ih := inner 0 (Nat.zero_le _)
      (refine W1 rfl ?_; try refine Wp.norm (L' := [_, _, _, _, _, _, _, _]) rfl ?_)
      repeat (first | refine Wp.at ih rfl rfl ?_ rfl | (refine W1 rfl ?_; try refine Wp.norm (L' := [_, _, _, _, _, _, _, _]) rfl ?_) | refine brT (by first | assumption | decide | omega) ?_ | refine brF (by first | assumption | decide | omega) ?_ | refine brTn (by first | assumption | decide | omega) ?_ | refine brFn (by first | assumption | decide | omega) ?_ | refine And.intro (vp_lit (by decide)) ?_ | refine And.intro (vp_in_nI (by omega) (by decide)) ?_ | ((first | change (_ → _) ∧ (_ → _) | change vp_in _ _ ∧ _ | change ¬ _ ∧ _); simp (disch := omega) only [nI_clamp, nI_leI, nI_ltI, nI_eq, nI_1, nI_add, nI_not_neg, nI_is_pos, nI_m1, nI_z, R.dys]))
      try change _ ∧ _
      first | rfl | (simp (disch := omega) only [nI_1, nI_add, nI_clamp, R.dfs] <;> first | done | rfl)
  refine Run.of rfl ?_
  refine Wp.norm (L' := [_, _, _, _, _, _, _, _]) rfl ?_
  have ih := lp 0 (Nat.zero_le _) .null .null .null
  repeat (first | refine Wp.at ih rfl rfl ?_ rfl | (refine W1 rfl ?_; try refine Wp.norm (L' := [_, _, _, _, _, _, _, _]) rfl ?_) | refine brT (by first | assumption | decide | omega) ?_ | refine brF (by first | assumption | decide | omega) ?_ | refine brTn (by first | assumption | decide | omega) ?_ | refine brFn (by first | assumption | decide | omega) ?_ | refine And.intro (vp_lit (by decide)) ?_ | refine And.intro (vp_in_nI (by omega) (by decide)) ?_ | ((first | change (_ → _) ∧ (_ → _) | change vp_in _ _ ∧ _ | change ¬ _ ∧ _); simp (disch := omega) only [nI_clamp, nI_leI, nI_ltI, nI_eq, nI_1, nI_add, nI_not_neg, nI_is_pos, nI_m1, nI_z]))
  try change _ ∧ _
  first | rfl | (simp (disch := omega) only [nI_1, nI_add, nI_clamp] <;> first | done | rfl)
end MEET
