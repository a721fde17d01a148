/-! ===== WHO COULD; BARS OF THE CLASS ===== -/
section ABLE
variable {s : ST} {c v : RT} {h : HP}
theorem tb_lt {m n q : Nat} (hm : m < 2 ^ n) (hq : m.testBit q = true) : q < n := by
  refine Nat.lt_of_not_le fun z => ?_
  have := Nat.testBit_lt_two_pow (Nat.lt_of_lt_of_le hm (Nat.pow_le_pow_right (by decide) z))
  rw [this] at hq
  cases hq
theorem p16 {n : Nat} (hn : n ≤ 16) {m : Nat} (hm : m < 2 ^ n) : m < 65536 := Nat.lt_of_lt_of_le hm (Nat.pow_le_pow_right (by decide) hn : 2 ^ n ≤ 2 ^ 16)
theorem pA_symm (o : OK s) {p q : Nat} (hp : p < zP s) (hq : q < zP s) : (pA s p).testBit q = (pA s q).testBit p := by
  apply Bool.eq_iff_iff.mpr
  rw [o.aps hp hq, o.aps hq hp]
  constructor
  · rintro ⟨r, h1, h2, h3⟩; exact ⟨r, h1, h2, h3.symm⟩
  · rintro ⟨r, h1, h2, h3⟩; exact ⟨r, h1, h2, h3.symm⟩
theorem w_Rota_apartFrom (R : RC s c v h) (o : OK s) (x : Int32) : ∃ w h', Run 0 j_Rota_apartFrom [.ref 45, .int x] h w h' ∧ ∃ y, w = some (.int y) ∧ h' = h ∧ ∀ q, q < 32 → (bt y q = true ↔ ∃ p, p < zP s ∧ bt x p = true ∧ (pA s p).testBit q = true) := by
  have hT := o.T; have hP := o.P; have hK := o.K; have hD := o.D; have hO := o.O; have hQ := o.Q; have hL := o.L
  refine Run.ofP rfl ?_
  refine Wp.norm (L' := [_, _, _, _]) rfl ?_
  have lp : ∀ i, i ≤ zP s → ∀ y, (∀ q, q < 32 → (bt y q = true ↔ ∃ p, p < i ∧ bt x p = true ∧ (pA s p).testBit q = true)) → Wp 0 j_Rota_apartFrom 4 [.ref 45, .int x, .int y, .int (nI i)] [] h (fun w h' => ∃ y, w = some (.int y) ∧ h' = h ∧ ∀ q, q < 32 → (bt y q = true ↔ ∃ p, p < zP s ∧ bt x p = true ∧ (pA s p).testBit q = true)) := by
    refine up_ind ?_ (fun i hi ih => ?_)
    · intro y B
      repeat (first | (refine W1 rfl ?_; try refine Wp.norm (L' := [_, _, _, _]) rfl ?_) | refine brT (by first | assumption | decide | omega) ?_ | refine brF (by first | assumption | decide | omega) ?_ | refine brTn (by first | assumption | decide | omega) ?_ | refine brFn (by first | assumption | decide | omega) ?_ | ((first | change (_ → _) ∧ (_ → _) | change vp_in _ _ ∧ _ | change ¬ _ ∧ _); simp (disch := omega) only [nI_clamp, nI_leI, nI_ltI, nI_eq, nI_1, nI_add, nI_not_neg, nI_is_pos, nI_m1, nI_z, R.P]) | refine And.intro (vp_in_nI (by omega) (by decide)) ?_ | refine And.intro (vp_lit (by decide)) ?_)
      try change _ ∧ _
      exact ⟨y, rfl, rfl, B⟩
    · intro y B
      have hA := p16 hP (o.apt hi)
      repeat (first | (refine W1 rfl ?_; try refine Wp.norm (L' := [_, _, _, _]) rfl ?_) | refine brT (by first | assumption | decide | omega) ?_ | refine brF (by first | assumption | decide | omega) ?_ | refine brTn (by first | assumption | decide | omega) ?_ | refine brFn (by first | assumption | decide | omega) ?_ | ((first | change (_ → _) ∧ (_ → _) | change vp_in _ _ ∧ _ | change ¬ _ ∧ _); simp (disch := omega) only [nI_clamp, nI_leI, nI_ltI, nI_eq, nI_1, nI_add, nI_not_neg, nI_is_pos, nI_m1, nI_z, R.P]) | refine And.intro (vp_in_nI (by omega) (by decide)) ?_ | refine And.intro (vp_lit (by decide)) ?_)
      try change _ ∧ _
      rw [shr1 x (by omega)]
      cases hb : bt x i with
      | false =>
        have ih := ih y (fun q hq => by
          rw [B q hq]
          constructor
          · rintro ⟨p, a1, a2⟩; exact ⟨p, by omega, a2⟩
          · rintro ⟨p, a1, a2, a3⟩
            by_cases e : p = i
            · subst e; rw [hb] at a2; cases a2
            · exact ⟨p, by omega, a2, a3⟩)
        refine brT rfl ?_
        repeat (first | refine Wp.at ih rfl rfl ?_ rfl | (refine W1 rfl ?_; try refine Wp.norm (L' := [_, _, _, _]) rfl ?_) | refine brT (by first | assumption | decide | omega) ?_ | refine brF (by first | assumption | decide | omega) ?_ | refine brTn (by first | assumption | decide | omega) ?_ | refine brFn (by first | assumption | decide | omega) ?_ | ((first | change (_ → _) ∧ (_ → _) | change vp_in _ _ ∧ _ | change ¬ _ ∧ _); simp (disch := omega) only [nI_clamp, nI_leI, nI_ltI, nI_eq, nI_1, nI_add, nI_not_neg, nI_is_pos, nI_m1, nI_z]) | refine And.intro (vp_in_nI (by omega) (by decide)) ?_ | refine And.intro (vp_lit (by decide)) ?_)
        try change _ ∧ _
        first | rfl | (simp (disch := omega) only [nI_1, nI_add, nI_clamp] <;> first | done | rfl)
      | true =>
        have ih := ih (y ||| nI (pA s i)) (fun q hq => by
          rw [bt_or, bt_nI (by omega), Bool.or_eq_true, B q hq]
          constructor
          · rintro (⟨p, a1, a2⟩ | a1)
            · exact ⟨p, by omega, a2⟩
            · exact ⟨i, by omega, hb, a1⟩
          · rintro ⟨p, a1, a2, a3⟩
            by_cases e : p = i
            · subst e; exact Or.inr a3
            · exact Or.inl ⟨p, by omega, a2, a3⟩)
        refine brF (by decide) ?_
        repeat (first | refine Wp.at ih rfl rfl ?_ rfl | (refine W1 rfl ?_; try refine Wp.norm (L' := [_, _, _, _]) rfl ?_) | refine brT (by first | assumption | decide | omega) ?_ | refine brF (by first | assumption | decide | omega) ?_ | refine brTn (by first | assumption | decide | omega) ?_ | refine brFn (by first | assumption | decide | omega) ?_ | ((first | change (_ → _) ∧ (_ → _) | change vp_in _ _ ∧ _ | change ¬ _ ∧ _); simp (disch := omega) only [nI_clamp, nI_leI, nI_ltI, nI_eq, nI_1, nI_add, nI_not_neg, nI_is_pos, nI_m1, nI_z]) | refine And.intro (vp_in_nI (by omega) (by decide)) ?_ | refine And.intro (vp_lit (by decide)) ?_)
        try change _ ∧ _
        first | rfl | (simp (disch := omega) only [nI_1, nI_add, nI_clamp, R.apt] <;> first | done | rfl)
  have ih := lp 0 (Nat.zero_le _) 0 (fun q hq => by
    rw [bt_zero]
    simp)
  repeat (first | refine Wp.at ih rfl rfl ?_ rfl | (refine W1 rfl ?_; try refine Wp.norm (L' := [_, _, _, _]) rfl ?_) | refine brT (by first | assumption | decide | omega) ?_ | refine brF (by first | assumption | decide | omega) ?_ | refine brTn (by first | assumption | decide | omega) ?_ | refine brFn (by first | assumption | decide | omega) ?_ | ((first | change (_ → _) ∧ (_ → _) | change vp_in _ _ ∧ _ | change ¬ _ ∧ _); simp (disch := omega) only [nI_clamp, nI_leI, nI_ltI, nI_eq, nI_1, nI_add, nI_not_neg, nI_is_pos, nI_m1, nI_z]) | refine And.intro (vp_in_nI (by omega) (by decide)) ?_ | refine And.intro (vp_lit (by decide)) ?_)
  try change _ ∧ _
  first | rfl | (simp (disch := omega) only [nI_1, nI_add, nI_clamp] <;> first | done | rfl)
theorem w_Rota_ableFor (R : RC s c v h) (o : OK s) (ro : RO s c v) {t : Nat} (ht : t < zT s) : ∃ x, Run 2 j_Rota_ableFor [.ref 45, .int (nI t)] h (some (.int x)) h ∧ ∀ q, q < 32 → bt x q = ablB s v t q := by
  have hT := o.T; have hP := o.P; have hK := o.K; have hD := o.D; have hO := o.O; have hQ := o.Q; have hL := o.L
  have hM := o.msk ht
  have hM16 := o.msk16 ht
  obtain ⟨_, _, r1, x1, rfl, rfl, B1⟩ := w_Rota_othersThatDay R o ro ht
  obtain ⟨_, _, r2, x2, rfl, e2, B2⟩ := w_Rota_restingFor R o ro ht
  obtain ⟨_, _, r3, x3, rfl, e3, B3⟩ := w_Rota_apartFrom R o x1
  subst e2
  rw [e3] at r3
  refine ⟨((nI (tM s t) &&& (x1 ^^^ (-1))) &&& (x2 ^^^ (-1))) &&& (x3 ^^^ (-1)), ?_, fun q hq => ?_⟩
  · refine Run.of rfl ?_
    refine Wp.norm (L' := [_, _, _]) rfl ?_
    repeat (first | (refine W1 rfl ?_; try refine Wp.norm (L' := [_, _, _]) rfl ?_) | refine brT (by first | assumption | decide | omega) ?_ | refine brF (by first | assumption | decide | omega) ?_ | refine brTn (by first | assumption | decide | omega) ?_ | refine brFn (by first | assumption | decide | omega) ?_ | ((first | change (_ → _) ∧ (_ → _) | change vp_in _ _ ∧ _ | change ¬ _ ∧ _); simp (disch := omega) only [nI_clamp, nI_leI, nI_ltI, nI_eq, nI_1, nI_add, nI_not_neg, nI_is_pos, nI_m1, nI_z]) | refine And.intro (vp_in_nI (by omega) (by decide)) ?_ | refine And.intro (vp_lit (by decide)) ?_)
    try change _ ∧ _
    refine Cl.of r1 (by decide) ?_
    repeat (first | (refine W1 rfl ?_; try refine Wp.norm (L' := [_, _, _]) rfl ?_) | refine brT (by first | assumption | decide | omega) ?_ | refine brF (by first | assumption | decide | omega) ?_ | refine brTn (by first | assumption | decide | omega) ?_ | refine brFn (by first | assumption | decide | omega) ?_ | ((first | change (_ → _) ∧ (_ → _) | change vp_in _ _ ∧ _ | change ¬ _ ∧ _); simp (disch := omega) only [nI_clamp, nI_leI, nI_ltI, nI_eq, nI_1, nI_add, nI_not_neg, nI_is_pos, nI_m1, nI_z, R.msk]) | refine And.intro (vp_in_nI (by omega) (by decide)) ?_ | refine And.intro (vp_lit (by decide)) ?_)
    try change _ ∧ _
    refine Cl.of r2 (by decide) ?_
    repeat (first | (refine W1 rfl ?_; try refine Wp.norm (L' := [_, _, _]) rfl ?_) | refine brT (by first | assumption | decide | omega) ?_ | refine brF (by first | assumption | decide | omega) ?_ | refine brTn (by first | assumption | decide | omega) ?_ | refine brFn (by first | assumption | decide | omega) ?_ | ((first | change (_ → _) ∧ (_ → _) | change vp_in _ _ ∧ _ | change ¬ _ ∧ _); simp (disch := omega) only [nI_clamp, nI_leI, nI_ltI, nI_eq, nI_1, nI_add, nI_not_neg, nI_is_pos, nI_m1, nI_z]) | refine And.intro (vp_in_nI (by omega) (by decide)) ?_ | refine And.intro (vp_lit (by decide)) ?_)
    try change _ ∧ _
    refine Cl.of r3 (by decide) ?_
    repeat (first | (refine W1 rfl ?_; try refine Wp.norm (L' := [_, _, _]) rfl ?_) | refine brT (by first | assumption | decide | omega) ?_ | refine brF (by first | assumption | decide | omega) ?_ | refine brTn (by first | assumption | decide | omega) ?_ | refine brFn (by first | assumption | decide | omega) ?_ | ((first | change (_ → _) ∧ (_ → _) | change vp_in _ _ ∧ _ | change ¬ _ ∧ _); simp (disch := omega) only [nI_clamp, nI_leI, nI_ltI, nI_eq, nI_1, nI_add, nI_not_neg, nI_is_pos, nI_m1, nI_z]) | refine And.intro (vp_in_nI (by omega) (by decide)) ?_ | refine And.intro (vp_lit (by decide)) ?_)
    try change _ ∧ _
    try simp (disch := omega) only [nI_clamp, nI_leI, nI_ltI, nI_eq, nI_1, nI_add, nI_not_neg, nI_is_pos, nI_m1, nI_z, R.msk]
    try first | exact ⟨rfl, rfl⟩ | exact ⟨Or.inr rfl, rfl, rfl⟩ | exact ⟨Or.inl rfl, rfl, rfl⟩ | exact ⟨trivial, trivial⟩ | exact ⟨rfl, trivial⟩ | exact ⟨Or.inr rfl, rfl, trivial⟩ | exact ⟨Or.inl rfl, rfl, trivial⟩
  · rw [bt_and, bt_and, bt_and, bt_not _ hq, bt_not _ hq, bt_not _ hq, bt_nI (by omega), B1 q hq, B2 q hq]
    unfold ablB bIf
    by_cases hqP : q < zP s
    · have e : bt x3 q = apB s v q t := by
        apply Bool.eq_iff_iff.mpr
        rw [B3 q hq]
        unfold apB
        rw [anyB_iff]
        simp only [Bool.and_eq_true]
        constructor
        · rintro ⟨p, a1, a2, a3⟩
          rw [B1 p (by omega)] at a2
          exact ⟨p, a1, by rw [pA_symm o hqP a1]; exact a3, a2⟩
        · rintro ⟨p, a1, a2, a3⟩
          exact ⟨p, a1, by rw [B1 p (by omega)]; exact a3, by rw [pA_symm o a1 hqP]; exact a2⟩
      rw [e]
      cases (tM s t).testBit q <;> cases oth s v q t <;> cases rsB s v q t <;> cases apB s v q t <;> simp [hqP]
    · have : (tM s t).testBit q = false := by
        cases hb : (tM s t).testBit q with
        | false => rfl
        | true => exact absurd (tb_lt hM hb) hqP
      rw [this]
      simp [hqP]
theorem bIf_2 {t p : Nat} (h1 : (tM s t).testBit p = false) : bIf s v t p = 2 := by unfold bIf; rw [if_pos h1]
theorem bIf_3 {t p : Nat} (h1 : (tM s t).testBit p = true) (h2 : oth s v p t = true) : bIf s v t p = 3 := by unfold bIf; rw [h1, if_neg (by decide), if_pos h2]
theorem bIf_4 {t p : Nat} (h1 : (tM s t).testBit p = true) (h2 : oth s v p t = false) (h3 : rsB s v p t = true) : bIf s v t p = 4 := by unfold bIf; rw [h1, if_neg (by decide), h2, if_neg (by decide), if_pos h3]
theorem bIf_5 {t p : Nat} (h1 : (tM s t).testBit p = true) (h2 : oth s v p t = false) (h3 : rsB s v p t = false) (h4 : apB s v p t = true) : bIf s v t p = 5 := by unfold bIf; rw [h1, if_neg (by decide), h2, if_neg (by decide), h3, if_neg (by decide), if_pos h4]
theorem bIf_0 {t p : Nat} (h1 : (tM s t).testBit p = true) (h2 : oth s v p t = false) (h3 : rsB s v p t = false) (h4 : apB s v p t = false) : bIf s v t p = 0 := by unfold bIf; rw [h1, if_neg (by decide), h2, if_neg (by decide), h3, if_neg (by decide), h4, if_neg (by decide)]
theorem bOf_no {t : Nat} (hv : v t = -1) : bOf s v t = 1 := by unfold bOf; rw [if_pos hv]
theorem bOf_ne {t p : Nat} (hp : p < 2 ^ 31) (hv : v t = nI p) (hb : ¬ bIf s v t p = 0) : bOf s v t = bIf s v t p := by
  unfold bOf
  rw [hv, if_neg (fun z => (nI_m1 hp).mp z), nI_clamp hp, if_neg hb]
theorem bOf_eq {t p : Nat} (hp : p < 2 ^ 31) (hv : v t = nI p) (hb : bIf s v t p = 0) : bOf s v t = if sev s t = true ∧ bsB s v p t = true then 6 else 0 := by
  unfold bOf
  rw [hv, if_neg (fun z => (nI_m1 hp).mp z), nI_clamp hp, if_pos hb]
theorem r_Rota_barOf (R : RC s c v h) (o : OK s) (ro : RO s c v) {t : Nat} (ht : t < zT s) : Run 2 j_Rota_barOf [.ref 45, .int (nI t)] h (some (.int (nI (bOf s v t)))) h := by
  have hT := o.T; have hP := o.P; have hK := o.K; have hD := o.D; have hO := o.O; have hQ := o.Q; have hL := o.L
  have hd := o.day ht
  have hM16 := o.msk16 ht
  rcases ro.vv ht with hv | ⟨p, hp, hv⟩
  · rw [bOf_no hv]
    refine Run.of rfl ?_
    refine Wp.norm (L' := [_, _, _, _, _, _]) rfl ?_
    repeat (first | (refine W1 rfl ?_; try refine Wp.norm (L' := [_, _, _, _, _, _]) rfl ?_) | refine brT (by first | assumption | decide | omega) ?_ | refine brF (by first | assumption | decide | omega) ?_ | refine brTn (by first | assumption | decide | omega) ?_ | refine brFn (by first | assumption | decide | omega) ?_ | ((first | change (_ → _) ∧ (_ → _) | change vp_in _ _ ∧ _ | change ¬ _ ∧ _); simp (disch := omega) only [nI_clamp, nI_leI, nI_ltI, nI_eq, nI_1, nI_add, nI_not_neg, nI_is_pos, nI_m1, nI_z, R.srv, hv]) | refine And.intro (vp_in_nI (by omega) (by decide)) ?_ | refine And.intro (vp_lit (by decide)) ?_)
    try change _ ∧ _
    try first | exact ⟨rfl, rfl⟩ | exact ⟨Or.inr rfl, rfl, rfl⟩ | exact ⟨Or.inl rfl, rfl, rfl⟩ | exact ⟨trivial, trivial⟩ | exact ⟨rfl, trivial⟩ | exact ⟨Or.inr rfl, rfl, trivial⟩ | exact ⟨Or.inl rfl, rfl, trivial⟩
  · have hA := o.apt hp
    have hA16 := p16 hP hA
    have hB := o.bsd hp
    have hB16 := p16 hP hB
    have h1 := dF_mono o (show tD s t ≤ tD s t + 1 by omega) (by omega)
    have h2 := dF_le o (show tD s t + 1 < 201 by omega)
    obtain ⟨_, _, r1, x1, rfl, rfl, B1⟩ := w_Rota_othersThatDay R o ro ht
    refine Run.of rfl ?_
    refine Wp.norm (L' := [_, _, _, _, _, _]) rfl ?_
    repeat (first | (refine W1 rfl ?_; try refine Wp.norm (L' := [_, _, _, _, _, _]) rfl ?_) | refine brT (by first | assumption | decide | omega) ?_ | refine brF (by first | assumption | decide | omega) ?_ | refine brTn (by first | assumption | decide | omega) ?_ | refine brFn (by first | assumption | decide | omega) ?_ | ((first | change (_ → _) ∧ (_ → _) | change vp_in _ _ ∧ _ | change ¬ _ ∧ _); simp (disch := omega) only [nI_clamp, nI_leI, nI_ltI, nI_eq, nI_1, nI_add, nI_not_neg, nI_is_pos, nI_m1, nI_z, R.srv, hv, R.msk, and_shl, bt_nI]) | refine And.intro (vp_in_nI (by omega) (by decide)) ?_ | refine And.intro (vp_lit (by decide)) ?_)
    try change _ ∧ _
    refine ⟨fun q1 => ?_, fun q1 => ?_⟩
    · have q1 : (tM s t).testBit p = true := by simpa using q1
      repeat (first | (refine W1 rfl ?_; try refine Wp.norm (L' := [_, _, _, _, _, _]) rfl ?_) | refine brT (by first | assumption | decide | omega) ?_ | refine brF (by first | assumption | decide | omega) ?_ | refine brTn (by first | assumption | decide | omega) ?_ | refine brFn (by first | assumption | decide | omega) ?_ | ((first | change (_ → _) ∧ (_ → _) | change vp_in _ _ ∧ _ | change ¬ _ ∧ _); simp (disch := omega) only [nI_clamp, nI_leI, nI_ltI, nI_eq, nI_1, nI_add, nI_not_neg, nI_is_pos, nI_m1, nI_z]) | refine And.intro (vp_in_nI (by omega) (by decide)) ?_ | refine And.intro (vp_lit (by decide)) ?_)
      try change _ ∧ _
      refine Cl.of r1 (by decide) ?_
      repeat (first | (refine W1 rfl ?_; try refine Wp.norm (L' := [_, _, _, _, _, _]) rfl ?_) | refine brT (by first | assumption | decide | omega) ?_ | refine brF (by first | assumption | decide | omega) ?_ | refine brTn (by first | assumption | decide | omega) ?_ | refine brFn (by first | assumption | decide | omega) ?_ | ((first | change (_ → _) ∧ (_ → _) | change vp_in _ _ ∧ _ | change ¬ _ ∧ _); simp (disch := omega) only [nI_clamp, nI_leI, nI_ltI, nI_eq, nI_1, nI_add, nI_not_neg, nI_is_pos, nI_m1, nI_z, and_shl, B1]) | refine And.intro (vp_in_nI (by omega) (by decide)) ?_ | refine And.intro (vp_lit (by decide)) ?_)
      try change _ ∧ _
      refine ⟨fun q2 => ?_, fun q2 => ?_⟩
      · repeat (first | (refine W1 rfl ?_; try refine Wp.norm (L' := [_, _, _, _, _, _]) rfl ?_) | refine brT (by first | assumption | decide | omega) ?_ | refine brF (by first | assumption | decide | omega) ?_ | refine brTn (by first | assumption | decide | omega) ?_ | refine brFn (by first | assumption | decide | omega) ?_ | ((first | change (_ → _) ∧ (_ → _) | change vp_in _ _ ∧ _ | change ¬ _ ∧ _); simp (disch := omega) only [nI_clamp, nI_leI, nI_ltI, nI_eq, nI_1, nI_add, nI_not_neg, nI_is_pos, nI_m1, nI_z]) | refine And.intro (vp_in_nI (by omega) (by decide)) ?_ | refine And.intro (vp_lit (by decide)) ?_)
        try change _ ∧ _
        refine Cl.of (r_Rota_isResting R o hp ht) (by decide) ?_
        cases q3 : rsB s v p t with
        | true =>
          repeat (first | (refine W1 rfl ?_; try refine Wp.norm (L' := [_, _, _, _, _, _]) rfl ?_) | refine brT (by first | assumption | decide | omega) ?_ | refine brF (by first | assumption | decide | omega) ?_ | refine brTn (by first | assumption | decide | omega) ?_ | refine brFn (by first | assumption | decide | omega) ?_ | ((first | change (_ → _) ∧ (_ → _) | change vp_in _ _ ∧ _ | change ¬ _ ∧ _); simp (disch := omega) only [nI_clamp, nI_leI, nI_ltI, nI_eq, nI_1, nI_add, nI_not_neg, nI_is_pos, nI_m1, nI_z]) | refine And.intro (vp_in_nI (by omega) (by decide)) ?_ | refine And.intro (vp_lit (by decide)) ?_)
          try change _ ∧ _
          rw [bOf_ne (by omega) hv (by rw [bIf_4 q1 q2 q3]; decide), bIf_4 q1 q2 q3]
          try first | exact ⟨rfl, rfl⟩ | exact ⟨Or.inr rfl, rfl, rfl⟩ | exact ⟨Or.inl rfl, rfl, rfl⟩ | exact ⟨trivial, trivial⟩ | exact ⟨rfl, trivial⟩ | exact ⟨Or.inr rfl, rfl, trivial⟩ | exact ⟨Or.inl rfl, rfl, trivial⟩
        | false =>
          have ea : (nI (pA s p) &&& x1 = 0) ↔ apB s v p t = false := by
            rw [and_zero]
            constructor
            · intro z
              cases e : apB s v p t with
              | false => rfl
              | true =>
                unfold apB at e
                rw [anyB_iff] at e
                obtain ⟨q, a1, a2⟩ := e
                rw [Bool.and_eq_true] at a2
                have := z q (by omega) (by rw [bt_nI (by omega)]; exact a2.1)
                rw [B1 q (by omega), a2.2] at this
                cases this
            · intro e q hq hb
              rw [bt_nI (by omega)] at hb
              have hqP := tb_lt hA hb
              rw [B1 q hq]
              cases e2 : oth s v q t with
              | false => rfl
              | true =>
                have : apB s v p t = true := (anyB_iff _ _).mpr ⟨q, hqP, by rw [hb, e2]; rfl⟩
                rw [this] at e
                cases e
          repeat (first | (refine W1 rfl ?_; try refine Wp.norm (L' := [_, _, _, _, _, _]) rfl ?_) | refine brT (by first | assumption | decide | omega) ?_ | refine brF (by first | assumption | decide | omega) ?_ | refine brTn (by first | assumption | decide | omega) ?_ | refine brFn (by first | assumption | decide | omega) ?_ | ((first | change (_ → _) ∧ (_ → _) | change vp_in _ _ ∧ _ | change ¬ _ ∧ _); simp (disch := omega) only [nI_clamp, nI_leI, nI_ltI, nI_eq, nI_1, nI_add, nI_not_neg, nI_is_pos, nI_m1, nI_z, R.apt, ea]) | refine And.intro (vp_in_nI (by omega) (by decide)) ?_ | refine And.intro (vp_lit (by decide)) ?_)
          try change _ ∧ _
          refine ⟨fun q4 => ?_, fun q4 => ?_⟩
          · have b0 := bIf_0 q1 q2 q3 q4
            repeat (first | (refine W1 rfl ?_; try refine Wp.norm (L' := [_, _, _, _, _, _]) rfl ?_) | refine brT (by first | assumption | decide | omega) ?_ | refine brF (by first | assumption | decide | omega) ?_ | refine brTn (by first | assumption | decide | omega) ?_ | refine brFn (by first | assumption | decide | omega) ?_ | ((first | change (_ → _) ∧ (_ → _) | change vp_in _ _ ∧ _ | change ¬ _ ∧ _); simp (disch := omega) only [nI_clamp, nI_leI, nI_ltI, nI_eq, nI_1, nI_add, nI_not_neg, nI_is_pos, nI_m1, nI_z]) | refine And.intro (vp_in_nI (by omega) (by decide)) ?_ | refine And.intro (vp_lit (by decide)) ?_)
            try change _ ∧ _
            refine Cl.of (r_Rota_dayEnd R o ht) (by decide) ?_
            repeat (first | (refine W1 rfl ?_; try refine Wp.norm (L' := [_, _, _, _, _, _]) rfl ?_) | refine brT (by first | assumption | decide | omega) ?_ | refine brF (by first | assumption | decide | omega) ?_ | refine brTn (by first | assumption | decide | omega) ?_ | refine brFn (by first | assumption | decide | omega) ?_ | ((first | change (_ → _) ∧ (_ → _) | change vp_in _ _ ∧ _ | change ¬ _ ∧ _); simp (disch := omega) only [nI_clamp, nI_leI, nI_ltI, nI_eq, nI_1, nI_add, nI_not_neg, nI_is_pos, nI_m1, nI_z]) | refine And.intro (vp_in_nI (by omega) (by decide)) ?_ | refine And.intro (vp_lit (by decide)) ?_)
            try change _ ∧ _
            refine Cl.of (r_Rota_dayStart R o ht) (by decide) ?_
            have eb : (nI (pB s p) &&& (x1 ^^^ (-1)) = 0) ↔ bsB s v p t = false := by
              rw [and_zero]
              constructor
              · intro z
                cases e : bsB s v p t with
                | false => rfl
                | true =>
                  unfold bsB at e
                  rw [anyB_iff] at e
                  obtain ⟨q, a1, a2⟩ := e
                  rw [Bool.and_eq_true] at a2
                  have := z q (by omega) (by rw [bt_nI (by omega)]; exact a2.1)
                  rw [bt_not _ (by omega), B1 q (by omega), a2.2] at this
                  cases this
              · intro e q hq hb
                rw [bt_nI (by omega)] at hb
                have hqP := tb_lt hB hb
                rw [bt_not _ hq, B1 q hq]
                cases e2 : oth s v q t with
                | true => rfl
                | false =>
                  have : bsB s v p t = true := (anyB_iff _ _).mpr ⟨q, hqP, by rw [hb, e2]; rfl⟩
                  rw [this] at e
                  cases e
            rw [bOf_eq (by omega) hv b0]
            repeat (first | (refine W1 rfl ?_; try refine Wp.norm (L' := [_, _, _, _, _, _]) rfl ?_) | refine brT (by first | assumption | decide | omega) ?_ | refine brF (by first | assumption | decide | omega) ?_ | refine brTn (by first | assumption | decide | omega) ?_ | refine brFn (by first | assumption | decide | omega) ?_ | ((first | change (_ → _) ∧ (_ → _) | change vp_in _ _ ∧ _ | change ¬ _ ∧ _); simp (disch := omega) only [nI_clamp, nI_leI, nI_ltI, nI_eq, nI_1, nI_add, nI_not_neg, nI_is_pos, nI_m1, nI_z, pk_sub, show (1 : Int32) = nI 1 from rfl]) | refine And.intro (vp_in_nI (by omega) (by decide)) ?_ | refine And.intro (vp_lit (by decide)) ?_)
            try change _ ∧ _
            refine ⟨fun q5 => ?_, fun q5 => ?_⟩
            · repeat (first | (refine W1 rfl ?_; try refine Wp.norm (L' := [_, _, _, _, _, _]) rfl ?_) | refine brT (by first | assumption | decide | omega) ?_ | refine brF (by first | assumption | decide | omega) ?_ | refine brTn (by first | assumption | decide | omega) ?_ | refine brFn (by first | assumption | decide | omega) ?_ | ((first | change (_ → _) ∧ (_ → _) | change vp_in _ _ ∧ _ | change ¬ _ ∧ _); simp (disch := omega) only [nI_clamp, nI_leI, nI_ltI, nI_eq, nI_1, nI_add, nI_not_neg, nI_is_pos, nI_m1, nI_z]) | refine And.intro (vp_in_nI (by omega) (by decide)) ?_ | refine And.intro (vp_lit (by decide)) ?_)
              try change _ ∧ _
              rw [if_neg (fun z => by have := z.1; unfold sev at this; simp at this; omega)]
              try first | exact ⟨rfl, rfl⟩ | exact ⟨Or.inr rfl, rfl, rfl⟩ | exact ⟨Or.inl rfl, rfl, rfl⟩ | exact ⟨trivial, trivial⟩ | exact ⟨rfl, trivial⟩ | exact ⟨Or.inr rfl, rfl, trivial⟩ | exact ⟨Or.inl rfl, rfl, trivial⟩
            · repeat (first | (refine W1 rfl ?_; try refine Wp.norm (L' := [_, _, _, _, _, _]) rfl ?_) | refine brT (by first | assumption | decide | omega) ?_ | refine brF (by first | assumption | decide | omega) ?_ | refine brTn (by first | assumption | decide | omega) ?_ | refine brFn (by first | assumption | decide | omega) ?_ | ((first | change (_ → _) ∧ (_ → _) | change vp_in _ _ ∧ _ | change ¬ _ ∧ _); simp (disch := omega) only [nI_clamp, nI_leI, nI_ltI, nI_eq, nI_1, nI_add, nI_not_neg, nI_is_pos, nI_m1, nI_z, R.bsd, eb]) | refine And.intro (vp_in_nI (by omega) (by decide)) ?_ | refine And.intro (vp_lit (by decide)) ?_)
              try change _ ∧ _
              have q5' : sev s t = true := by unfold sev; simp; omega
              refine ⟨fun q6 => ?_, fun q6 => ?_⟩
              · repeat (first | (refine W1 rfl ?_; try refine Wp.norm (L' := [_, _, _, _, _, _]) rfl ?_) | refine brT (by first | assumption | decide | omega) ?_ | refine brF (by first | assumption | decide | omega) ?_ | refine brTn (by first | assumption | decide | omega) ?_ | refine brFn (by first | assumption | decide | omega) ?_ | ((first | change (_ → _) ∧ (_ → _) | change vp_in _ _ ∧ _ | change ¬ _ ∧ _); simp (disch := omega) only [nI_clamp, nI_leI, nI_ltI, nI_eq, nI_1, nI_add, nI_not_neg, nI_is_pos, nI_m1, nI_z]) | refine And.intro (vp_in_nI (by omega) (by decide)) ?_ | refine And.intro (vp_lit (by decide)) ?_)
                try change _ ∧ _
                rw [if_neg (fun z => by rw [q6] at z; cases z.2)]
                try first | exact ⟨rfl, rfl⟩ | exact ⟨Or.inr rfl, rfl, rfl⟩ | exact ⟨Or.inl rfl, rfl, rfl⟩ | exact ⟨trivial, trivial⟩ | exact ⟨rfl, trivial⟩ | exact ⟨Or.inr rfl, rfl, trivial⟩ | exact ⟨Or.inl rfl, rfl, trivial⟩
              · repeat (first | (refine W1 rfl ?_; try refine Wp.norm (L' := [_, _, _, _, _, _]) rfl ?_) | refine brT (by first | assumption | decide | omega) ?_ | refine brF (by first | assumption | decide | omega) ?_ | refine brTn (by first | assumption | decide | omega) ?_ | refine brFn (by first | assumption | decide | omega) ?_ | ((first | change (_ → _) ∧ (_ → _) | change vp_in _ _ ∧ _ | change ¬ _ ∧ _); simp (disch := omega) only [nI_clamp, nI_leI, nI_ltI, nI_eq, nI_1, nI_add, nI_not_neg, nI_is_pos, nI_m1, nI_z]) | refine And.intro (vp_in_nI (by omega) (by decide)) ?_ | refine And.intro (vp_lit (by decide)) ?_)
                try change _ ∧ _
                rw [if_pos ⟨q5', by simpa using q6⟩]
                try first | exact ⟨rfl, rfl⟩ | exact ⟨Or.inr rfl, rfl, rfl⟩ | exact ⟨Or.inl rfl, rfl, rfl⟩ | exact ⟨trivial, trivial⟩ | exact ⟨rfl, trivial⟩ | exact ⟨Or.inr rfl, rfl, trivial⟩ | exact ⟨Or.inl rfl, rfl, trivial⟩
          · have q4 : apB s v p t = true := by simpa using q4
            repeat (first | (refine W1 rfl ?_; try refine Wp.norm (L' := [_, _, _, _, _, _]) rfl ?_) | refine brT (by first | assumption | decide | omega) ?_ | refine brF (by first | assumption | decide | omega) ?_ | refine brTn (by first | assumption | decide | omega) ?_ | refine brFn (by first | assumption | decide | omega) ?_ | ((first | change (_ → _) ∧ (_ → _) | change vp_in _ _ ∧ _ | change ¬ _ ∧ _); simp (disch := omega) only [nI_clamp, nI_leI, nI_ltI, nI_eq, nI_1, nI_add, nI_not_neg, nI_is_pos, nI_m1, nI_z]) | refine And.intro (vp_in_nI (by omega) (by decide)) ?_ | refine And.intro (vp_lit (by decide)) ?_)
            try change _ ∧ _
            rw [bOf_ne (by omega) hv (by rw [bIf_5 q1 q2 q3 q4]; decide), bIf_5 q1 q2 q3 q4]
            try first | exact ⟨rfl, rfl⟩ | exact ⟨Or.inr rfl, rfl, rfl⟩ | exact ⟨Or.inl rfl, rfl, rfl⟩ | exact ⟨trivial, trivial⟩ | exact ⟨rfl, trivial⟩ | exact ⟨Or.inr rfl, rfl, trivial⟩ | exact ⟨Or.inl rfl, rfl, trivial⟩
      · have q2 : oth s v p t = true := by simpa using q2
        repeat (first | (refine W1 rfl ?_; try refine Wp.norm (L' := [_, _, _, _, _, _]) rfl ?_) | refine brT (by first | assumption | decide | omega) ?_ | refine brF (by first | assumption | decide | omega) ?_ | refine brTn (by first | assumption | decide | omega) ?_ | refine brFn (by first | assumption | decide | omega) ?_ | ((first | change (_ → _) ∧ (_ → _) | change vp_in _ _ ∧ _ | change ¬ _ ∧ _); simp (disch := omega) only [nI_clamp, nI_leI, nI_ltI, nI_eq, nI_1, nI_add, nI_not_neg, nI_is_pos, nI_m1, nI_z]) | refine And.intro (vp_in_nI (by omega) (by decide)) ?_ | refine And.intro (vp_lit (by decide)) ?_)
        try change _ ∧ _
        rw [bOf_ne (by omega) hv (by rw [bIf_3 q1 q2]; decide), bIf_3 q1 q2]
        try first | exact ⟨rfl, rfl⟩ | exact ⟨Or.inr rfl, rfl, rfl⟩ | exact ⟨Or.inl rfl, rfl, rfl⟩ | exact ⟨trivial, trivial⟩ | exact ⟨rfl, trivial⟩ | exact ⟨Or.inr rfl, rfl, trivial⟩ | exact ⟨Or.inl rfl, rfl, trivial⟩
    · repeat (first | (refine W1 rfl ?_; try refine Wp.norm (L' := [_, _, _, _, _, _]) rfl ?_) | refine brT (by first | assumption | decide | omega) ?_ | refine brF (by first | assumption | decide | omega) ?_ | refine brTn (by first | assumption | decide | omega) ?_ | refine brFn (by first | assumption | decide | omega) ?_ | ((first | change (_ → _) ∧ (_ → _) | change vp_in _ _ ∧ _ | change ¬ _ ∧ _); simp (disch := omega) only [nI_clamp, nI_leI, nI_ltI, nI_eq, nI_1, nI_add, nI_not_neg, nI_is_pos, nI_m1, nI_z]) | refine And.intro (vp_in_nI (by omega) (by decide)) ?_ | refine And.intro (vp_lit (by decide)) ?_)
      try change _ ∧ _
      rw [bOf_ne (by omega) hv (by rw [bIf_2 q1]; decide), bIf_2 q1]
      try first | exact ⟨rfl, rfl⟩ | exact ⟨Or.inr rfl, rfl, rfl⟩ | exact ⟨Or.inl rfl, rfl, rfl⟩ | exact ⟨trivial, trivial⟩ | exact ⟨rfl, trivial⟩ | exact ⟨Or.inr rfl, rfl, trivial⟩ | exact ⟨Or.inl rfl, rfl, trivial⟩
end ABLE
