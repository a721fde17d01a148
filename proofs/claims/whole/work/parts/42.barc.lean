/-! ===== BARS: the class's side ===== -/
def anyB (p : Nat → Bool) : Nat → Bool
  | 0 => false
  | n + 1 => anyB p n || p n
theorem anyB_iff (p : Nat → Bool) : ∀ n, anyB p n = true ↔ ∃ i, i < n ∧ p i = true
  | 0 => by simp [anyB]
  | n + 1 => by
    unfold anyB
    rw [Bool.or_eq_true, anyB_iff p n]
    constructor
    · rintro (⟨u, h1, h2⟩ | h1)
      · exact ⟨u, by omega, h2⟩
      · exact ⟨n, by omega, h1⟩
    · rintro ⟨u, h1, h2⟩
      by_cases e : u = n
      · subst e
        exact Or.inr h2
      · exact Or.inl ⟨u, by omega, h2⟩
abbrev oth (s : ST) (v : RT) (p t : Nat) : Bool := svo s v (nI p) (tD s t) (nI t) (zT s)
def asks (s : ST) (u t : Nat) : Bool := decide (tD s t - tD s u ≤ kR s (tK s u * 6 + tK s t))
def rsB (s : ST) (v : RT) (p t : Nat) : Bool := anyB (fun u => decide (tD s u < tD s t) && decide (v u = nI p) && asks s u t) (zT s)
def apB (s : ST) (v : RT) (p t : Nat) : Bool := anyB (fun q => (pA s p).testBit q && oth s v q t) (zP s)
def bsB (s : ST) (v : RT) (p t : Nat) : Bool := anyB (fun q => (pB s p).testBit q && !oth s v q t) (zP s)
def sev (s : ST) (t : Nat) : Bool := decide (1 < dF s (tD s t + 1) - dF s (tD s t))
def bIf (s : ST) (v : RT) (t p : Nat) : Nat := if (tM s t).testBit p = false then 2 else if oth s v p t = true then 3 else if rsB s v p t = true then 4 else if apB s v p t = true then 5 else 0
def bOf (s : ST) (v : RT) (t : Nat) : Nat := if v t = -1 then 1 else if bIf s v t (v t).toNatClampNeg = 0 then (if sev s t = true ∧ bsB s v (v t).toNatClampNeg t = true then 6 else 0) else bIf s v t (v t).toNatClampNeg
def ablB (s : ST) (v : RT) (t p : Nat) : Bool := decide (p < zP s) && decide (bIf s v t p = 0)
section BARC
variable {s : ST} {c v : RT} {h : HP}
theorem RO.vv (ro : RO s c v) {t : Nat} (ht : t < zT s) : v t = -1 ∨ ∃ p, p < zP s ∧ v t = nI p := by
  rcases ro t ht with ⟨_, h2⟩ | ⟨p, q, hp, hq, h1, h2⟩
  · exact Or.inl h2
  · exact Or.inr ⟨q, hq, h2⟩
theorem RO.cc (ro : RO s c v) {t : Nat} (ht : t < zT s) : c t = -1 ∨ ∃ p, p < zP s ∧ c t = nI p := by
  rcases ro t ht with ⟨h2, _⟩ | ⟨p, q, hp, hq, h1, h2⟩
  · exact Or.inl h2
  · exact Or.inr ⟨p, hp, h1⟩
theorem r_Rota_dayStart (R : RC s c v h) (o : OK s) {t : Nat} (ht : t < zT s) : Run 0 j_Rota_dayStart [.ref 45, .int (nI t)] h (some (.int (nI (dF s (tD s t))))) h := by
  have hT := o.T; have hP := o.P; have hK := o.K; have hD := o.D; have hO := o.O; have hQ := o.Q; have hL := o.L
  have hd := o.day ht
  refine Run.of rfl ?_
  refine Wp.norm (L' := [_, _]) rfl ?_
  repeat (first | (refine W1 rfl ?_; try refine Wp.norm (L' := [_, _]) rfl ?_) | refine brT (by first | assumption | decide | omega) ?_ | refine brF (by first | assumption | decide | omega) ?_ | refine brTn (by first | assumption | decide | omega) ?_ | refine brFn (by first | assumption | decide | omega) ?_ | ((first | change (_ → _) ∧ (_ → _) | change vp_in _ _ ∧ _ | change ¬ _ ∧ _); simp (disch := omega) only [nI_clamp, nI_leI, nI_ltI, nI_eq, nI_1, nI_add, nI_not_neg, nI_is_pos, nI_m1, nI_z, R.day]) | refine And.intro (vp_in_nI (by omega) (by decide)) ?_ | refine And.intro (vp_lit (by decide)) ?_)
  try change _ ∧ _
  simp (disch := omega) only [nI_clamp, R.day, R.dfs]
  try first | exact ⟨rfl, rfl⟩ | exact ⟨Or.inr rfl, rfl, rfl⟩ | exact ⟨Or.inl rfl, rfl, rfl⟩ | exact ⟨trivial, trivial⟩ | exact ⟨rfl, trivial⟩ | exact ⟨Or.inr rfl, rfl, trivial⟩ | exact ⟨Or.inl rfl, rfl, trivial⟩
theorem r_Rota_dayEnd (R : RC s c v h) (o : OK s) {t : Nat} (ht : t < zT s) : Run 0 j_Rota_dayEnd [.ref 45, .int (nI t)] h (some (.int (nI (dF s (tD s t + 1))))) h := by
  have hT := o.T; have hP := o.P; have hK := o.K; have hD := o.D; have hO := o.O; have hQ := o.Q; have hL := o.L
  have hd := o.day ht
  refine Run.of rfl ?_
  refine Wp.norm (L' := [_, _]) rfl ?_
  repeat (first | (refine W1 rfl ?_; try refine Wp.norm (L' := [_, _]) rfl ?_) | refine brT (by first | assumption | decide | omega) ?_ | refine brF (by first | assumption | decide | omega) ?_ | refine brTn (by first | assumption | decide | omega) ?_ | refine brFn (by first | assumption | decide | omega) ?_ | ((first | change (_ → _) ∧ (_ → _) | change vp_in _ _ ∧ _ | change ¬ _ ∧ _); simp (disch := omega) only [nI_clamp, nI_leI, nI_ltI, nI_eq, nI_1, nI_add, nI_not_neg, nI_is_pos, nI_m1, nI_z, R.day]) | refine And.intro (vp_in_nI (by omega) (by decide)) ?_ | refine And.intro (vp_lit (by decide)) ?_)
  try change _ ∧ _
  simp (disch := omega) only [nI_clamp, R.day, R.dfs, nI_1]
  try first | exact ⟨rfl, rfl⟩ | exact ⟨Or.inr rfl, rfl, rfl⟩ | exact ⟨Or.inl rfl, rfl, rfl⟩ | exact ⟨trivial, trivial⟩ | exact ⟨rfl, trivial⟩ | exact ⟨Or.inr rfl, rfl, trivial⟩ | exact ⟨Or.inl rfl, rfl, trivial⟩
theorem w_Rota_othersThatDay (R : RC s c v h) (o : OK s) (ro : RO s c v) {t : Nat} (ht : t < zT s) : ∃ w h', Run 1 j_Rota_othersThatDay [.ref 45, .int (nI t)] h w h' ∧ ∃ x, w = some (.int x) ∧ h' = h ∧ ∀ q, q < 32 → bt x q = oth s v q t := by
  have hT := o.T; have hP := o.P; have hK := o.K; have hD := o.D; have hO := o.O; have hQ := o.Q; have hL := o.L
  have hd := o.day ht
  have h1 := dF_mono o (show tD s t ≤ tD s t + 1 by omega) (by omega)
  have h2 := dF_le o (show tD s t + 1 < 201 by omega)
  refine Run.ofP rfl ?_
  refine Wp.norm (L' := [_, _, _, _, _]) rfl ?_
  have lp : ∀ i, i ≤ dF s (tD s t + 1) → dF s (tD s t) ≤ i → ∀ x, (∀ q, q < 32 → (bt x q = true ↔ ∃ u, dF s (tD s t) ≤ u ∧ u < i ∧ u ≠ t ∧ v u = nI q)) → Wp 1 j_Rota_othersThatDay 15 [.ref 45, .int (nI t), .int x, .int (nI (dF s (tD s t + 1))), .int (nI i)] [] h (fun w h' => ∃ x, w = some (.int x) ∧ h' = h ∧ ∀ q, q < 32 → bt x q = oth s v q t) := by
    refine up_ind ?_ (fun i hi ih => ?_)
    · intro _ x B
      repeat (first | (refine W1 rfl ?_; try refine Wp.norm (L' := [_, _, _, _, _]) rfl ?_) | refine brT (by first | assumption | decide | omega) ?_ | refine brF (by first | assumption | decide | omega) ?_ | refine brTn (by first | assumption | decide | omega) ?_ | refine brFn (by first | assumption | decide | omega) ?_ | ((first | change (_ → _) ∧ (_ → _) | change vp_in _ _ ∧ _ | change ¬ _ ∧ _); simp (disch := omega) only [nI_clamp, nI_leI, nI_ltI, nI_eq, nI_1, nI_add, nI_not_neg, nI_is_pos, nI_m1, nI_z]) | refine And.intro (vp_in_nI (by omega) (by decide)) ?_ | refine And.intro (vp_lit (by decide)) ?_)
      try change _ ∧ _
      refine ⟨x, rfl, rfl, fun q hq => Bool.eq_iff_iff.mpr ?_⟩
      rw [B q hq, svo_iff]
      constructor
      · rintro ⟨u, a1, a2, a3, a4⟩
        exact ⟨u, by omega, by rw [nI_eq (by omega) (by omega)]; exact a3, (on_day o (by omega) (by omega)).mpr ⟨a1, a2⟩, a4⟩
      · rintro ⟨u, a1, a2, a3, a4⟩
        have := (on_day o a1 (by omega)).mp a3
        exact ⟨u, this.1, this.2, fun e => a2 (by rw [e]), a4⟩
    · intro hlo x B
      repeat (first | (refine W1 rfl ?_; try refine Wp.norm (L' := [_, _, _, _, _]) rfl ?_) | refine brT (by first | assumption | decide | omega) ?_ | refine brF (by first | assumption | decide | omega) ?_ | refine brTn (by first | assumption | decide | omega) ?_ | refine brFn (by first | assumption | decide | omega) ?_ | ((first | change (_ → _) ∧ (_ → _) | change vp_in _ _ ∧ _ | change ¬ _ ∧ _); simp (disch := omega) only [nI_clamp, nI_leI, nI_ltI, nI_eq, nI_1, nI_add, nI_not_neg, nI_is_pos, nI_m1, nI_z]) | refine And.intro (vp_in_nI (by omega) (by decide)) ?_ | refine And.intro (vp_lit (by decide)) ?_)
      try change _ ∧ _
      refine ⟨fun q1 => ?_, fun q1 => ?_⟩
      · have ih := ih (by omega) x (fun q hq => by
          rw [B q hq]
          constructor
          · rintro ⟨u, a1, a2, a3⟩; exact ⟨u, a1, by omega, a3⟩
          · rintro ⟨u, a1, a2, a3⟩; exact ⟨u, a1, by omega, a3⟩)
        repeat (first | refine Wp.at ih rfl rfl ?_ rfl | (refine W1 rfl ?_; try refine Wp.norm (L' := [_, _, _, _, _]) rfl ?_) | refine brT (by first | assumption | decide | omega) ?_ | refine brF (by first | assumption | decide | omega) ?_ | refine brTn (by first | assumption | decide | omega) ?_ | refine brFn (by first | assumption | decide | omega) ?_ | ((first | change (_ → _) ∧ (_ → _) | change vp_in _ _ ∧ _ | change ¬ _ ∧ _); simp (disch := omega) only [nI_clamp, nI_leI, nI_ltI, nI_eq, nI_1, nI_add, nI_not_neg, nI_is_pos, nI_m1, nI_z]) | refine And.intro (vp_in_nI (by omega) (by decide)) ?_ | refine And.intro (vp_lit (by decide)) ?_)
        try change _ ∧ _
        first | rfl | (simp (disch := omega) only [nI_1, nI_add, nI_clamp] <;> first | done | rfl)
      · repeat (first | (refine W1 rfl ?_; try refine Wp.norm (L' := [_, _, _, _, _]) rfl ?_) | refine brT (by first | assumption | decide | omega) ?_ | refine brF (by first | assumption | decide | omega) ?_ | refine brTn (by first | assumption | decide | omega) ?_ | refine brFn (by first | assumption | decide | omega) ?_ | ((first | change (_ → _) ∧ (_ → _) | change vp_in _ _ ∧ _ | change ¬ _ ∧ _); simp (disch := omega) only [nI_clamp, nI_leI, nI_ltI, nI_eq, nI_1, nI_add, nI_not_neg, nI_is_pos, nI_m1, nI_z, R.srv]) | refine And.intro (vp_in_nI (by omega) (by decide)) ?_ | refine And.intro (vp_lit (by decide)) ?_)
        try change _ ∧ _
        refine ⟨fun q2 => ?_, fun q2 => ?_⟩
        · have ih := ih (by omega) x (fun q hq => by
            rw [B q hq]
            constructor
            · rintro ⟨u, a1, a2, a3⟩; exact ⟨u, a1, by omega, a3⟩
            · rintro ⟨u, a1, a2, a3, a4⟩
              refine ⟨u, a1, ?_, a3, a4⟩
              by_cases e : u = i
              · subst e
                rw [q2] at a4
                exact absurd a4 (fun z => (nI_m1' (by omega)).mp z)
              · omega)
          repeat (first | refine Wp.at ih rfl rfl ?_ rfl | (refine W1 rfl ?_; try refine Wp.norm (L' := [_, _, _, _, _]) rfl ?_) | refine brT (by first | assumption | decide | omega) ?_ | refine brF (by first | assumption | decide | omega) ?_ | refine brTn (by first | assumption | decide | omega) ?_ | refine brFn (by first | assumption | decide | omega) ?_ | ((first | change (_ → _) ∧ (_ → _) | change vp_in _ _ ∧ _ | change ¬ _ ∧ _); simp (disch := omega) only [nI_clamp, nI_leI, nI_ltI, nI_eq, nI_1, nI_add, nI_not_neg, nI_is_pos, nI_m1, nI_z]) | refine And.intro (vp_in_nI (by omega) (by decide)) ?_ | refine And.intro (vp_lit (by decide)) ?_)
          try change _ ∧ _
          first | rfl | (simp (disch := omega) only [nI_1, nI_add, nI_clamp] <;> first | done | rfl)
        · obtain ⟨p, hp, e⟩ := (ro.vv (show i < zT s by omega)).resolve_left q2
          have ih := ih (by omega) (x ||| (1 <<< (v i &&& 31))) (fun q hq => by
            rw [e, bt_or, bt_shl (by omega) hq, Bool.or_eq_true, B q hq, decide_eq_true_eq]
            constructor
            · rintro (⟨u, a1, a2, a3⟩ | a1)
              · exact ⟨u, a1, by omega, a3⟩
              · exact ⟨i, by omega, by omega, q1, by rw [e, a1]⟩
            · rintro ⟨u, a1, a2, a3, a4⟩
              by_cases e2 : u = i
              · subst e2
                rw [e, nI_eq (by omega) (by omega)] at a4
                exact Or.inr a4.symm
              · exact Or.inl ⟨u, a1, by omega, a3, a4⟩)
          repeat (first | refine Wp.at ih rfl rfl ?_ rfl | (refine W1 rfl ?_; try refine Wp.norm (L' := [_, _, _, _, _]) rfl ?_) | refine brT (by first | assumption | decide | omega) ?_ | refine brF (by first | assumption | decide | omega) ?_ | refine brTn (by first | assumption | decide | omega) ?_ | refine brFn (by first | assumption | decide | omega) ?_ | ((first | change (_ → _) ∧ (_ → _) | change vp_in _ _ ∧ _ | change ¬ _ ∧ _); simp (disch := omega) only [nI_clamp, nI_leI, nI_ltI, nI_eq, nI_1, nI_add, nI_not_neg, nI_is_pos, nI_m1, nI_z]) | refine And.intro (vp_in_nI (by omega) (by decide)) ?_ | refine And.intro (vp_lit (by decide)) ?_)
          try change _ ∧ _
          first | rfl | (simp (disch := omega) only [nI_1, nI_add, nI_clamp, R.srv] <;> first | done | rfl)
  repeat (first | (refine W1 rfl ?_; try refine Wp.norm (L' := [_, _, _, _, _]) rfl ?_) | refine brT (by first | assumption | decide | omega) ?_ | refine brF (by first | assumption | decide | omega) ?_ | refine brTn (by first | assumption | decide | omega) ?_ | refine brFn (by first | assumption | decide | omega) ?_ | ((first | change (_ → _) ∧ (_ → _) | change vp_in _ _ ∧ _ | change ¬ _ ∧ _); simp (disch := omega) only [nI_clamp, nI_leI, nI_ltI, nI_eq, nI_1, nI_add, nI_not_neg, nI_is_pos, nI_m1, nI_z]) | refine And.intro (vp_in_nI (by omega) (by decide)) ?_ | refine And.intro (vp_lit (by decide)) ?_)
  try change _ ∧ _
  refine Cl.of (r_Rota_dayEnd R o ht) (by decide) ?_
  repeat (first | (refine W1 rfl ?_; try refine Wp.norm (L' := [_, _, _, _, _]) rfl ?_) | refine brT (by first | assumption | decide | omega) ?_ | refine brF (by first | assumption | decide | omega) ?_ | refine brTn (by first | assumption | decide | omega) ?_ | refine brFn (by first | assumption | decide | omega) ?_ | ((first | change (_ → _) ∧ (_ → _) | change vp_in _ _ ∧ _ | change ¬ _ ∧ _); simp (disch := omega) only [nI_clamp, nI_leI, nI_ltI, nI_eq, nI_1, nI_add, nI_not_neg, nI_is_pos, nI_m1, nI_z]) | refine And.intro (vp_in_nI (by omega) (by decide)) ?_ | refine And.intro (vp_lit (by decide)) ?_)
  try change _ ∧ _
  refine Cl.of (r_Rota_dayStart R o ht) (by decide) ?_
  have ih := lp (dF s (tD s t)) h1 (Nat.le_refl _) 0 (fun q hq => by
    rw [bt_zero]
    simp
    intro u a1 a2
    omega)
  repeat (first | refine Wp.at ih rfl rfl ?_ rfl | (refine W1 rfl ?_; try refine Wp.norm (L' := [_, _, _, _, _]) rfl ?_) | refine brT (by first | assumption | decide | omega) ?_ | refine brF (by first | assumption | decide | omega) ?_ | refine brTn (by first | assumption | decide | omega) ?_ | refine brFn (by first | assumption | decide | omega) ?_ | ((first | change (_ → _) ∧ (_ → _) | change vp_in _ _ ∧ _ | change ¬ _ ∧ _); simp (disch := omega) only [nI_clamp, nI_leI, nI_ltI, nI_eq, nI_1, nI_add, nI_not_neg, nI_is_pos, nI_m1, nI_z]) | refine And.intro (vp_in_nI (by omega) (by decide)) ?_ | refine And.intro (vp_lit (by decide)) ?_)
  try change _ ∧ _
  first | rfl | (simp (disch := omega) only [nI_1, nI_add, nI_clamp] <;> first | done | rfl)
theorem r_Rota_restStart (R : RC s c v h) (o : OK s) {t : Nat} (ht : t < zT s) : Run 0 j_Rota_restStart [.ref 45, .int (nI t)] h (some (.int (nI (dF s (tD s t - zL s))))) h := by
  have hT := o.T; have hP := o.P; have hK := o.K; have hD := o.D; have hO := o.O; have hQ := o.Q; have hL := o.L
  have hd := o.day ht
  refine Run.of rfl ?_
  refine Wp.norm (L' := [_, _, _]) rfl ?_
  repeat (first | (refine W1 rfl ?_; try refine Wp.norm (L' := [_, _, _]) rfl ?_) | refine brT (by first | assumption | decide | omega) ?_ | refine brF (by first | assumption | decide | omega) ?_ | refine brTn (by first | assumption | decide | omega) ?_ | refine brFn (by first | assumption | decide | omega) ?_ | ((first | change (_ → _) ∧ (_ → _) | change vp_in _ _ ∧ _ | change ¬ _ ∧ _); simp (disch := omega) only [nI_clamp, nI_leI, nI_ltI, nI_eq, nI_1, nI_add, nI_not_neg, nI_is_pos, nI_m1, nI_z, R.day, R.lng]) | refine And.intro (vp_in_nI (by omega) (by decide)) ?_ | refine And.intro (vp_lit (by decide)) ?_)
  try change _ ∧ _
  by_cases hle : tD s t ≤ zL s
  · refine brT ?_ ?_
    · rw [Int32.le_iff_toInt_le, pk_sub_toInt (by omega) (by omega), Int32.toInt_zero]
      omega
    · repeat (first | (refine W1 rfl ?_; try refine Wp.norm (L' := [_, _, _]) rfl ?_) | refine brT (by first | assumption | decide | omega) ?_ | refine brF (by first | assumption | decide | omega) ?_ | refine brTn (by first | assumption | decide | omega) ?_ | refine brFn (by first | assumption | decide | omega) ?_ | ((first | change (_ → _) ∧ (_ → _) | change vp_in _ _ ∧ _ | change ¬ _ ∧ _); simp (disch := omega) only [nI_clamp, nI_leI, nI_ltI, nI_eq, nI_1, nI_add, nI_not_neg, nI_is_pos, nI_m1, nI_z, R.dfs]) | refine And.intro (vp_in_nI (by omega) (by decide)) ?_ | refine And.intro (vp_lit (by decide)) ?_)
      try change _ ∧ _
      rw [show Int32.toNatClampNeg 0 = 0 from rfl, R.dfs (by omega), show tD s t - zL s = 0 by omega]
      try first | exact ⟨rfl, rfl⟩ | exact ⟨Or.inr rfl, rfl, rfl⟩ | exact ⟨Or.inl rfl, rfl, rfl⟩ | exact ⟨trivial, trivial⟩ | exact ⟨rfl, trivial⟩ | exact ⟨Or.inr rfl, rfl, trivial⟩ | exact ⟨Or.inl rfl, rfl, trivial⟩
  · rw [pk_sub (by omega)]
    refine brF ?_ ?_
    · rw [show (0 : Int32) = nI 0 from rfl, nI_leI (by omega) (by omega)]
      omega
    · repeat (first | (refine W1 rfl ?_; try refine Wp.norm (L' := [_, _, _]) rfl ?_) | refine brT (by first | assumption | decide | omega) ?_ | refine brF (by first | assumption | decide | omega) ?_ | refine brTn (by first | assumption | decide | omega) ?_ | refine brFn (by first | assumption | decide | omega) ?_ | ((first | change (_ → _) ∧ (_ → _) | change vp_in _ _ ∧ _ | change ¬ _ ∧ _); simp (disch := omega) only [nI_clamp, nI_leI, nI_ltI, nI_eq, nI_1, nI_add, nI_not_neg, nI_is_pos, nI_m1, nI_z]) | refine And.intro (vp_in_nI (by omega) (by decide)) ?_ | refine And.intro (vp_lit (by decide)) ?_)
      try change _ ∧ _
      try simp (disch := omega) only [nI_clamp, nI_leI, nI_ltI, nI_eq, nI_1, nI_add, nI_not_neg, nI_is_pos, nI_m1, nI_z, R.dfs]
      try first | exact ⟨rfl, rfl⟩ | exact ⟨Or.inr rfl, rfl, rfl⟩ | exact ⟨Or.inl rfl, rfl, rfl⟩ | exact ⟨trivial, trivial⟩ | exact ⟨rfl, trivial⟩ | exact ⟨Or.inr rfl, rfl, trivial⟩ | exact ⟨Or.inl rfl, rfl, trivial⟩
theorem r_Rota_asksRest (R : RC s c v h) (o : OK s) {u t : Nat} (hu : u < zT s) (ht : t < zT s) (hut : tD s u ≤ tD s t) : Run 0 j_Rota_asksRest [.ref 45, .int (nI u), .int (nI t)] h (some (.int (bI (asks s u t)))) h := by
  have hT := o.T; have hP := o.P; have hK := o.K; have hD := o.D; have hO := o.O; have hQ := o.Q; have hL := o.L
  have hd := o.day ht
  have hd2 := o.day hu
  have hk1 := o.knd hu
  have hk2 := o.knd ht
  have hr := o.rsl (i := tK s u * 6 + tK s t) (by omega)
  refine Run.of rfl ?_
  refine Wp.norm (L' := [_, _, _, _]) rfl ?_
  repeat (first | (refine W1 rfl ?_; try refine Wp.norm (L' := [_, _, _, _]) rfl ?_) | refine brT (by first | assumption | decide | omega) ?_ | refine brF (by first | assumption | decide | omega) ?_ | refine brTn (by first | assumption | decide | omega) ?_ | refine brFn (by first | assumption | decide | omega) ?_ | ((first | change (_ → _) ∧ (_ → _) | change vp_in _ _ ∧ _ | change ¬ _ ∧ _); simp (disch := omega) only [nI_clamp, nI_leI, nI_ltI, nI_eq, nI_1, nI_add, nI_not_neg, nI_is_pos, nI_m1, nI_z, R.knd, show (6 : Int32) = nI 6 from rfl, pk_mul, R.day, pk_sub, R.rst]) | refine And.intro (vp_in_nI (by omega) (by decide)) ?_ | refine And.intro (vp_lit (by decide)) ?_)
  try change _ ∧ _
  unfold asks bI
  refine ⟨fun q => ?_, fun q => ?_⟩
  · repeat (first | (refine W1 rfl ?_; try refine Wp.norm (L' := [_, _, _, _]) rfl ?_) | refine brT (by first | assumption | decide | omega) ?_ | refine brF (by first | assumption | decide | omega) ?_ | refine brTn (by first | assumption | decide | omega) ?_ | refine brFn (by first | assumption | decide | omega) ?_ | ((first | change (_ → _) ∧ (_ → _) | change vp_in _ _ ∧ _ | change ¬ _ ∧ _); simp (disch := omega) only [nI_clamp, nI_leI, nI_ltI, nI_eq, nI_1, nI_add, nI_not_neg, nI_is_pos, nI_m1, nI_z]) | refine And.intro (vp_in_nI (by omega) (by decide)) ?_ | refine And.intro (vp_lit (by decide)) ?_)
    try change _ ∧ _
    rw [if_neg (by simp; omega)]
    try first | exact ⟨rfl, rfl⟩ | exact ⟨Or.inr rfl, rfl, rfl⟩ | exact ⟨Or.inl rfl, rfl, rfl⟩ | exact ⟨trivial, trivial⟩ | exact ⟨rfl, trivial⟩ | exact ⟨Or.inr rfl, rfl, trivial⟩ | exact ⟨Or.inl rfl, rfl, trivial⟩
  · repeat (first | (refine W1 rfl ?_; try refine Wp.norm (L' := [_, _, _, _]) rfl ?_) | refine brT (by first | assumption | decide | omega) ?_ | refine brF (by first | assumption | decide | omega) ?_ | refine brTn (by first | assumption | decide | omega) ?_ | refine brFn (by first | assumption | decide | omega) ?_ | ((first | change (_ → _) ∧ (_ → _) | change vp_in _ _ ∧ _ | change ¬ _ ∧ _); simp (disch := omega) only [nI_clamp, nI_leI, nI_ltI, nI_eq, nI_1, nI_add, nI_not_neg, nI_is_pos, nI_m1, nI_z]) | refine And.intro (vp_in_nI (by omega) (by decide)) ?_ | refine And.intro (vp_lit (by decide)) ?_)
    try change _ ∧ _
    rw [if_pos (by simp; omega)]
    try first | exact ⟨rfl, rfl⟩ | exact ⟨Or.inr rfl, rfl, rfl⟩ | exact ⟨Or.inl rfl, rfl, rfl⟩ | exact ⟨trivial, trivial⟩ | exact ⟨rfl, trivial⟩ | exact ⟨Or.inr rfl, rfl, trivial⟩ | exact ⟨Or.inl rfl, rfl, trivial⟩
theorem rs_range (o : OK s) (p : Nat) {t : Nat} (ht : t < zT s) : rsB s v p t = true ↔ ∃ u, dF s (tD s t - zL s) ≤ u ∧ u < dF s (tD s t) ∧ v u = nI p ∧ asks s u t = true := by
  have hT := o.T; have hP := o.P; have hK := o.K; have hD := o.D; have hO := o.O; have hQ := o.Q; have hL := o.L
  have hd := o.day ht
  have h2 := dF_le o (show tD s t < 201 by omega)
  unfold rsB
  rw [anyB_iff]
  simp only [Bool.and_eq_true, decide_eq_true_eq]
  constructor
  · rintro ⟨u, a1, ⟨a2, a3⟩, a4⟩
    refine ⟨u, ?_, (dF_lt o a1 (by omega)).mpr a2, a3, a4⟩
    refine Nat.le_of_not_lt fun z => ?_
    rw [dF_lt o a1 (by omega)] at z
    have hk1 := o.knd a1
    have hk2 := o.knd ht
    have hr := o.rsl (i := tK s u * 6 + tK s t) (by omega)
    unfold asks at a4
    simp at a4
    omega
  · rintro ⟨u, a1, a2, a3, a4⟩
    exact ⟨u, by omega, ⟨(dF_lt o (by omega) (by omega)).mp a2, a3⟩, a4⟩
theorem w_Rota_restingFor (R : RC s c v h) (o : OK s) (ro : RO s c v) {t : Nat} (ht : t < zT s) : ∃ w h', Run 1 j_Rota_restingFor [.ref 45, .int (nI t)] h w h' ∧ ∃ x, w = some (.int x) ∧ h' = h ∧ ∀ q, q < 32 → bt x q = rsB s v q t := by
  have hT := o.T; have hP := o.P; have hK := o.K; have hD := o.D; have hO := o.O; have hQ := o.Q; have hL := o.L
  have hd := o.day ht
  have h1 := dF_mono o (show tD s t - zL s ≤ tD s t by omega) (by omega)
  have h2 := dF_le o (show tD s t < 201 by omega)
  refine Run.ofP rfl ?_
  refine Wp.norm (L' := [_, _, _, _, _]) rfl ?_
  have lp : ∀ i, i ≤ dF s (tD s t) → dF s (tD s t - zL s) ≤ i → ∀ x, (∀ q, q < 32 → (bt x q = true ↔ ∃ u, dF s (tD s t - zL s) ≤ u ∧ u < i ∧ v u = nI q ∧ asks s u t = true)) → Wp 1 j_Rota_restingFor 15 [.ref 45, .int (nI t), .int x, .int (nI (dF s (tD s t))), .int (nI i)] [] h (fun w h' => ∃ x, w = some (.int x) ∧ h' = h ∧ ∀ q, q < 32 → bt x q = rsB s v q t) := by
    refine up_ind ?_ (fun i hi ih => ?_)
    · intro _ x B
      repeat (first | (refine W1 rfl ?_; try refine Wp.norm (L' := [_, _, _, _, _]) rfl ?_) | refine brT (by first | assumption | decide | omega) ?_ | refine brF (by first | assumption | decide | omega) ?_ | refine brTn (by first | assumption | decide | omega) ?_ | refine brFn (by first | assumption | decide | omega) ?_ | ((first | change (_ → _) ∧ (_ → _) | change vp_in _ _ ∧ _ | change ¬ _ ∧ _); simp (disch := omega) only [nI_clamp, nI_leI, nI_ltI, nI_eq, nI_1, nI_add, nI_not_neg, nI_is_pos, nI_m1, nI_z]) | refine And.intro (vp_in_nI (by omega) (by decide)) ?_ | refine And.intro (vp_lit (by decide)) ?_)
      try change _ ∧ _
      refine ⟨x, rfl, rfl, fun q hq => Bool.eq_iff_iff.mpr ?_⟩
      rw [B q hq, rs_range o q ht]
    · intro hlo x B
      have hiT : i < zT s := by omega
      have hit := (dF_lt o hiT (show tD s t < 201 by omega)).mp hi
      have same : (v i = -1 ∨ asks s i t = false) → ∀ q, q < 32 → (bt x q = true ↔ ∃ u, dF s (tD s t - zL s) ≤ u ∧ u < i + 1 ∧ v u = nI q ∧ asks s u t = true) := by
        intro hno q hq
        rw [B q hq]
        constructor
        · rintro ⟨u, a1, a2, a3⟩; exact ⟨u, a1, by omega, a3⟩
        · rintro ⟨u, a1, a2, a3, a4⟩
          refine ⟨u, a1, ?_, a3, a4⟩
          by_cases e : u = i
          · subst e
            rcases hno with z | z
            · rw [z] at a3
              exact absurd a3 (fun z => (nI_m1' (by omega)).mp z)
            · rw [z] at a4; cases a4
          · omega
      repeat (first | (refine W1 rfl ?_; try refine Wp.norm (L' := [_, _, _, _, _]) rfl ?_) | refine brT (by first | assumption | decide | omega) ?_ | refine brF (by first | assumption | decide | omega) ?_ | refine brTn (by first | assumption | decide | omega) ?_ | refine brFn (by first | assumption | decide | omega) ?_ | ((first | change (_ → _) ∧ (_ → _) | change vp_in _ _ ∧ _ | change ¬ _ ∧ _); simp (disch := omega) only [nI_clamp, nI_leI, nI_ltI, nI_eq, nI_1, nI_add, nI_not_neg, nI_is_pos, nI_m1, nI_z, R.srv]) | refine And.intro (vp_in_nI (by omega) (by decide)) ?_ | refine And.intro (vp_lit (by decide)) ?_)
      try change _ ∧ _
      refine ⟨fun q2 => ?_, fun q2 => ?_⟩
      · have ih := ih (by omega) x (same (Or.inl q2))
        repeat (first | refine Wp.at ih rfl rfl ?_ rfl | (refine W1 rfl ?_; try refine Wp.norm (L' := [_, _, _, _, _]) rfl ?_) | refine brT (by first | assumption | decide | omega) ?_ | refine brF (by first | assumption | decide | omega) ?_ | refine brTn (by first | assumption | decide | omega) ?_ | refine brFn (by first | assumption | decide | omega) ?_ | ((first | change (_ → _) ∧ (_ → _) | change vp_in _ _ ∧ _ | change ¬ _ ∧ _); simp (disch := omega) only [nI_clamp, nI_leI, nI_ltI, nI_eq, nI_1, nI_add, nI_not_neg, nI_is_pos, nI_m1, nI_z]) | refine And.intro (vp_in_nI (by omega) (by decide)) ?_ | refine And.intro (vp_lit (by decide)) ?_)
        try change _ ∧ _
        first | rfl | (simp (disch := omega) only [nI_1, nI_add, nI_clamp] <;> first | done | rfl)
      · obtain ⟨p, hp, e⟩ := (ro.vv hiT).resolve_left q2
        repeat (first | (refine W1 rfl ?_; try refine Wp.norm (L' := [_, _, _, _, _]) rfl ?_) | refine brT (by first | assumption | decide | omega) ?_ | refine brF (by first | assumption | decide | omega) ?_ | refine brTn (by first | assumption | decide | omega) ?_ | refine brFn (by first | assumption | decide | omega) ?_ | ((first | change (_ → _) ∧ (_ → _) | change vp_in _ _ ∧ _ | change ¬ _ ∧ _); simp (disch := omega) only [nI_clamp, nI_leI, nI_ltI, nI_eq, nI_1, nI_add, nI_not_neg, nI_is_pos, nI_m1, nI_z]) | refine And.intro (vp_in_nI (by omega) (by decide)) ?_ | refine And.intro (vp_lit (by decide)) ?_)
        try change _ ∧ _
        refine Cl.of (r_Rota_asksRest R o hiT ht (Nat.le_of_lt hit)) (by decide) ?_
        cases hk : asks s i t with
        | false =>
          have ih := ih (by omega) x (same (Or.inr hk))
          repeat (first | refine Wp.at ih rfl rfl ?_ rfl | (refine W1 rfl ?_; try refine Wp.norm (L' := [_, _, _, _, _]) rfl ?_) | refine brT (by first | assumption | decide | omega) ?_ | refine brF (by first | assumption | decide | omega) ?_ | refine brTn (by first | assumption | decide | omega) ?_ | refine brFn (by first | assumption | decide | omega) ?_ | ((first | change (_ → _) ∧ (_ → _) | change vp_in _ _ ∧ _ | change ¬ _ ∧ _); simp (disch := omega) only [nI_clamp, nI_leI, nI_ltI, nI_eq, nI_1, nI_add, nI_not_neg, nI_is_pos, nI_m1, nI_z]) | refine And.intro (vp_in_nI (by omega) (by decide)) ?_ | refine And.intro (vp_lit (by decide)) ?_)
          try change _ ∧ _
          first | rfl | (simp (disch := omega) only [nI_1, nI_add, nI_clamp] <;> first | done | rfl)
        | true =>
          have ih := ih (by omega) (x ||| (1 <<< (v i &&& 31))) (fun q hq => by
            rw [e, bt_or, bt_shl (by omega) hq, Bool.or_eq_true, B q hq, decide_eq_true_eq]
            constructor
            · rintro (⟨u, a1, a2, a3⟩ | a1)
              · exact ⟨u, a1, by omega, a3⟩
              · exact ⟨i, by omega, by omega, by rw [e, a1], hk⟩
            · rintro ⟨u, a1, a2, a3, a4⟩
              by_cases e2 : u = i
              · subst e2
                rw [e, nI_eq (by omega) (by omega)] at a3
                exact Or.inr a3.symm
              · exact Or.inl ⟨u, a1, by omega, a3, a4⟩)
          repeat (first | refine Wp.at ih rfl rfl ?_ rfl | (refine W1 rfl ?_; try refine Wp.norm (L' := [_, _, _, _, _]) rfl ?_) | refine brT (by first | assumption | decide | omega) ?_ | refine brF (by first | assumption | decide | omega) ?_ | refine brTn (by first | assumption | decide | omega) ?_ | refine brFn (by first | assumption | decide | omega) ?_ | ((first | change (_ → _) ∧ (_ → _) | change vp_in _ _ ∧ _ | change ¬ _ ∧ _); simp (disch := omega) only [nI_clamp, nI_leI, nI_ltI, nI_eq, nI_1, nI_add, nI_not_neg, nI_is_pos, nI_m1, nI_z]) | refine And.intro (vp_in_nI (by omega) (by decide)) ?_ | refine And.intro (vp_lit (by decide)) ?_)
          try change _ ∧ _
          first | rfl | (simp (disch := omega) only [nI_1, nI_add, nI_clamp, R.srv] <;> first | done | rfl)
  repeat (first | (refine W1 rfl ?_; try refine Wp.norm (L' := [_, _, _, _, _]) rfl ?_) | refine brT (by first | assumption | decide | omega) ?_ | refine brF (by first | assumption | decide | omega) ?_ | refine brTn (by first | assumption | decide | omega) ?_ | refine brFn (by first | assumption | decide | omega) ?_ | ((first | change (_ → _) ∧ (_ → _) | change vp_in _ _ ∧ _ | change ¬ _ ∧ _); simp (disch := omega) only [nI_clamp, nI_leI, nI_ltI, nI_eq, nI_1, nI_add, nI_not_neg, nI_is_pos, nI_m1, nI_z]) | refine And.intro (vp_in_nI (by omega) (by decide)) ?_ | refine And.intro (vp_lit (by decide)) ?_)
  try change _ ∧ _
  refine Cl.of (r_Rota_dayStart R o ht) (by decide) ?_
  repeat (first | (refine W1 rfl ?_; try refine Wp.norm (L' := [_, _, _, _, _]) rfl ?_) | refine brT (by first | assumption | decide | omega) ?_ | refine brF (by first | assumption | decide | omega) ?_ | refine brTn (by first | assumption | decide | omega) ?_ | refine brFn (by first | assumption | decide | omega) ?_ | ((first | change (_ → _) ∧ (_ → _) | change vp_in _ _ ∧ _ | change ¬ _ ∧ _); simp (disch := omega) only [nI_clamp, nI_leI, nI_ltI, nI_eq, nI_1, nI_add, nI_not_neg, nI_is_pos, nI_m1, nI_z]) | refine And.intro (vp_in_nI (by omega) (by decide)) ?_ | refine And.intro (vp_lit (by decide)) ?_)
  try change _ ∧ _
  refine Cl.of (r_Rota_restStart R o ht) (by decide) ?_
  have ih := lp (dF s (tD s t - zL s)) h1 (Nat.le_refl _) 0 (fun q hq => by
    rw [bt_zero]
    simp
    intro u a1 a2
    omega)
  repeat (first | refine Wp.at ih rfl rfl ?_ rfl | (refine W1 rfl ?_; try refine Wp.norm (L' := [_, _, _, _, _]) rfl ?_) | refine brT (by first | assumption | decide | omega) ?_ | refine brF (by first | assumption | decide | omega) ?_ | refine brTn (by first | assumption | decide | omega) ?_ | refine brFn (by first | assumption | decide | omega) ?_ | ((first | change (_ → _) ∧ (_ → _) | change vp_in _ _ ∧ _ | change ¬ _ ∧ _); simp (disch := omega) only [nI_clamp, nI_leI, nI_ltI, nI_eq, nI_1, nI_add, nI_not_neg, nI_is_pos, nI_m1, nI_z]) | refine And.intro (vp_in_nI (by omega) (by decide)) ?_ | refine And.intro (vp_lit (by decide)) ?_)
  try change _ ∧ _
  first | rfl | (simp (disch := omega) only [nI_1, nI_add, nI_clamp] <;> first | done | rfl)
theorem r_Rota_isResting (R : RC s c v h) (o : OK s) {p t : Nat} (hp : p < zP s) (ht : t < zT s) : Run 1 j_Rota_isResting [.ref 45, .int (nI p), .int (nI t)] h (some (.int (bI (rsB s v p t)))) h := by
  have hT := o.T; have hP := o.P; have hK := o.K; have hD := o.D; have hO := o.O; have hQ := o.Q; have hL := o.L
  have hd := o.day ht
  have h1 := dF_mono o (show tD s t - zL s ≤ tD s t by omega) (by omega)
  have h2 := dF_le o (show tD s t < 201 by omega)
  have lp : ∀ i, i ≤ dF s (tD s t) → dF s (tD s t - zL s) ≤ i → (¬ ∃ u, dF s (tD s t - zL s) ≤ u ∧ u < i ∧ v u = nI p ∧ asks s u t = true) → Wp 1 j_Rota_isResting 13 [.ref 45, .int (nI p), .int (nI t), .int (nI (dF s (tD s t))), .int (nI i)] [] h (fun v' h2 => v' = some (.int (bI (rsB s v p t))) ∧ h2 = h) := by
    refine up_ind ?_ (fun i hi ih => ?_)
    · intro _ B
      repeat (first | (refine W1 rfl ?_; try refine Wp.norm (L' := [_, _, _, _, _]) rfl ?_) | refine brT (by first | assumption | decide | omega) ?_ | refine brF (by first | assumption | decide | omega) ?_ | refine brTn (by first | assumption | decide | omega) ?_ | refine brFn (by first | assumption | decide | omega) ?_ | ((first | change (_ → _) ∧ (_ → _) | change vp_in _ _ ∧ _ | change ¬ _ ∧ _); simp (disch := omega) only [nI_clamp, nI_leI, nI_ltI, nI_eq, nI_1, nI_add, nI_not_neg, nI_is_pos, nI_m1, nI_z]) | refine And.intro (vp_in_nI (by omega) (by decide)) ?_ | refine And.intro (vp_lit (by decide)) ?_)
      try change _ ∧ _
      rw [← rs_range o p ht] at B
      rw [show rsB s v p t = false by simpa using B]
      try first | exact ⟨rfl, rfl⟩ | exact ⟨Or.inr rfl, rfl, rfl⟩ | exact ⟨Or.inl rfl, rfl, rfl⟩ | exact ⟨trivial, trivial⟩ | exact ⟨rfl, trivial⟩ | exact ⟨Or.inr rfl, rfl, trivial⟩ | exact ⟨Or.inl rfl, rfl, trivial⟩
    · intro hlo B
      have hiT : i < zT s := by omega
      have hit := (dF_lt o hiT (show tD s t < 201 by omega)).mp hi
      have same : ¬ (v i = nI p ∧ asks s i t = true) → ¬ ∃ u, dF s (tD s t - zL s) ≤ u ∧ u < i + 1 ∧ v u = nI p ∧ asks s u t = true := by
        rintro hno ⟨u, a1, a2, a3, a4⟩
        by_cases e : u = i
        · subst e; exact hno ⟨a3, a4⟩
        · exact B ⟨u, a1, by omega, a3, a4⟩
      repeat (first | (refine W1 rfl ?_; try refine Wp.norm (L' := [_, _, _, _, _]) rfl ?_) | refine brT (by first | assumption | decide | omega) ?_ | refine brF (by first | assumption | decide | omega) ?_ | refine brTn (by first | assumption | decide | omega) ?_ | refine brFn (by first | assumption | decide | omega) ?_ | ((first | change (_ → _) ∧ (_ → _) | change vp_in _ _ ∧ _ | change ¬ _ ∧ _); simp (disch := omega) only [nI_clamp, nI_leI, nI_ltI, nI_eq, nI_1, nI_add, nI_not_neg, nI_is_pos, nI_m1, nI_z, R.srv]) | refine And.intro (vp_in_nI (by omega) (by decide)) ?_ | refine And.intro (vp_lit (by decide)) ?_)
      try change _ ∧ _
      refine ⟨fun q2 => ?_, fun q2 => ?_⟩
      · have ih := ih (by omega) (same (fun z => q2 z.1))
        repeat (first | refine Wp.at ih rfl rfl ?_ rfl | (refine W1 rfl ?_; try refine Wp.norm (L' := [_, _, _, _, _]) rfl ?_) | refine brT (by first | assumption | decide | omega) ?_ | refine brF (by first | assumption | decide | omega) ?_ | refine brTn (by first | assumption | decide | omega) ?_ | refine brFn (by first | assumption | decide | omega) ?_ | ((first | change (_ → _) ∧ (_ → _) | change vp_in _ _ ∧ _ | change ¬ _ ∧ _); simp (disch := omega) only [nI_clamp, nI_leI, nI_ltI, nI_eq, nI_1, nI_add, nI_not_neg, nI_is_pos, nI_m1, nI_z]) | refine And.intro (vp_in_nI (by omega) (by decide)) ?_ | refine And.intro (vp_lit (by decide)) ?_)
        try change _ ∧ _
        first | rfl | (simp (disch := omega) only [nI_1, nI_add, nI_clamp] <;> first | done | rfl)
      · repeat (first | (refine W1 rfl ?_; try refine Wp.norm (L' := [_, _, _, _, _]) rfl ?_) | refine brT (by first | assumption | decide | omega) ?_ | refine brF (by first | assumption | decide | omega) ?_ | refine brTn (by first | assumption | decide | omega) ?_ | refine brFn (by first | assumption | decide | omega) ?_ | ((first | change (_ → _) ∧ (_ → _) | change vp_in _ _ ∧ _ | change ¬ _ ∧ _); simp (disch := omega) only [nI_clamp, nI_leI, nI_ltI, nI_eq, nI_1, nI_add, nI_not_neg, nI_is_pos, nI_m1, nI_z]) | refine And.intro (vp_in_nI (by omega) (by decide)) ?_ | refine And.intro (vp_lit (by decide)) ?_)
        try change _ ∧ _
        refine Cl.of (r_Rota_asksRest R o hiT ht (Nat.le_of_lt hit)) (by decide) ?_
        cases hk : asks s i t with
        | false =>
          have ih := ih (by omega) (same (fun z => by rw [hk] at z; cases z.2))
          repeat (first | refine Wp.at ih rfl rfl ?_ rfl | (refine W1 rfl ?_; try refine Wp.norm (L' := [_, _, _, _, _]) rfl ?_) | refine brT (by first | assumption | decide | omega) ?_ | refine brF (by first | assumption | decide | omega) ?_ | refine brTn (by first | assumption | decide | omega) ?_ | refine brFn (by first | assumption | decide | omega) ?_ | ((first | change (_ → _) ∧ (_ → _) | change vp_in _ _ ∧ _ | change ¬ _ ∧ _); simp (disch := omega) only [nI_clamp, nI_leI, nI_ltI, nI_eq, nI_1, nI_add, nI_not_neg, nI_is_pos, nI_m1, nI_z]) | refine And.intro (vp_in_nI (by omega) (by decide)) ?_ | refine And.intro (vp_lit (by decide)) ?_)
          try change _ ∧ _
          first | rfl | (simp (disch := omega) only [nI_1, nI_add, nI_clamp] <;> first | done | rfl)
        | true =>
          repeat (first | (refine W1 rfl ?_; try refine Wp.norm (L' := [_, _, _, _, _]) rfl ?_) | refine brT (by first | assumption | decide | omega) ?_ | refine brF (by first | assumption | decide | omega) ?_ | refine brTn (by first | assumption | decide | omega) ?_ | refine brFn (by first | assumption | decide | omega) ?_ | ((first | change (_ → _) ∧ (_ → _) | change vp_in _ _ ∧ _ | change ¬ _ ∧ _); simp (disch := omega) only [nI_clamp, nI_leI, nI_ltI, nI_eq, nI_1, nI_add, nI_not_neg, nI_is_pos, nI_m1, nI_z]) | refine And.intro (vp_in_nI (by omega) (by decide)) ?_ | refine And.intro (vp_lit (by decide)) ?_)
          try change _ ∧ _
          rw [show rsB s v p t = true from (rs_range o p ht).mpr ⟨i, hlo, hi, q2, hk⟩]
          try first | exact ⟨rfl, rfl⟩ | exact ⟨Or.inr rfl, rfl, rfl⟩ | exact ⟨Or.inl rfl, rfl, rfl⟩ | exact ⟨trivial, trivial⟩ | exact ⟨rfl, trivial⟩ | exact ⟨Or.inr rfl, rfl, trivial⟩ | exact ⟨Or.inl rfl, rfl, trivial⟩
  refine Run.of rfl ?_
  refine Wp.norm (L' := [_, _, _, _, _]) rfl ?_
  repeat (first | (refine W1 rfl ?_; try refine Wp.norm (L' := [_, _, _, _, _]) rfl ?_) | refine brT (by first | assumption | decide | omega) ?_ | refine brF (by first | assumption | decide | omega) ?_ | refine brTn (by first | assumption | decide | omega) ?_ | refine brFn (by first | assumption | decide | omega) ?_ | ((first | change (_ → _) ∧ (_ → _) | change vp_in _ _ ∧ _ | change ¬ _ ∧ _); simp (disch := omega) only [nI_clamp, nI_leI, nI_ltI, nI_eq, nI_1, nI_add, nI_not_neg, nI_is_pos, nI_m1, nI_z]) | refine And.intro (vp_in_nI (by omega) (by decide)) ?_ | refine And.intro (vp_lit (by decide)) ?_)
  try change _ ∧ _
  refine Cl.of (r_Rota_dayStart R o ht) (by decide) ?_
  repeat (first | (refine W1 rfl ?_; try refine Wp.norm (L' := [_, _, _, _, _]) rfl ?_) | refine brT (by first | assumption | decide | omega) ?_ | refine brF (by first | assumption | decide | omega) ?_ | refine brTn (by first | assumption | decide | omega) ?_ | refine brFn (by first | assumption | decide | omega) ?_ | ((first | change (_ → _) ∧ (_ → _) | change vp_in _ _ ∧ _ | change ¬ _ ∧ _); simp (disch := omega) only [nI_clamp, nI_leI, nI_ltI, nI_eq, nI_1, nI_add, nI_not_neg, nI_is_pos, nI_m1, nI_z]) | refine And.intro (vp_in_nI (by omega) (by decide)) ?_ | refine And.intro (vp_lit (by decide)) ?_)
  try change _ ∧ _
  refine Cl.of (r_Rota_restStart R o ht) (by decide) ?_
  have ih := lp (dF s (tD s t - zL s)) h1 (Nat.le_refl _) (by rintro ⟨u, a1, a2, _⟩; omega)
  repeat (first | refine Wp.at ih rfl rfl ?_ rfl | (refine W1 rfl ?_; try refine Wp.norm (L' := [_, _, _, _, _]) rfl ?_) | refine brT (by first | assumption | decide | omega) ?_ | refine brF (by first | assumption | decide | omega) ?_ | refine brTn (by first | assumption | decide | omega) ?_ | refine brFn (by first | assumption | decide | omega) ?_ | ((first | change (_ → _) ∧ (_ → _) | change vp_in _ _ ∧ _ | change ¬ _ ∧ _); simp (disch := omega) only [nI_clamp, nI_leI, nI_ltI, nI_eq, nI_1, nI_add, nI_not_neg, nI_is_pos, nI_m1, nI_z]) | refine And.intro (vp_in_nI (by omega) (by decide)) ?_ | refine And.intro (vp_lit (by decide)) ?_)
  try change _ ∧ _
  first | rfl | (simp (disch := omega) only [nI_1, nI_add, nI_clamp] <;> first | done | rfl)
end BARC
