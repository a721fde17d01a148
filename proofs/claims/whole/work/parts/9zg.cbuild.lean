/-! ===== THE CLASS LAYS THE TURNS ===== -/
/-- what the calendar needs of the house, the table of truths -/
def HC (s : ST) (C : List Nat) (h : HP) : Prop :=
  (h.1 7 0 = nI (zD s) ∧ h.1 7 1 = nI (zP s) ∧ h.1 7 2 = nI (zK s) ∧ h.1 28 2 = nI (s 0 7)) ∧
  (∀ p, p < zP s → h.1 9 p = nI (pS s p) ∧ h.1 10 p = nI (s 24 p) ∧ h.1 11 p = nI (s 25 p)) ∧
  (∀ x, x < s 0 7 → h.1 30 x = (if s 28 x = 99 then -1 else nI (s 28 x)) ∧ h.1 31 x = nI (s 29 x)) ∧ TRp (pr s (s 0 7) 0) s C h
def clL : List Nat := [36, 37, 38, 39, 40, 41, 42, 43, 44]
section CBD
variable {s : ST} {C : List Nat} {h h' : HP}
theorem HC.o (H : HC s C h) (O : onlyJ clL [] h h') : HC s C h' := by
  have e : ∀ k i, k < 36 → h'.1 k i = h.1 k i := fun k i hk => O.1 k i (fun z => by simp [clL] at z; omega)
  obtain ⟨d1, d2, d3, d4⟩ := H
  refine ⟨?_, fun p hp => ?_, fun p hp => ?_, fun x w k hx hw hk => ?_⟩
  · rw [e 7 _ (by decide), e 7 _ (by decide), e 7 _ (by decide), e 28 _ (by decide)]; exact d1
  · rw [e 9 _ (by decide), e 10 _ (by decide), e 11 _ (by decide)]; exact d2 p hp
  · rw [e 30 _ (by decide), e 31 _ (by decide)]; exact d3 p hp
  · rw [e 33 _ (by decide)]; exact d4 x w k hx hw hk
theorem c_holds {x d : Nat} (H : HC s C h) (hx : x < s 0 7) (hX : s 0 7 ≤ 60) (hd : d < zD s) (hD : zD s ≤ 200) : Run 0 j_Tests_holds [.ref 28, .int (nI x), .int (nI d)] h (some (.int (bI (hdB s C (s 31 x) d)))) h := by
  have t := H.2.2.2 x (d / 32) (d % 32) (by omega) (by omega) (by omega)
  rw [show 32 * (d / 32) + d % 32 = d by omega] at t
  have hp : pr s (s 0 7) 0 x d = true := decide_eq_true (by omega)
  rw [hp, Bool.true_and] at t
  obtain ⟨e5, e6⟩ := n32 (d := d) (by omega)
  have e7 : nI x * 7 = nI (x * 7) := by rw [show (7 : Int32) = nI 7 from rfl, pk_mul]
  have es := shr1 (h.1 33 (x * 7 + d / 32)) (p := d % 32) (by omega)
  rw [t] at es
  cases hB : hdB s C (s 31 x) d with
  | false =>
    rw [hB, if_neg (by decide)] at es
    rw [bI_f]
    refine Run.of rfl ?_
    refine Wp.norm (L' := [_, _, _]) rfl ?_
    repeat (first | (refine W1 rfl ?_; try refine Wp.norm (L' := [_, _, _]) rfl ?_) | ((first | change (_ → _) ∧ (_ → _) | change vp_in _ _ ∧ _ | change ¬ _ ∧ _); simp (disch := omega) only [nI_clamp, nI_leI, nI_ltI, nI_eq, nI_1, nI_add, nI_not_neg, nI_is_pos, nI_m1, nI_z, e5, e6, e7, es]) | refine brT (by first | assumption | decide | omega) ?_ | refine brF (by first | assumption | decide | omega) ?_ | refine brTn (by first | assumption | decide | omega) ?_ | refine brFn (by first | assumption | decide | omega) ?_ | refine And.intro (vp_in_nI (by omega) (by decide)) ?_ | refine And.intro (vp_lit (by decide)) ?_ | refine divJ (by decide) ?_ | refine divI (by decide) ?_)
    try change _ ∧ _
    try first | exact ⟨rfl, rfl⟩ | exact ⟨Or.inr rfl, rfl, rfl⟩ | exact ⟨Or.inl rfl, rfl, rfl⟩ | exact ⟨trivial, trivial⟩ | exact ⟨rfl, trivial⟩ | exact ⟨Or.inr rfl, rfl, trivial⟩ | exact ⟨Or.inl rfl, rfl, trivial⟩
  | true =>
    rw [hB, if_pos rfl] at es
    rw [bI_t]
    refine Run.of rfl ?_
    refine Wp.norm (L' := [_, _, _]) rfl ?_
    repeat (first | (refine W1 rfl ?_; try refine Wp.norm (L' := [_, _, _]) rfl ?_) | ((first | change (_ → _) ∧ (_ → _) | change vp_in _ _ ∧ _ | change ¬ _ ∧ _); simp (disch := omega) only [nI_clamp, nI_leI, nI_ltI, nI_eq, nI_1, nI_add, nI_not_neg, nI_is_pos, nI_m1, nI_z, e5, e6, e7, es]) | refine brT (by first | assumption | decide | omega) ?_ | refine brF (by first | assumption | decide | omega) ?_ | refine brTn (by first | assumption | decide | omega) ?_ | refine brFn (by first | assumption | decide | omega) ?_ | refine And.intro (vp_in_nI (by omega) (by decide)) ?_ | refine And.intro (vp_lit (by decide)) ?_ | refine divJ (by decide) ?_ | refine divI (by decide) ?_)
    try change _ ∧ _
    try first | exact ⟨rfl, rfl⟩ | exact ⟨Or.inr rfl, rfl, rfl⟩ | exact ⟨Or.inl rfl, rfl, rfl⟩ | exact ⟨trivial, trivial⟩ | exact ⟨rfl, trivial⟩ | exact ⟨Or.inr rfl, rfl, trivial⟩ | exact ⟨Or.inl rfl, rfl, trivial⟩
theorem c_present {d : Nat} (H : HC s C h) (j : J s C) (hd : d < 200) : ∃ w h', Run 0 j_Calendar_present [.ref 36, .int (nI d)] h w h' ∧ (h' = h ∧ ∃ m, w = some (.int m) ∧ ∀ q, q < 32 → bt m q = (decide (q < zP s) && presB s d q)) := by
  refine Run.ofP rfl ?_
  refine Wp.norm (L' := [_, _, _, _]) rfl ?_
  generalize hQQ : (fun (w : Option Value) (h' : HP) => h' = h ∧ ∃ m, w = some (.int m) ∧ ∀ q, q < 32 → bt m q = (decide (q < zP s) && presB s d q)) = QQ
  have eP := H.1.2.1
  have hP := j.1.1.1.1.1
  have lp : ∀ i, i ≤ zP s → ∀ m : Int32, (∀ q, q < 32 → bt m q = (decide (q < i) && presB s d q)) → Wp 0 j_Calendar_present 4 [.ref 36, .int (nI d), .int m, .int (nI i)] [] h QQ := by
    refine up_ind ?_ (fun i hi ih => ?_)
    · intro m hm
      show Wp 0 j_Calendar_present _ _ _ _ _
      repeat (first | (refine W1 rfl ?_; try refine Wp.norm (L' := [_, _, _, _]) rfl ?_) | ((first | change (_ → _) ∧ (_ → _) | change vp_in _ _ ∧ _ | change ¬ _ ∧ _); simp (disch := omega) only [nI_clamp, nI_leI, nI_ltI, nI_eq, nI_1, nI_add, nI_not_neg, nI_is_pos, nI_m1, nI_z, eP]) | refine brT (by first | assumption | decide | omega) ?_ | refine brF (by first | assumption | decide | omega) ?_ | refine brTn (by first | assumption | decide | omega) ?_ | refine brFn (by first | assumption | decide | omega) ?_ | refine And.intro (vp_in_nI (by omega) (by decide)) ?_ | refine And.intro (vp_lit (by decide)) ?_ | refine divJ (by decide) ?_ | refine divI (by decide) ?_)
      try change _ ∧ _
      rw [← hQQ]
      exact ⟨rfl, m, rfl, hm⟩
    · intro m hm
      obtain ⟨e9, e10, e11⟩ := H.2.1 i hi
      have b := j.1.2.2.1 i hi
      by_cases c : s 24 i ≤ d ∧ d ≤ s 25 i
      · have hpb : presB s d i = true := decide_eq_true c
        have ih := ih (m ||| (1 <<< (nI i &&& 31))) (fun q hq => by
          rw [bt_or, bt_shl (by omega) hq, hm q hq]
          by_cases e : q = i
          · subst e; simp [hpb]
          · by_cases e2 : q < i
            · simp [e, e2, show q < i + 1 by omega]
            · simp [e, e2, show ¬ q < i + 1 by omega])
        show Wp 0 j_Calendar_present _ _ _ _ _
        (refine W1 rfl ?_; try refine Wp.norm (L' := [_, _, _, _]) rfl ?_)
        repeat (first | refine Wp.at ih rfl rfl ?_ rfl | (refine W1 rfl ?_; try refine Wp.norm (L' := [_, _, _, _]) rfl ?_) | ((first | change (_ → _) ∧ (_ → _) | change vp_in _ _ ∧ _ | change ¬ _ ∧ _); simp (disch := omega) only [nI_clamp, nI_leI, nI_ltI, nI_eq, nI_1, nI_add, nI_not_neg, nI_is_pos, nI_m1, nI_z, eP, e10, e11]) | refine brT (by first | assumption | decide | omega) ?_ | refine brF (by first | assumption | decide | omega) ?_ | refine brTn (by first | assumption | decide | omega) ?_ | refine brFn (by first | assumption | decide | omega) ?_ | refine And.intro (vp_in_nI (by omega) (by decide)) ?_ | refine And.intro (vp_lit (by decide)) ?_ | refine divJ (by decide) ?_ | refine divI (by decide) ?_)
        try change _ ∧ _
        first | done | rfl | (simp (disch := omega) only [nI_1, nI_add, nI_clamp] <;> first | done | rfl)
      · have hpb : presB s d i = false := decide_eq_false c
        have ih := ih m (fun q hq => by
          rw [hm q hq]
          by_cases e : q = i
          · subst e; simp [hpb]
          · by_cases e2 : q < i
            · simp [e2, show q < i + 1 by omega]
            · simp [e2, show ¬ q < i + 1 by omega])
        by_cases c2 : s 24 i ≤ d
        · have c3 : s 25 i < d := by omega
          show Wp 0 j_Calendar_present _ _ _ _ _
          (refine W1 rfl ?_; try refine Wp.norm (L' := [_, _, _, _]) rfl ?_)
          repeat (first | refine Wp.at ih rfl rfl ?_ rfl | (refine W1 rfl ?_; try refine Wp.norm (L' := [_, _, _, _]) rfl ?_) | ((first | change (_ → _) ∧ (_ → _) | change vp_in _ _ ∧ _ | change ¬ _ ∧ _); simp (disch := omega) only [nI_clamp, nI_leI, nI_ltI, nI_eq, nI_1, nI_add, nI_not_neg, nI_is_pos, nI_m1, nI_z, eP, e10, e11]) | refine brT (by first | assumption | decide | omega) ?_ | refine brF (by first | assumption | decide | omega) ?_ | refine brTn (by first | assumption | decide | omega) ?_ | refine brFn (by first | assumption | decide | omega) ?_ | refine And.intro (vp_in_nI (by omega) (by decide)) ?_ | refine And.intro (vp_lit (by decide)) ?_ | refine divJ (by decide) ?_ | refine divI (by decide) ?_)
          try change _ ∧ _
          first | done | rfl | (simp (disch := omega) only [nI_1, nI_add, nI_clamp] <;> first | done | rfl)
        · have c3 : d < s 24 i := by omega
          show Wp 0 j_Calendar_present _ _ _ _ _
          (refine W1 rfl ?_; try refine Wp.norm (L' := [_, _, _, _]) rfl ?_)
          repeat (first | refine Wp.at ih rfl rfl ?_ rfl | (refine W1 rfl ?_; try refine Wp.norm (L' := [_, _, _, _]) rfl ?_) | ((first | change (_ → _) ∧ (_ → _) | change vp_in _ _ ∧ _ | change ¬ _ ∧ _); simp (disch := omega) only [nI_clamp, nI_leI, nI_ltI, nI_eq, nI_1, nI_add, nI_not_neg, nI_is_pos, nI_m1, nI_z, eP, e10, e11]) | refine brT (by first | assumption | decide | omega) ?_ | refine brF (by first | assumption | decide | omega) ?_ | refine brTn (by first | assumption | decide | omega) ?_ | refine brFn (by first | assumption | decide | omega) ?_ | refine And.intro (vp_in_nI (by omega) (by decide)) ?_ | refine And.intro (vp_lit (by decide)) ?_ | refine divJ (by decide) ?_ | refine divI (by decide) ?_)
          try change _ ∧ _
          first | done | rfl | (simp (disch := omega) only [nI_1, nI_add, nI_clamp] <;> first | done | rfl)
  have ih := lp 0 (Nat.zero_le _) 0 (fun q hq => by rw [bt_zero]; simp)
  show Wp 0 j_Calendar_present _ _ _ _ _
  repeat (first | refine Wp.at ih rfl rfl ?_ rfl | (refine W1 rfl ?_; try refine Wp.norm (L' := [_, _, _, _]) rfl ?_) | ((first | change (_ → _) ∧ (_ → _) | change vp_in _ _ ∧ _ | change ¬ _ ∧ _); simp (disch := omega) only [nI_clamp, nI_leI, nI_ltI, nI_eq, nI_1, nI_add, nI_not_neg, nI_is_pos, nI_m1, nI_z]) | refine brT (by first | assumption | decide | omega) ?_ | refine brF (by first | assumption | decide | omega) ?_ | refine brTn (by first | assumption | decide | omega) ?_ | refine brFn (by first | assumption | decide | omega) ?_ | refine And.intro (vp_in_nI (by omega) (by decide)) ?_ | refine And.intro (vp_lit (by decide)) ?_ | refine divJ (by decide) ?_ | refine divI (by decide) ?_)
  try change _ ∧ _
  first | done | rfl | (simp (disch := omega) only [nI_1, nI_add, nI_clamp] <;> first | done | rfl)
theorem mS_16 (j : J s C) (m n : Nat) (hn : n ≤ zP s) : mS s m n ≤ 16 := by
  have h1 : mS s m n ≤ sm (pS s) n := sm_le (fun i _ => by split <;> omega)
  have h2 := sm_mono (pS s) hn
  have h3 := j.1.2.1
  have h4 := j.1.1.1.1.2.2.1
  omega
theorem c_unit {M : Nat} (H : HC s C h) (j : J s C) (hM : M < 65536) : Run 0 j_Calendar_unitAmong [.ref 36, .int (nI M)] h (some (.int (nI (720720 / mS s M (zP s))))) h := by
  have eP := H.1.2.1
  have hP := j.1.1.1.1.1
  refine Run.of rfl ?_
  refine Wp.norm (L' := [_, _, _, _]) rfl ?_
  have lp : ∀ i, i ≤ zP s → Wp 0 j_Calendar_unitAmong 4 [.ref 36, .int (nI M), .int (nI (mS s M i)), .int (nI i)] [] h (fun v2 h2 => v2 = some (.int (nI (720720 / mS s M (zP s)))) ∧ h2 = h) := by
    refine up_ind ?_ (fun i hi ih => ?_)
    · have h16 := mS_16 j M (zP s) (Nat.le_refl _)
      generalize mS s M (zP s) = v at *
      by_cases c : v = 0
      · subst c
        rw [Nat.div_zero]
        show Wp 0 j_Calendar_unitAmong _ _ _ _ _
        repeat (first | (refine W1 rfl ?_; try refine Wp.norm (L' := [_, _, _, _]) rfl ?_) | ((first | change (_ → _) ∧ (_ → _) | change vp_in _ _ ∧ _ | change ¬ _ ∧ _); simp (disch := omega) only [nI_clamp, nI_leI, nI_ltI, nI_eq, nI_1, nI_add, nI_not_neg, nI_is_pos, nI_m1, nI_z, eP]) | refine brT (by first | assumption | decide | omega) ?_ | refine brF (by first | assumption | decide | omega) ?_ | refine brTn (by first | assumption | decide | omega) ?_ | refine brFn (by first | assumption | decide | omega) ?_ | refine And.intro (vp_in_nI (by omega) (by decide)) ?_ | refine And.intro (vp_lit (by decide)) ?_ | refine divJ (by decide) ?_ | refine divI (by decide) ?_)
        try change _ ∧ _
        try first | exact ⟨rfl, rfl⟩ | exact ⟨Or.inr rfl, rfl, rfl⟩ | exact ⟨Or.inl rfl, rfl, rfl⟩ | exact ⟨trivial, trivial⟩ | exact ⟨rfl, trivial⟩ | exact ⟨Or.inr rfl, rfl, trivial⟩ | exact ⟨Or.inl rfl, rfl, trivial⟩
      · have e1 : ¬ nI v = 0 := fun z => c ((nI_z (by omega)).mp z)
        have e2 : (720720 : Int32) / nI v = nI (720720 / v) := by rw [show (720720 : Int32) = nI 720720 from rfl, pk_div (by decide) (by omega) (by omega)]
        show Wp 0 j_Calendar_unitAmong _ _ _ _ _
        repeat (first | (refine W1 rfl ?_; try refine Wp.norm (L' := [_, _, _, _]) rfl ?_) | ((first | change (_ → _) ∧ (_ → _) | change vp_in _ _ ∧ _ | change ¬ _ ∧ _); simp (disch := omega) only [nI_clamp, nI_leI, nI_ltI, nI_eq, nI_1, nI_add, nI_not_neg, nI_is_pos, nI_m1, nI_z, eP]) | refine brT (by first | assumption | decide | omega) ?_ | refine brF (by first | assumption | decide | omega) ?_ | refine brTn (by first | assumption | decide | omega) ?_ | refine brFn (by first | assumption | decide | omega) ?_ | refine And.intro (vp_in_nI (by omega) (by decide)) ?_ | refine And.intro (vp_lit (by decide)) ?_ | refine divJ (by decide) ?_ | refine divI (by decide) ?_)
        try change _ ∧ _
        refine ⟨by first | exact c | exact e1, ?_⟩
        show Wp 0 j_Calendar_unitAmong _ _ _ _ _
        repeat (first | (refine W1 rfl ?_; try refine Wp.norm (L' := [_, _, _, _]) rfl ?_) | ((first | change (_ → _) ∧ (_ → _) | change vp_in _ _ ∧ _ | change ¬ _ ∧ _); simp (disch := omega) only [nI_clamp, nI_leI, nI_ltI, nI_eq, nI_1, nI_add, nI_not_neg, nI_is_pos, nI_m1, nI_z]) | refine brT (by first | assumption | decide | omega) ?_ | refine brF (by first | assumption | decide | omega) ?_ | refine brTn (by first | assumption | decide | omega) ?_ | refine brFn (by first | assumption | decide | omega) ?_ | refine And.intro (vp_in_nI (by omega) (by decide)) ?_ | refine And.intro (vp_lit (by decide)) ?_ | refine divJ (by decide) ?_ | refine divI (by decide) ?_)
        try change _ ∧ _
        exact ⟨congrArg (fun z => some (Value.int z)) e2, rfl⟩
    · obtain ⟨e9, e10, e11⟩ := H.2.1 i hi
      have es := shr1 (nI M) (p := i) (by omega)
      rw [bt_nI (by omega)] at es
      have h16 := mS_16 j M i (by omega)
      have b := j.1.2.2.1 i hi
      have hst : mS s M (i + 1) = mS s M i + (if M.testBit i then pS s i else 0) := rfl
      rw [hst] at ih
      cases hB : M.testBit i with
      | false =>
        rw [hB, if_neg (by decide)] at es ih
        rw [Nat.add_zero] at ih
        show Wp 0 j_Calendar_unitAmong _ _ _ _ _
        (refine W1 rfl ?_; try refine Wp.norm (L' := [_, _, _, _]) rfl ?_)
        repeat (first | refine Wp.at ih rfl rfl ?_ rfl | (refine W1 rfl ?_; try refine Wp.norm (L' := [_, _, _, _]) rfl ?_) | ((first | change (_ → _) ∧ (_ → _) | change vp_in _ _ ∧ _ | change ¬ _ ∧ _); simp (disch := omega) only [nI_clamp, nI_leI, nI_ltI, nI_eq, nI_1, nI_add, nI_not_neg, nI_is_pos, nI_m1, nI_z, eP, es]) | refine brT (by first | assumption | decide | omega) ?_ | refine brF (by first | assumption | decide | omega) ?_ | refine brTn (by first | assumption | decide | omega) ?_ | refine brFn (by first | assumption | decide | omega) ?_ | refine And.intro (vp_in_nI (by omega) (by decide)) ?_ | refine And.intro (vp_lit (by decide)) ?_ | refine divJ (by decide) ?_ | refine divI (by decide) ?_)
        try change _ ∧ _
        first | done | rfl | (simp (disch := omega) only [nI_1, nI_add, nI_clamp] <;> first | done | rfl)
      | true =>
        rw [hB, if_pos rfl] at es ih
        show Wp 0 j_Calendar_unitAmong _ _ _ _ _
        (refine W1 rfl ?_; try refine Wp.norm (L' := [_, _, _, _]) rfl ?_)
        repeat (first | refine Wp.at ih rfl rfl ?_ rfl | (refine W1 rfl ?_; try refine Wp.norm (L' := [_, _, _, _]) rfl ?_) | ((first | change (_ → _) ∧ (_ → _) | change vp_in _ _ ∧ _ | change ¬ _ ∧ _); simp (disch := omega) only [nI_clamp, nI_leI, nI_ltI, nI_eq, nI_1, nI_add, nI_not_neg, nI_is_pos, nI_m1, nI_z, eP, es, e9]) | refine brT (by first | assumption | decide | omega) ?_ | refine brF (by first | assumption | decide | omega) ?_ | refine brTn (by first | assumption | decide | omega) ?_ | refine brFn (by first | assumption | decide | omega) ?_ | refine And.intro (vp_in_nI (by omega) (by decide)) ?_ | refine And.intro (vp_lit (by decide)) ?_ | refine divJ (by decide) ?_ | refine divI (by decide) ?_)
        try change _ ∧ _
        first | done | rfl | (simp (disch := omega) only [nI_1, nI_add, nI_clamp, e9] <;> first | done | rfl)
  have ih := lp 0 (Nat.zero_le _)
  repeat (first | refine Wp.at ih rfl rfl ?_ rfl | (refine W1 rfl ?_; try refine Wp.norm (L' := [_, _, _, _]) rfl ?_) | ((first | change (_ → _) ∧ (_ → _) | change vp_in _ _ ∧ _ | change ¬ _ ∧ _); simp (disch := omega) only [nI_clamp, nI_leI, nI_ltI, nI_eq, nI_1, nI_add, nI_not_neg, nI_is_pos, nI_m1, nI_z]) | refine brT (by first | assumption | decide | omega) ?_ | refine brF (by first | assumption | decide | omega) ?_ | refine brTn (by first | assumption | decide | omega) ?_ | refine brFn (by first | assumption | decide | omega) ?_ | refine And.intro (vp_in_nI (by omega) (by decide)) ?_ | refine And.intro (vp_lit (by decide)) ?_ | refine divJ (by decide) ?_ | refine divI (by decide) ?_)
  try change _ ∧ _
  first | done | rfl | (simp (disch := omega) only [nI_1, nI_add, nI_clamp] <;> first | done | rfl)
end CBD
