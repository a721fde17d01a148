/-! ===== THE MODEL READS NAMES ===== -/
section MNM
variable {b : Nat → Nat} {n i : Nat} {h h' : HP} {s : ST}
theorem r_kindOf {P x : Nat} (hx : x ≤ 1) (hP : P ≤ 6) (e : h.1 89 x = nI P) (z : Int64) : Run 0 j_M_kindOf [.ref 65, .int (nI x), .long z] h (some (.int (fV (fun p => decide (h.2 95 (6 * x + p) = z)) P))) h := by
  have hle := fI_le (fun p => decide (h.2 95 (6 * x + p) = z)) P
  have hno : ∀ k, k < fI (fun p => decide (h.2 95 (6 * x + p) = z)) P → ¬ h.2 95 (6 * x + k) = z := fun k hk => by simpa using fI_no hk
  have hyes : fI (fun p => decide (h.2 95 (6 * x + p) = z)) P < P → h.2 95 (6 * x + fI (fun p => decide (h.2 95 (6 * x + p) = z)) P) = z := fun z => by simpa using fI_yes z
  unfold fV
  generalize fI (fun p => decide (h.2 95 (6 * x + p) = z)) P = q at *
  have e16 : (6 : Int32) * nI x = nI (6 * x) := by rw [show (6 : Int32) = nI 6 from rfl, pk_mul]
  refine Run.of rfl ?_
  refine Wp.norm (L' := [_, _, _, _, _]) rfl ?_
  have lp : ∀ i, i ≤ q → Wp 0 j_M_kindOf 3 [.ref 65, .int (nI x), .long z, .null, .int (nI i)] [] h (fun v2 h2 => v2 = some (.int (if q < P then nI q else -1)) ∧ h2 = h) := by
    refine up_ind ?_ (fun i hi ih => ?_)
    · by_cases c : q < P
      · have hy := hyes c
        rw [if_pos c]
        repeat (first | (refine W1 rfl ?_; try refine Wp.norm (L' := [_, _, _, _, _]) rfl ?_) | ((first | change (_ → _) ∧ (_ → _) | change vp_in _ _ ∧ _ | change ¬ _ ∧ _); simp (disch := omega) only [nI_clamp, nI_leI, nI_ltI, nI_eq, nI_1, nI_add, nI_not_neg, nI_is_pos, nI_m1, nI_z, e, e16]) | refine brT (by first | assumption | decide | omega) ?_ | refine brF (by first | assumption | decide | omega) ?_ | refine brTn (by first | assumption | decide | omega) ?_ | refine brFn (by first | assumption | decide | omega) ?_ | refine And.intro (vp_in_nI (by omega) (by decide)) ?_ | refine And.intro (vp_lit (by decide)) ?_ | refine divJ (by decide) ?_ | refine divI (by decide) ?_)
        try change _ ∧ _
        rw [hy, lgc_eq]
        refine brFn rfl ?_
        repeat (first | (refine W1 rfl ?_; try refine Wp.norm (L' := [_, _, _, _, _]) rfl ?_) | ((first | change (_ → _) ∧ (_ → _) | change vp_in _ _ ∧ _ | change ¬ _ ∧ _); simp (disch := omega) only [nI_clamp, nI_leI, nI_ltI, nI_eq, nI_1, nI_add, nI_not_neg, nI_is_pos, nI_m1, nI_z]) | refine brT (by first | assumption | decide | omega) ?_ | refine brF (by first | assumption | decide | omega) ?_ | refine brTn (by first | assumption | decide | omega) ?_ | refine brFn (by first | assumption | decide | omega) ?_ | refine And.intro (vp_in_nI (by omega) (by decide)) ?_ | refine And.intro (vp_lit (by decide)) ?_ | refine divJ (by decide) ?_ | refine divI (by decide) ?_)
        try change _ ∧ _
        try first | exact ⟨rfl, rfl⟩ | exact ⟨Or.inr rfl, rfl, rfl⟩ | exact ⟨Or.inl rfl, rfl, rfl⟩ | exact ⟨trivial, trivial⟩ | exact ⟨rfl, trivial⟩ | exact ⟨Or.inr rfl, rfl, trivial⟩ | exact ⟨Or.inl rfl, rfl, trivial⟩
      · rw [if_neg c]
        repeat (first | (refine W1 rfl ?_; try refine Wp.norm (L' := [_, _, _, _, _]) rfl ?_) | ((first | change (_ → _) ∧ (_ → _) | change vp_in _ _ ∧ _ | change ¬ _ ∧ _); simp (disch := omega) only [nI_clamp, nI_leI, nI_ltI, nI_eq, nI_1, nI_add, nI_not_neg, nI_is_pos, nI_m1, nI_z, e]) | refine brT (by first | assumption | decide | omega) ?_ | refine brF (by first | assumption | decide | omega) ?_ | refine brTn (by first | assumption | decide | omega) ?_ | refine brFn (by first | assumption | decide | omega) ?_ | refine And.intro (vp_in_nI (by omega) (by decide)) ?_ | refine And.intro (vp_lit (by decide)) ?_ | refine divJ (by decide) ?_ | refine divI (by decide) ?_)
        try change _ ∧ _
        try first | exact ⟨rfl, rfl⟩ | exact ⟨Or.inr rfl, rfl, rfl⟩ | exact ⟨Or.inl rfl, rfl, rfl⟩ | exact ⟨trivial, trivial⟩ | exact ⟨rfl, trivial⟩ | exact ⟨Or.inr rfl, rfl, trivial⟩ | exact ⟨Or.inl rfl, rfl, trivial⟩
    · have hn := hno i hi
      (refine W1 rfl ?_; try refine Wp.norm (L' := [_, _, _, _, _]) rfl ?_)
      repeat (first | (refine W1 rfl ?_; try refine Wp.norm (L' := [_, _, _, _, _]) rfl ?_) | ((first | change (_ → _) ∧ (_ → _) | change vp_in _ _ ∧ _ | change ¬ _ ∧ _); simp (disch := omega) only [nI_clamp, nI_leI, nI_ltI, nI_eq, nI_1, nI_add, nI_not_neg, nI_is_pos, nI_m1, nI_z, e, e16]) | refine brT (by first | assumption | decide | omega) ?_ | refine brF (by first | assumption | decide | omega) ?_ | refine brTn (by first | assumption | decide | omega) ?_ | refine brFn (by first | assumption | decide | omega) ?_ | refine And.intro (vp_in_nI (by omega) (by decide)) ?_ | refine And.intro (vp_lit (by decide)) ?_ | refine divJ (by decide) ?_ | refine divI (by decide) ?_)
      try change _ ∧ _
      rw [lgc_eq]
      refine brTn hn ?_
      repeat (first | refine Wp.at ih rfl rfl ?_ rfl | (refine W1 rfl ?_; try refine Wp.norm (L' := [_, _, _, _, _]) rfl ?_) | ((first | change (_ → _) ∧ (_ → _) | change vp_in _ _ ∧ _ | change ¬ _ ∧ _); simp (disch := omega) only [nI_clamp, nI_leI, nI_ltI, nI_eq, nI_1, nI_add, nI_not_neg, nI_is_pos, nI_m1, nI_z]) | refine brT (by first | assumption | decide | omega) ?_ | refine brF (by first | assumption | decide | omega) ?_ | refine brTn (by first | assumption | decide | omega) ?_ | refine brFn (by first | assumption | decide | omega) ?_ | refine And.intro (vp_in_nI (by omega) (by decide)) ?_ | refine And.intro (vp_lit (by decide)) ?_ | refine divJ (by decide) ?_ | refine divI (by decide) ?_)
      try change _ ∧ _
      first | done | rfl | (simp (disch := omega) only [nI_1, nI_add, nI_clamp] <;> first | done | rfl)
  have ih := lp 0 (Nat.zero_le _)
  repeat (first | refine Wp.at ih rfl rfl ?_ rfl | (refine W1 rfl ?_; try refine Wp.norm (L' := [_, _, _, _, _]) rfl ?_) | ((first | change (_ → _) ∧ (_ → _) | change vp_in _ _ ∧ _ | change ¬ _ ∧ _); simp (disch := omega) only [nI_clamp, nI_leI, nI_ltI, nI_eq, nI_1, nI_add, nI_not_neg, nI_is_pos, nI_m1, nI_z]) | refine brT (by first | assumption | decide | omega) ?_ | refine brF (by first | assumption | decide | omega) ?_ | refine brTn (by first | assumption | decide | omega) ?_ | refine brFn (by first | assumption | decide | omega) ?_ | refine And.intro (vp_in_nI (by omega) (by decide)) ?_ | refine And.intro (vp_lit (by decide)) ?_ | refine divJ (by decide) ?_ | refine divI (by decide) ?_)
  try change _ ∧ _
  first | done | rfl | (simp (disch := omega) only [nI_1, nI_add, nI_clamp] <;> first | done | rfl)

theorem tS_12 (h1 : tS b n i = 1 ∨ tS b n i = 2) : ps b n i < n ∧ ltB b (ps b n i) = true ∧ jn b n i = false ∧ ¬ owV b n i < 20 := by
  have hp : ps b n i < n := ps_of (by omega)
  have ho : ¬ owV b n i < 20 := by rw [tS_ow (by omega)]; decide
  have h1' := h1
  unfold tS sP at h1
  rw [if_neg (by omega)] at h1
  cases zl : ltB b (ps b n i) with
  | true =>
    rw [zl, if_pos rfl] at h1
    cases zj : jn b n i with
    | false => exact ⟨hp, rfl, rfl, ho⟩
    | true =>
      rw [zj, if_pos rfl] at h1
      omega
  | false =>
    rw [zl, if_neg (by decide)] at h1
    exfalso
    revert h1
    split
    · split
      · decide
      · split <;> decide
    · decide
theorem tS_nm (hp : ps b n i < n) (hl : ltB b (ps b n i) = true) (hj : jn b n i = false) (ho : ¬ owV b n i < 20) : ¬ ox (wrd b n i) < 20 ∧ tS b n i = (if 6 < tl b n (ps b n i) then 2 else 1) ∧ tV b n i = (if 6 < tl b n (ps b n i) then 0 else e32 (wrd b n i)) := by
  have hx : ¬ ox (wrd b n i) < 20 := fun z => ho (by
    have := (ow_iff (b := b) (n := n) (i := i) z).mpr ⟨hp, hl, hj, ox_eq z⟩
    rw [this]; exact z)
  have h1 := tS_w hp hl hj
  have h2 := tV_w hp hl hj
  unfold wrd at hx ⊢
  rw [if_neg hx] at h1 h2
  exact ⟨hx, h1, h2⟩
theorem m_name {o : FO} (X : LZ b n o i h) : ∃ y h', Run 3 j_M_name [.ref 65] h (some (.long y)) h' ∧ LX h h' ∧ LZ b n (ch o (ckM b n i)) (i + 1) h' ∧ (ch o (ckM b n i) = none → y = lN (e27 (wrd b n i) 0) ∧ isW (wrd b n i) ∧ tV b n i = e32 (wrd b n i) ∧ ¬ ox (wrd b n i) < 20 ∧ h'.1 65 30 = nI (ps b n i)) := by
  cases o with
  | some e =>
    obtain ⟨f, p⟩ := e
    have X : LF f p h := X
    have hne := X.ne
    refine ⟨0, h, ?_, LX.rfl h, X, fun z => by rw [ch_s] at z; cases z⟩
    show Run 3 j_M_name _ _ _ _
    refine Run.of rfl ?_
    refine Wp.norm (L' := [_]) rfl ?_
    repeat (first | (refine W1 rfl ?_; try refine Wp.norm (L' := [_]) rfl ?_) | ((first | change (_ → _) ∧ (_ → _) | change vp_in _ _ ∧ _ | change ¬ _ ∧ _); simp (disch := omega) only [nI_clamp, nI_leI, nI_ltI, nI_eq, nI_1, nI_add, nI_not_neg, nI_is_pos, nI_m1, nI_z]) | refine brT (by first | assumption | decide | omega) ?_ | refine brF (by first | assumption | decide | omega) ?_ | refine brTn (by first | assumption | decide | omega) ?_ | refine brFn (by first | assumption | decide | omega) ?_ | refine And.intro (vp_in_nI (by omega) (by decide)) ?_ | refine And.intro (vp_lit (by decide)) ?_ | refine divJ (by decide) ?_ | refine divI (by decide) ?_)
    try change _ ∧ _
    try first | exact ⟨rfl, rfl⟩ | exact ⟨Or.inr rfl, rfl, rfl⟩ | exact ⟨Or.inl rfl, rfl, rfl⟩ | exact ⟨trivial, trivial⟩ | exact ⟨rfl, trivial⟩ | exact ⟨Or.inr rfl, rfl, trivial⟩ | exact ⟨Or.inl rfl, rfl, trivial⟩
  | none =>
    have X : ML b n i h := X
    rw [ch_n]
    have f0 := X.f0
    have hT := X.T.1
    have M2 := X.lk
    have rl := r_look X.T X.A
    have hpl := ps_le (b := b) (n := n) i
    have f1 := M2.f0
    have badc : ¬ (tS b n i = 1 ∨ tS b n i = 2) → ckM b n i = some (1, ps b n i) := fun hz => by
      unfold ckM
      rw [if_neg (fun z => hz (Or.inl z)), if_neg (fun z => hz (Or.inr z))]
      rfl
    unfold lkV at rl
    by_cases c1 : ps b n i < n
    · rw [if_pos c1] at rl
      obtain ⟨hn, he, hb⟩ := M2.T
      have hb1 := (hb _ c1).2
      have rt := r_MisLt (b := b) (wI h 65 2 (nI (ps b n i))) hb1
      cases c2 : ltB b (ps b n i) with
      | false =>
        rw [c2, bI_f] at rt
        rw [badc (fun z => by have := (tS_12 z).2.1; rw [c2] at this; cases this)]
        refine ⟨0, wI (wI (wI h 65 2 (nI (ps b n i))) 65 5 (nI 1)) 65 6 (nI (ps b n i)), ?_, (((LX.rfl h).a (by decide)).a (by decide)).a (by decide), lf_mk (by decide), fun z => by cases z⟩
        show Run 3 j_M_name _ _ _ _
        refine Run.of rfl ?_
        refine Wp.norm (L' := [_]) rfl ?_
        repeat (first | (refine W1 rfl ?_; try refine Wp.norm (L' := [_]) rfl ?_) | ((first | change (_ → _) ∧ (_ → _) | change vp_in _ _ ∧ _ | change ¬ _ ∧ _); simp (disch := omega) only [nI_clamp, nI_leI, nI_ltI, nI_eq, nI_1, nI_add, nI_not_neg, nI_is_pos, nI_m1, nI_z, f0]) | refine brT (by first | assumption | decide | omega) ?_ | refine brF (by first | assumption | decide | omega) ?_ | refine brTn (by first | assumption | decide | omega) ?_ | refine brFn (by first | assumption | decide | omega) ?_ | refine And.intro (vp_in_nI (by omega) (by decide)) ?_ | refine And.intro (vp_lit (by decide)) ?_ | refine divJ (by decide) ?_ | refine divI (by decide) ?_)
        try change _ ∧ _
        refine Cl.of rl (by decide) ?_
        repeat (first | (refine W1 rfl ?_; try refine Wp.norm (L' := [_]) rfl ?_) | ((first | change (_ → _) ∧ (_ → _) | change vp_in _ _ ∧ _ | change ¬ _ ∧ _); simp (disch := omega) only [nI_clamp, nI_leI, nI_ltI, nI_eq, nI_1, nI_add, nI_not_neg, nI_is_pos, nI_m1, nI_z]) | refine brT (by first | assumption | decide | omega) ?_ | refine brF (by first | assumption | decide | omega) ?_ | refine brTn (by first | assumption | decide | omega) ?_ | refine brFn (by first | assumption | decide | omega) ?_ | refine And.intro (vp_in_nI (by omega) (by decide)) ?_ | refine And.intro (vp_lit (by decide)) ?_ | refine divJ (by decide) ?_ | refine divI (by decide) ?_)
        try change _ ∧ _
        refine Cl.of rt (by decide) ?_
        repeat (first | (refine W1 rfl ?_; try refine Wp.norm (L' := [_]) rfl ?_) | ((first | change (_ → _) ∧ (_ → _) | change vp_in _ _ ∧ _ | change ¬ _ ∧ _); simp (disch := omega) only [nI_clamp, nI_leI, nI_ltI, nI_eq, nI_1, nI_add, nI_not_neg, nI_is_pos, nI_m1, nI_z]) | refine brT (by first | assumption | decide | omega) ?_ | refine brF (by first | assumption | decide | omega) ?_ | refine brTn (by first | assumption | decide | omega) ?_ | refine brFn (by first | assumption | decide | omega) ?_ | refine And.intro (vp_in_nI (by omega) (by decide)) ?_ | refine And.intro (vp_lit (by decide)) ?_ | refine divJ (by decide) ?_ | refine divI (by decide) ?_)
        try change _ ∧ _
        refine Cl.of (r_M_fail0 _ _ f1) (by decide) ?_
        repeat (first | (refine W1 rfl ?_; try refine Wp.norm (L' := [_]) rfl ?_) | ((first | change (_ → _) ∧ (_ → _) | change vp_in _ _ ∧ _ | change ¬ _ ∧ _); simp (disch := omega) only [nI_clamp, nI_leI, nI_ltI, nI_eq, nI_1, nI_add, nI_not_neg, nI_is_pos, nI_m1, nI_z]) | refine brT (by first | assumption | decide | omega) ?_ | refine brF (by first | assumption | decide | omega) ?_ | refine brTn (by first | assumption | decide | omega) ?_ | refine brFn (by first | assumption | decide | omega) ?_ | refine And.intro (vp_in_nI (by omega) (by decide)) ?_ | refine And.intro (vp_lit (by decide)) ?_ | refine divJ (by decide) ?_ | refine divI (by decide) ?_)
        try change _ ∧ _
        try first | exact ⟨rfl, rfl⟩ | exact ⟨Or.inr rfl, rfl, rfl⟩ | exact ⟨Or.inl rfl, rfl, rfl⟩ | exact ⟨trivial, trivial⟩ | exact ⟨rfl, trivial⟩ | exact ⟨Or.inr rfl, rfl, trivial⟩ | exact ⟨Or.inl rfl, rfl, trivial⟩
      | true =>
        rw [c2, bI_t] at rt
        have hE := M2.E
        have e2 : (wI h 65 2 (nI (ps b n i))).1 65 2 = nI (ps b n i) := rfl
        cases c3 : jn b n i with
        | true =>
          have e4 := hE.2.mpr c3
          rw [badc (fun z => by have := (tS_12 z).2.2.1; rw [c3] at this; cases this)]
          refine ⟨0, wI (wI (wI h 65 2 (nI (ps b n i))) 65 5 (nI 1)) 65 6 (nI (ps b n i)), ?_, (((LX.rfl h).a (by decide)).a (by decide)).a (by decide), lf_mk (by decide), fun z => by cases z⟩
          show Run 3 j_M_name _ _ _ _
          refine Run.of rfl ?_
          refine Wp.norm (L' := [_]) rfl ?_
          repeat (first | (refine W1 rfl ?_; try refine Wp.norm (L' := [_]) rfl ?_) | ((first | change (_ → _) ∧ (_ → _) | change vp_in _ _ ∧ _ | change ¬ _ ∧ _); simp (disch := omega) only [nI_clamp, nI_leI, nI_ltI, nI_eq, nI_1, nI_add, nI_not_neg, nI_is_pos, nI_m1, nI_z, f0]) | refine brT (by first | assumption | decide | omega) ?_ | refine brF (by first | assumption | decide | omega) ?_ | refine brTn (by first | assumption | decide | omega) ?_ | refine brFn (by first | assumption | decide | omega) ?_ | refine And.intro (vp_in_nI (by omega) (by decide)) ?_ | refine And.intro (vp_lit (by decide)) ?_ | refine divJ (by decide) ?_ | refine divI (by decide) ?_)
          try change _ ∧ _
          refine Cl.of rl (by decide) ?_
          repeat (first | (refine W1 rfl ?_; try refine Wp.norm (L' := [_]) rfl ?_) | ((first | change (_ → _) ∧ (_ → _) | change vp_in _ _ ∧ _ | change ¬ _ ∧ _); simp (disch := omega) only [nI_clamp, nI_leI, nI_ltI, nI_eq, nI_1, nI_add, nI_not_neg, nI_is_pos, nI_m1, nI_z]) | refine brT (by first | assumption | decide | omega) ?_ | refine brF (by first | assumption | decide | omega) ?_ | refine brTn (by first | assumption | decide | omega) ?_ | refine brFn (by first | assumption | decide | omega) ?_ | refine And.intro (vp_in_nI (by omega) (by decide)) ?_ | refine And.intro (vp_lit (by decide)) ?_ | refine divJ (by decide) ?_ | refine divI (by decide) ?_)
          try change _ ∧ _
          refine Cl.of rt (by decide) ?_
          repeat (first | (refine W1 rfl ?_; try refine Wp.norm (L' := [_]) rfl ?_) | ((first | change (_ → _) ∧ (_ → _) | change vp_in _ _ ∧ _ | change ¬ _ ∧ _); simp (disch := omega) only [nI_clamp, nI_leI, nI_ltI, nI_eq, nI_1, nI_add, nI_not_neg, nI_is_pos, nI_m1, nI_z, e4, e2]) | refine brT (by first | assumption | decide | omega) ?_ | refine brF (by first | assumption | decide | omega) ?_ | refine brTn (by first | assumption | decide | omega) ?_ | refine brFn (by first | assumption | decide | omega) ?_ | refine And.intro (vp_in_nI (by omega) (by decide)) ?_ | refine And.intro (vp_lit (by decide)) ?_ | refine divJ (by decide) ?_ | refine divI (by decide) ?_)
          try change _ ∧ _
          refine Cl.of (r_M_fail0 _ _ f1) (by decide) ?_
          repeat (first | (refine W1 rfl ?_; try refine Wp.norm (L' := [_]) rfl ?_) | ((first | change (_ → _) ∧ (_ → _) | change vp_in _ _ ∧ _ | change ¬ _ ∧ _); simp (disch := omega) only [nI_clamp, nI_leI, nI_ltI, nI_eq, nI_1, nI_add, nI_not_neg, nI_is_pos, nI_m1, nI_z]) | refine brT (by first | assumption | decide | omega) ?_ | refine brF (by first | assumption | decide | omega) ?_ | refine brTn (by first | assumption | decide | omega) ?_ | refine brFn (by first | assumption | decide | omega) ?_ | refine And.intro (vp_in_nI (by omega) (by decide)) ?_ | refine And.intro (vp_lit (by decide)) ?_ | refine divJ (by decide) ?_ | refine divI (by decide) ?_)
          try change _ ∧ _
          try first | exact ⟨rfl, rfl⟩ | exact ⟨Or.inr rfl, rfl, rfl⟩ | exact ⟨Or.inl rfl, rfl, rfl⟩ | exact ⟨trivial, trivial⟩ | exact ⟨rfl, trivial⟩ | exact ⟨Or.inr rfl, rfl, trivial⟩ | exact ⟨Or.inl rfl, rfl, trivial⟩
        | false =>
          have e4 : ¬ (nI (ps b n i) = (wI h 65 2 (nI (ps b n i))).1 65 4) := fun z => by
            have := hE.2.mp z.symm
            rw [c3] at this; cases this
          have ro := r_isOwnHere M2
          rw [wI_w] at ro
          by_cases c4 : owV b n i < 20
          · rw [decide_eq_true c4, bI_t] at ro
            rw [badc (fun z => (tS_12 z).2.2.2 c4)]
            refine ⟨0, wI (wI (wI h 65 2 (nI (ps b n i))) 65 5 (nI 1)) 65 6 (nI (ps b n i)), ?_, (((LX.rfl h).a (by decide)).a (by decide)).a (by decide), lf_mk (by decide), fun z => by cases z⟩
            show Run 3 j_M_name _ _ _ _
            refine Run.of rfl ?_
            refine Wp.norm (L' := [_]) rfl ?_
            repeat (first | (refine W1 rfl ?_; try refine Wp.norm (L' := [_]) rfl ?_) | ((first | change (_ → _) ∧ (_ → _) | change vp_in _ _ ∧ _ | change ¬ _ ∧ _); simp (disch := omega) only [nI_clamp, nI_leI, nI_ltI, nI_eq, nI_1, nI_add, nI_not_neg, nI_is_pos, nI_m1, nI_z, f0]) | refine brT (by first | assumption | decide | omega) ?_ | refine brF (by first | assumption | decide | omega) ?_ | refine brTn (by first | assumption | decide | omega) ?_ | refine brFn (by first | assumption | decide | omega) ?_ | refine And.intro (vp_in_nI (by omega) (by decide)) ?_ | refine And.intro (vp_lit (by decide)) ?_ | refine divJ (by decide) ?_ | refine divI (by decide) ?_)
            try change _ ∧ _
            refine Cl.of rl (by decide) ?_
            repeat (first | (refine W1 rfl ?_; try refine Wp.norm (L' := [_]) rfl ?_) | ((first | change (_ → _) ∧ (_ → _) | change vp_in _ _ ∧ _ | change ¬ _ ∧ _); simp (disch := omega) only [nI_clamp, nI_leI, nI_ltI, nI_eq, nI_1, nI_add, nI_not_neg, nI_is_pos, nI_m1, nI_z]) | refine brT (by first | assumption | decide | omega) ?_ | refine brF (by first | assumption | decide | omega) ?_ | refine brTn (by first | assumption | decide | omega) ?_ | refine brFn (by first | assumption | decide | omega) ?_ | refine And.intro (vp_in_nI (by omega) (by decide)) ?_ | refine And.intro (vp_lit (by decide)) ?_ | refine divJ (by decide) ?_ | refine divI (by decide) ?_)
            try change _ ∧ _
            refine Cl.of rt (by decide) ?_
            repeat (first | (refine W1 rfl ?_; try refine Wp.norm (L' := [_]) rfl ?_) | ((first | change (_ → _) ∧ (_ → _) | change vp_in _ _ ∧ _ | change ¬ _ ∧ _); simp (disch := omega) only [nI_clamp, nI_leI, nI_ltI, nI_eq, nI_1, nI_add, nI_not_neg, nI_is_pos, nI_m1, nI_z, e2]) | refine brT (by first | assumption | decide | omega) ?_ | refine brF (by first | assumption | decide | omega) ?_ | refine brTn (by first | assumption | decide | omega) ?_ | refine brFn (by first | assumption | decide | omega) ?_ | refine And.intro (vp_in_nI (by omega) (by decide)) ?_ | refine And.intro (vp_lit (by decide)) ?_ | refine divJ (by decide) ?_ | refine divI (by decide) ?_)
            try change _ ∧ _
            refine Cl.of ro (by decide) ?_
            repeat (first | (refine W1 rfl ?_; try refine Wp.norm (L' := [_]) rfl ?_) | ((first | change (_ → _) ∧ (_ → _) | change vp_in _ _ ∧ _ | change ¬ _ ∧ _); simp (disch := omega) only [nI_clamp, nI_leI, nI_ltI, nI_eq, nI_1, nI_add, nI_not_neg, nI_is_pos, nI_m1, nI_z]) | refine brT (by first | assumption | decide | omega) ?_ | refine brF (by first | assumption | decide | omega) ?_ | refine brTn (by first | assumption | decide | omega) ?_ | refine brFn (by first | assumption | decide | omega) ?_ | refine And.intro (vp_in_nI (by omega) (by decide)) ?_ | refine And.intro (vp_lit (by decide)) ?_ | refine divJ (by decide) ?_ | refine divI (by decide) ?_)
            try change _ ∧ _
            refine Cl.of (r_M_fail0 _ _ f1) (by decide) ?_
            repeat (first | (refine W1 rfl ?_; try refine Wp.norm (L' := [_]) rfl ?_) | ((first | change (_ → _) ∧ (_ → _) | change vp_in _ _ ∧ _ | change ¬ _ ∧ _); simp (disch := omega) only [nI_clamp, nI_leI, nI_ltI, nI_eq, nI_1, nI_add, nI_not_neg, nI_is_pos, nI_m1, nI_z]) | refine brT (by first | assumption | decide | omega) ?_ | refine brF (by first | assumption | decide | omega) ?_ | refine brTn (by first | assumption | decide | omega) ?_ | refine brFn (by first | assumption | decide | omega) ?_ | refine And.intro (vp_in_nI (by omega) (by decide)) ?_ | refine And.intro (vp_lit (by decide)) ?_ | refine divJ (by decide) ?_ | refine divI (by decide) ?_)
            try change _ ∧ _
            try first | exact ⟨rfl, rfl⟩ | exact ⟨Or.inr rfl, rfl, rfl⟩ | exact ⟨Or.inl rfl, rfl, rfl⟩ | exact ⟨trivial, trivial⟩ | exact ⟨rfl, trivial⟩ | exact ⟨Or.inr rfl, rfl, trivial⟩ | exact ⟨Or.inl rfl, rfl, trivial⟩
          · rw [decide_eq_false c4, bI_f] at ro
            obtain ⟨hx, hts, htv⟩ := tS_nm c1 c2 c3 c4
            have hwn : wnB b (ps b n i) = true := by unfold wnB; rw [c2]; rfl
            have hte : te b n (ps b n i) = ps b n i + tl b n (ps b n i) := by
              have := te_gt (b := b) c1
              unfold tl; omega
            by_cases c5 : tl b n (ps b n i) ≤ 6
            · rw [if_neg (by omega)] at hts htv
              have hck : ckM b n i = none := by unfold ckM; rw [if_pos hts]
              rw [hck]
              have rr : Run 1 j_M_letters [.ref 65] (wI h 65 2 (nI (ps b n i))) _ _ := Run.of rfl (w_letters M2.T c1 c2 rfl (fun _ => ⟨rfl, rfl⟩) (fun z => by omega))
              have F : LX h (wI (ltF (wI h 65 2 (nI (ps b n i))) (ps b n i) (tl b n (ps b n i))) 65 4 (nI (te b n (ps b n i)))) := ((((LX.rfl h).a (by decide)).a (by decide)).a (by decide)).a (by decide)
              refine ⟨_, _, ?_, F, X.nw c1 hwn F (by rw [hte]; rfl) rfl f0 X.e6, fun _ => ⟨rfl, wd_isW (tl_pos c1) c5 (fun j hj => lt_all c1 c2 hj), htv, hx, rfl⟩⟩
              show Run 3 j_M_name _ _ _ _
              refine Run.of rfl ?_
              refine Wp.norm (L' := [_]) rfl ?_
              repeat (first | (refine W1 rfl ?_; try refine Wp.norm (L' := [_]) rfl ?_) | ((first | change (_ → _) ∧ (_ → _) | change vp_in _ _ ∧ _ | change ¬ _ ∧ _); simp (disch := omega) only [nI_clamp, nI_leI, nI_ltI, nI_eq, nI_1, nI_add, nI_not_neg, nI_is_pos, nI_m1, nI_z, f0]) | refine brT (by first | assumption | decide | omega) ?_ | refine brF (by first | assumption | decide | omega) ?_ | refine brTn (by first | assumption | decide | omega) ?_ | refine brFn (by first | assumption | decide | omega) ?_ | refine And.intro (vp_in_nI (by omega) (by decide)) ?_ | refine And.intro (vp_lit (by decide)) ?_ | refine divJ (by decide) ?_ | refine divI (by decide) ?_)
              try change _ ∧ _
              refine Cl.of rl (by decide) ?_
              repeat (first | (refine W1 rfl ?_; try refine Wp.norm (L' := [_]) rfl ?_) | ((first | change (_ → _) ∧ (_ → _) | change vp_in _ _ ∧ _ | change ¬ _ ∧ _); simp (disch := omega) only [nI_clamp, nI_leI, nI_ltI, nI_eq, nI_1, nI_add, nI_not_neg, nI_is_pos, nI_m1, nI_z]) | refine brT (by first | assumption | decide | omega) ?_ | refine brF (by first | assumption | decide | omega) ?_ | refine brTn (by first | assumption | decide | omega) ?_ | refine brFn (by first | assumption | decide | omega) ?_ | refine And.intro (vp_in_nI (by omega) (by decide)) ?_ | refine And.intro (vp_lit (by decide)) ?_ | refine divJ (by decide) ?_ | refine divI (by decide) ?_)
              try change _ ∧ _
              refine Cl.of rt (by decide) ?_
              repeat (first | (refine W1 rfl ?_; try refine Wp.norm (L' := [_]) rfl ?_) | ((first | change (_ → _) ∧ (_ → _) | change vp_in _ _ ∧ _ | change ¬ _ ∧ _); simp (disch := omega) only [nI_clamp, nI_leI, nI_ltI, nI_eq, nI_1, nI_add, nI_not_neg, nI_is_pos, nI_m1, nI_z, e2]) | refine brT (by first | assumption | decide | omega) ?_ | refine brF (by first | assumption | decide | omega) ?_ | refine brTn (by first | assumption | decide | omega) ?_ | refine brFn (by first | assumption | decide | omega) ?_ | refine And.intro (vp_in_nI (by omega) (by decide)) ?_ | refine And.intro (vp_lit (by decide)) ?_ | refine divJ (by decide) ?_ | refine divI (by decide) ?_)
              try change _ ∧ _
              refine Cl.of ro (by decide) ?_
              repeat (first | (refine W1 rfl ?_; try refine Wp.norm (L' := [_]) rfl ?_) | ((first | change (_ → _) ∧ (_ → _) | change vp_in _ _ ∧ _ | change ¬ _ ∧ _); simp (disch := omega) only [nI_clamp, nI_leI, nI_ltI, nI_eq, nI_1, nI_add, nI_not_neg, nI_is_pos, nI_m1, nI_z]) | refine brT (by first | assumption | decide | omega) ?_ | refine brF (by first | assumption | decide | omega) ?_ | refine brTn (by first | assumption | decide | omega) ?_ | refine brFn (by first | assumption | decide | omega) ?_ | refine And.intro (vp_in_nI (by omega) (by decide)) ?_ | refine And.intro (vp_lit (by decide)) ?_ | refine divJ (by decide) ?_ | refine divI (by decide) ?_)
              try change _ ∧ _
              refine Cl.of rr (by decide) ?_
              repeat (first | (refine W1 rfl ?_; try refine Wp.norm (L' := [_]) rfl ?_) | ((first | change (_ → _) ∧ (_ → _) | change vp_in _ _ ∧ _ | change ¬ _ ∧ _); simp (disch := omega) only [nI_clamp, nI_leI, nI_ltI, nI_eq, nI_1, nI_add, nI_not_neg, nI_is_pos, nI_m1, nI_z]) | refine brT (by first | assumption | decide | omega) ?_ | refine brF (by first | assumption | decide | omega) ?_ | refine brTn (by first | assumption | decide | omega) ?_ | refine brFn (by first | assumption | decide | omega) ?_ | refine And.intro (vp_in_nI (by omega) (by decide)) ?_ | refine And.intro (vp_lit (by decide)) ?_ | refine divJ (by decide) ?_ | refine divI (by decide) ?_)
              try change _ ∧ _
              try first | exact ⟨rfl, rfl⟩ | exact ⟨Or.inr rfl, rfl, rfl⟩ | exact ⟨Or.inl rfl, rfl, rfl⟩ | exact ⟨trivial, trivial⟩ | exact ⟨rfl, trivial⟩ | exact ⟨Or.inr rfl, rfl, trivial⟩ | exact ⟨Or.inl rfl, rfl, trivial⟩
            · rw [if_pos (by omega)] at hts
              have hck : ckM b n i = some (1, ps b n i + 6) := by unfold ckM; rw [if_neg (by omega), if_pos hts]
              rw [hck]
              have rr : Run 1 j_M_letters [.ref 65] (wI h 65 2 (nI (ps b n i))) _ _ := Run.of rfl (w_letters (Q := fun v h' => v = some (.long 0) ∧ h' = wI (wI (ltF (wI h 65 2 (nI (ps b n i))) (ps b n i) 6) 65 5 1) 65 6 (nI (ps b n i + 6))) M2.T c1 c2 rfl (fun z => by omega) (fun _ => ⟨f0, rfl, rfl⟩))
              refine ⟨0, wI (wI (ltF (wI h 65 2 (nI (ps b n i))) (ps b n i) 6) 65 5 (nI 1)) 65 6 (nI (ps b n i + 6)), ?_, (((((LX.rfl h).a (by decide)).a (by decide)).a (by decide)).a (by decide)).a (by decide), lf_mk (f := 1) (by decide), fun z => by cases z⟩
              show Run 3 j_M_name _ _ _ _
              refine Run.of rfl ?_
              refine Wp.norm (L' := [_]) rfl ?_
              repeat (first | (refine W1 rfl ?_; try refine Wp.norm (L' := [_]) rfl ?_) | ((first | change (_ → _) ∧ (_ → _) | change vp_in _ _ ∧ _ | change ¬ _ ∧ _); simp (disch := omega) only [nI_clamp, nI_leI, nI_ltI, nI_eq, nI_1, nI_add, nI_not_neg, nI_is_pos, nI_m1, nI_z, f0]) | refine brT (by first | assumption | decide | omega) ?_ | refine brF (by first | assumption | decide | omega) ?_ | refine brTn (by first | assumption | decide | omega) ?_ | refine brFn (by first | assumption | decide | omega) ?_ | refine And.intro (vp_in_nI (by omega) (by decide)) ?_ | refine And.intro (vp_lit (by decide)) ?_ | refine divJ (by decide) ?_ | refine divI (by decide) ?_)
              try change _ ∧ _
              refine Cl.of rl (by decide) ?_
              repeat (first | (refine W1 rfl ?_; try refine Wp.norm (L' := [_]) rfl ?_) | ((first | change (_ → _) ∧ (_ → _) | change vp_in _ _ ∧ _ | change ¬ _ ∧ _); simp (disch := omega) only [nI_clamp, nI_leI, nI_ltI, nI_eq, nI_1, nI_add, nI_not_neg, nI_is_pos, nI_m1, nI_z]) | refine brT (by first | assumption | decide | omega) ?_ | refine brF (by first | assumption | decide | omega) ?_ | refine brTn (by first | assumption | decide | omega) ?_ | refine brFn (by first | assumption | decide | omega) ?_ | refine And.intro (vp_in_nI (by omega) (by decide)) ?_ | refine And.intro (vp_lit (by decide)) ?_ | refine divJ (by decide) ?_ | refine divI (by decide) ?_)
              try change _ ∧ _
              refine Cl.of rt (by decide) ?_
              repeat (first | (refine W1 rfl ?_; try refine Wp.norm (L' := [_]) rfl ?_) | ((first | change (_ → _) ∧ (_ → _) | change vp_in _ _ ∧ _ | change ¬ _ ∧ _); simp (disch := omega) only [nI_clamp, nI_leI, nI_ltI, nI_eq, nI_1, nI_add, nI_not_neg, nI_is_pos, nI_m1, nI_z, e2]) | refine brT (by first | assumption | decide | omega) ?_ | refine brF (by first | assumption | decide | omega) ?_ | refine brTn (by first | assumption | decide | omega) ?_ | refine brFn (by first | assumption | decide | omega) ?_ | refine And.intro (vp_in_nI (by omega) (by decide)) ?_ | refine And.intro (vp_lit (by decide)) ?_ | refine divJ (by decide) ?_ | refine divI (by decide) ?_)
              try change _ ∧ _
              refine Cl.of ro (by decide) ?_
              repeat (first | (refine W1 rfl ?_; try refine Wp.norm (L' := [_]) rfl ?_) | ((first | change (_ → _) ∧ (_ → _) | change vp_in _ _ ∧ _ | change ¬ _ ∧ _); simp (disch := omega) only [nI_clamp, nI_leI, nI_ltI, nI_eq, nI_1, nI_add, nI_not_neg, nI_is_pos, nI_m1, nI_z]) | refine brT (by first | assumption | decide | omega) ?_ | refine brF (by first | assumption | decide | omega) ?_ | refine brTn (by first | assumption | decide | omega) ?_ | refine brFn (by first | assumption | decide | omega) ?_ | refine And.intro (vp_in_nI (by omega) (by decide)) ?_ | refine And.intro (vp_lit (by decide)) ?_ | refine divJ (by decide) ?_ | refine divI (by decide) ?_)
              try change _ ∧ _
              refine Cl.of rr (by decide) ?_
              repeat (first | (refine W1 rfl ?_; try refine Wp.norm (L' := [_]) rfl ?_) | ((first | change (_ → _) ∧ (_ → _) | change vp_in _ _ ∧ _ | change ¬ _ ∧ _); simp (disch := omega) only [nI_clamp, nI_leI, nI_ltI, nI_eq, nI_1, nI_add, nI_not_neg, nI_is_pos, nI_m1, nI_z]) | refine brT (by first | assumption | decide | omega) ?_ | refine brF (by first | assumption | decide | omega) ?_ | refine brTn (by first | assumption | decide | omega) ?_ | refine brFn (by first | assumption | decide | omega) ?_ | refine And.intro (vp_in_nI (by omega) (by decide)) ?_ | refine And.intro (vp_lit (by decide)) ?_ | refine divJ (by decide) ?_ | refine divI (by decide) ?_)
              try change _ ∧ _
              try first | exact ⟨rfl, rfl⟩ | exact ⟨Or.inr rfl, rfl, rfl⟩ | exact ⟨Or.inl rfl, rfl, rfl⟩ | exact ⟨trivial, trivial⟩ | exact ⟨rfl, trivial⟩ | exact ⟨Or.inr rfl, rfl, trivial⟩ | exact ⟨Or.inl rfl, rfl, trivial⟩
    · rw [if_neg c1] at rl
      rw [badc (fun z => c1 (tS_12 z).1)]
      refine ⟨0, wI (wI (wI h 65 2 (nI (ps b n i))) 65 5 (nI 1)) 65 6 (nI (ps b n i)), ?_, (((LX.rfl h).a (by decide)).a (by decide)).a (by decide), lf_mk (by decide), fun z => by cases z⟩
      show Run 3 j_M_name _ _ _ _
      refine Run.of rfl ?_
      refine Wp.norm (L' := [_]) rfl ?_
      repeat (first | (refine W1 rfl ?_; try refine Wp.norm (L' := [_]) rfl ?_) | ((first | change (_ → _) ∧ (_ → _) | change vp_in _ _ ∧ _ | change ¬ _ ∧ _); simp (disch := omega) only [nI_clamp, nI_leI, nI_ltI, nI_eq, nI_1, nI_add, nI_not_neg, nI_is_pos, nI_m1, nI_z, f0]) | refine brT (by first | assumption | decide | omega) ?_ | refine brF (by first | assumption | decide | omega) ?_ | refine brTn (by first | assumption | decide | omega) ?_ | refine brFn (by first | assumption | decide | omega) ?_ | refine And.intro (vp_in_nI (by omega) (by decide)) ?_ | refine And.intro (vp_lit (by decide)) ?_ | refine divJ (by decide) ?_ | refine divI (by decide) ?_)
      try change _ ∧ _
      refine Cl.of rl (by decide) ?_
      repeat (first | (refine W1 rfl ?_; try refine Wp.norm (L' := [_]) rfl ?_) | ((first | change (_ → _) ∧ (_ → _) | change vp_in _ _ ∧ _ | change ¬ _ ∧ _); simp (disch := omega) only [nI_clamp, nI_leI, nI_ltI, nI_eq, nI_1, nI_add, nI_not_neg, nI_is_pos, nI_m1, nI_z]) | refine brT (by first | assumption | decide | omega) ?_ | refine brF (by first | assumption | decide | omega) ?_ | refine brTn (by first | assumption | decide | omega) ?_ | refine brFn (by first | assumption | decide | omega) ?_ | refine And.intro (vp_in_nI (by omega) (by decide)) ?_ | refine And.intro (vp_lit (by decide)) ?_ | refine divJ (by decide) ?_ | refine divI (by decide) ?_)
      try change _ ∧ _
      refine Cl.of (r_MisLtN _) (by decide) ?_
      repeat (first | (refine W1 rfl ?_; try refine Wp.norm (L' := [_]) rfl ?_) | ((first | change (_ → _) ∧ (_ → _) | change vp_in _ _ ∧ _ | change ¬ _ ∧ _); simp (disch := omega) only [nI_clamp, nI_leI, nI_ltI, nI_eq, nI_1, nI_add, nI_not_neg, nI_is_pos, nI_m1, nI_z]) | refine brT (by first | assumption | decide | omega) ?_ | refine brF (by first | assumption | decide | omega) ?_ | refine brTn (by first | assumption | decide | omega) ?_ | refine brFn (by first | assumption | decide | omega) ?_ | refine And.intro (vp_in_nI (by omega) (by decide)) ?_ | refine And.intro (vp_lit (by decide)) ?_ | refine divJ (by decide) ?_ | refine divI (by decide) ?_)
      try change _ ∧ _
      refine Cl.of (r_M_fail0 _ _ f1) (by decide) ?_
      repeat (first | (refine W1 rfl ?_; try refine Wp.norm (L' := [_]) rfl ?_) | ((first | change (_ → _) ∧ (_ → _) | change vp_in _ _ ∧ _ | change ¬ _ ∧ _); simp (disch := omega) only [nI_clamp, nI_leI, nI_ltI, nI_eq, nI_1, nI_add, nI_not_neg, nI_is_pos, nI_m1, nI_z]) | refine brT (by first | assumption | decide | omega) ?_ | refine brF (by first | assumption | decide | omega) ?_ | refine brTn (by first | assumption | decide | omega) ?_ | refine brFn (by first | assumption | decide | omega) ?_ | refine And.intro (vp_in_nI (by omega) (by decide)) ?_ | refine And.intro (vp_lit (by decide)) ?_ | refine divJ (by decide) ?_ | refine divI (by decide) ?_)
      try change _ ∧ _
      try first | exact ⟨rfl, rfl⟩ | exact ⟨Or.inr rfl, rfl, rfl⟩ | exact ⟨Or.inl rfl, rfl, rfl⟩ | exact ⟨trivial, trivial⟩ | exact ⟨rfl, trivial⟩ | exact ⟨Or.inr rfl, rfl, trivial⟩ | exact ⟨Or.inl rfl, rfl, trivial⟩
end MNM
