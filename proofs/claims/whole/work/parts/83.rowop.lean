/-! ===== ROUND AND BLOCK: the model, the clauses ===== -/
def rwF (h h' : HP) : Prop := onlyJ [65, 114] [] h h' ∧ ∀ i, ¬ i ∈ [1, 2, 3, 4, 5, 6, 30, 66] → h'.1 65 i = h.1 65 i
theorem rwF.rfl (h : HP) : rwF h h := ⟨onlyJ.rfl _ _ h, fun _ _ => Eq.refl _⟩
theorem rwF.a {h h' : HP} {i : Nat} {x : Int32} (F : rwF h h') (hi : i ∈ [1, 2, 3, 4, 5, 6, 30, 66]) : rwF h (wI h' 65 i x) := ⟨F.1.addI (by decide), fun j hj => by rw [wI_ne2 _ _ (fun e => hj (by rw [e]; exact hi))]; exact F.2 j hj⟩
theorem rwF.r {h h' : HP} {i : Nat} {x : Int32} (F : rwF h h') : rwF h (wI h' 114 i x) := ⟨F.1.addI (by decide), fun j hj => by rw [wI_ne _ _ _ (by decide)]; exact F.2 j hj⟩
section ROWM
variable {s : ST} {c v : RT} {b : Nat → Nat} {n : Nat} {h : HP}
theorem rwF.M {h' : HP} (F : rwF h h') (R : RM s c v h) : RM s c v h' := R.sr (fun k i hk => by
  by_cases e : k = 65
  · subst e; exact F.2 i (by intro z; simp at z; rcases z with z | z | z | z | z | z | z | z <;> (subst z; cases hk))
  · exact F.1.1 k i (by intro z; simp at z; rcases z with z | z; exact e z; subst z; cases hk)) (fun k i _ => F.1.2 k i (by simp))
theorem tS_w {i : Nat} (hp : ps b n i < n) (hl : ltB b (ps b n i) = true) (hj : jn b n i = false) : tS b n i = (if ox (wd b (ps b n i) (tl b n (ps b n i))) < 20 then 3 else if 6 < tl b n (ps b n i) then 2 else 1) := by
  unfold tS sP
  rw [if_neg (by omega), if_pos hl, hj, if_neg (by decide)]
theorem tV_w {i : Nat} (hp : ps b n i < n) (hl : ltB b (ps b n i) = true) (hj : jn b n i = false) : tV b n i = (if ox (wd b (ps b n i) (tl b n (ps b n i))) < 20 then ox (wd b (ps b n i) (tl b n (ps b n i))) else if 6 < tl b n (ps b n i) then 0 else e32 (wd b (ps b n i) (tl b n (ps b n i)))) := by
  unfold tV vP
  rw [if_neg (by omega), if_pos hl, hj, if_neg (by decide)]
theorem tS_0 {i : Nat} : tS b n i = 0 ↔ ps b n i = n := by
  have h1 := ps_le (b := b) (n := n) i
  constructor
  · intro h
    unfold tS sP at h
    by_cases c : n ≤ ps b n i
    · omega
    · rw [if_neg c] at h
      exfalso
      revert h
      repeat' (first | (split; decide) | decide | split)
  · intro h
    unfold tS sP
    rw [if_pos (by omega)]
theorem tS_1 {i : Nat} (h : tS b n i = 1) : ps b n i < n ∧ ltB b (ps b n i) = true ∧ jn b n i = false ∧ tl b n (ps b n i) ≤ 6 ∧ ¬ ox (wd b (ps b n i) (tl b n (ps b n i))) < 20 := by
  have hp : ps b n i < n := by
    have h1 := ps_le (b := b) (n := n) i
    rcases Nat.lt_or_ge (ps b n i) n with z | z
    · exact z
    · rw [tS_0.mpr (by omega)] at h; cases h
  cases hl : ltB b (ps b n i) with
  | false =>
    unfold tS sP at h
    rw [if_neg (by omega), if_neg (by rw [hl]; decide)] at h
    exfalso
    revert h
    repeat' (first | (split; decide) | decide | split)
  | true =>
    cases hj : jn b n i with
    | true =>
      unfold tS sP at h
      rw [if_neg (by omega), if_pos hl, if_pos hj] at h
      cases h
    | false =>
      rw [tS_w hp hl hj] at h
      by_cases c1 : ox (wd b (ps b n i) (tl b n (ps b n i))) < 20
      · rw [if_pos c1] at h; cases h
      · rw [if_neg c1] at h
        by_cases c2 : 6 < tl b n (ps b n i)
        · rw [if_pos c2] at h; cases h
        · exact ⟨hp, rfl, rfl, by omega, c1⟩
/-- whom a word tells, in the model -/
theorem r_who (R : RM s c v h) (o : OK s) {w : List Nat} (hw : isW w) : Run 0 j_M_personOf [.ref 65, .int 1, .long (lN (e27 w 0))] h (some (.int (fV (fun p => decide (pC s p = e32 w)) (zP s)))) h := by
  have r := r_personOf (x := 1) (by decide) o.P R.P (lN (e27 w 0))
  rw [fV_congr (B' := fun p => decide (pC s p = e32 w)) (fun p hp => by
    have h1 : h.2 91 (16 * 1 + p) = lN (pN s p) := R.pnm hp
    have h2 := p27_6 hw
    have h3 : pN s p < 387420489 := by
      obtain ⟨u, hu, e, _⟩ := o.pnm hp
      rw [e]; exact p27_6 hu
    rw [h1]
    have e := nm_eq hw (o.pnm hp)
    by_cases z : pC s p = e32 w
    · rw [e.mpr z, z]; simp
    · rw [decide_eq_false z, decide_eq_false (fun y => z (e.mp ((lN_eq (by omega) (by omega)).mp y)))])] at r
  exact r
/-- a row, in the model, at its i-th name -/
def rwI (s : ST) (b : Nat → Nat) (n : Nat) (h : HP) (i : Nat) (h' : HP) : Prop := rwF h h' ∧ h'.1 65 1 = 0 ∧ MT b n h' ∧ MA b n i h' ∧ ME b n i h' ∧ h'.1 65 5 = 0 ∧ h'.1 65 66 = nI i ∧ ∀ d, d < i → h'.1 114 d = nI (pfi s b n d)
theorem MT.a {h' : HP} {i : Nat} {x : Int32} (T : MT b n h') (hi : i ≠ 3) : MT b n (wI h' 65 i x) := ⟨T.1, by rw [wI_ne2 _ _ (fun e => hi e.symm)]; exact T.2.1, fun k hk => by rw [wI_ne _ _ _ (by decide)]; exact T.2.2 k hk⟩
theorem MT.o {h' : HP} {k i : Nat} {x : Int32} (T : MT b n h') (h1 : k ≠ 65) (h2 : k ≠ 66) : MT b n (wI h' k i x) := ⟨T.1, by rw [wI_ne _ _ _ (fun e => h1 e.symm)]; exact T.2.1, fun j hj => by rw [wI_ne _ _ _ (fun e => h2 e.symm)]; exact T.2.2 j hj⟩
theorem rwI.lk {i : Nat} {h' : HP} (I : rwI s b n h i h') : rwI s b n h i (wI h' 65 2 (nI (ps b n i))) := by
  obtain ⟨F, h1, h2, h3, h4, h5, h6, h7⟩ := I
  refine ⟨F.a (by decide), ?_, h2.a (by decide), ⟨ps b n i, wI_same _ _ _ _, ps_le i, sk_ps i⟩, ?_, ?_, ?_, fun d hd => ?_⟩
  · rw [wI_ne2 _ _ (by decide)]; exact h1
  · unfold ME; rw [wI_ne2 _ _ (by decide)]; exact h4
  · rw [wI_ne2 _ _ (by decide)]; exact h5
  · rw [wI_ne2 _ _ (by decide)]; exact h6
  · rw [wI_ne _ _ _ (by decide)]; exact h7 d hd
theorem ME_nx {i : Nat} (hp : ps b n i < n) (hw : wnB b (ps b n i) = true) {h' : HP} (e : h'.1 65 4 = nI (te b n (ps b n i))) (hn : n ≤ 900) : ME b n (i + 1) h' := by
  have h1 := te_le (b := b) hp
  have h2 := sk_ge (b := b) h1
  have h3 := sk_le (b := b) h1
  refine ⟨Or.inr ⟨te b n (ps b n i), ?_, e⟩, ?_⟩
  · rw [ps_s hp]; exact h2
  · rw [e, ps_s hp, nI_eq (by omega) (by omega)]
    show _ ↔ (decide (ps b n i < n) && wnB b (ps b n i) && decide (ps b n (i + 1) = te b n (ps b n i))) = true
    rw [decide_eq_true hp, hw, ps_s hp, Bool.true_and, Bool.true_and, decide_eq_true_eq]
    exact eq_comm
theorem w_takesRow (R : RM s c v h) (o : OK s) (hn : n ≤ 900) (hl1 : h.1 65 1 = nI n) (hb : ∀ k, k < n → h.1 66 k = nI (b k) ∧ b k < 256) : ∃ w h', Run 2 j_M_takesRow [.ref 65] h w h' ∧ (w = some (.int (bI (decide (0 < rq s b n ∧ tS b n (rq s b n) = 0)))) ∧ rwF h h' ∧ h'.1 65 1 = 0 ∧ ((0 < rq s b n ∧ tS b n (rq s b n) = 0) → h'.1 65 66 = nI (rq s b n) ∧ ∀ i, i < rq s b n → h'.1 114 i = nI (pfi s b n i))) := by
  have hT := o.T; have hP := o.P; have hK := o.K; have hD := o.D; have hO := o.O; have hQ := o.Q; have hL := o.L
  have hq20 := rq_20 (s := s) (b := b) (n := n)
  have hin : ∀ i, i < rq s b n → tS b n i = 1 ∧ pfi s b n i < zP s := fun i hi => rq_in hi
  have hout : rq s b n < 20 → ¬ (tS b n (rq s b n) = 1 ∧ pfi s b n (rq s b n) < zP s) := fun z w => by
    have : rqB s b n (rq s b n) = false := re_out (Nat.zero_le _) z
    unfold rqB at this
    rw [decide_eq_true w.1, decide_eq_true w.2] at this
    cases this
  generalize rq s b n = q at *
  refine Run.ofP rfl ?_
  refine Wp.norm (L' := [_, _, _, _, _]) rfl ?_
  generalize hQQ : (fun (w : Option Value) (h' : HP) => w = some (.int (bI (decide (0 < q ∧ tS b n q = 0)))) ∧ rwF h h' ∧ h'.1 65 1 = 0 ∧ ((0 < q ∧ tS b n q = 0) → h'.1 65 66 = nI q ∧ ∀ i, i < q → h'.1 114 i = nI (pfi s b n i))) = QQ
  -- the end with no row
  have no : tS b n q ≠ 0 → ∀ h' x2 x4, rwF h h' → h'.1 65 1 = 0 → Wp 2 j_M_takesRow 35 [.ref 65, .int 0, x2, .null, x4] [] h' QQ := by
    intro hz h' x2 x4 F L
    rw [← hQQ]
    repeat (first | (refine W1 rfl ?_; try refine Wp.norm (L' := [_, _, _, _, _]) rfl ?_) | ((first | change (_ → _) ∧ (_ → _) | change vp_in _ _ ∧ _ | change ¬ _ ∧ _); simp (disch := omega) only [nI_clamp, nI_leI, nI_ltI, nI_eq, nI_1, nI_add, nI_not_neg, nI_is_pos, nI_m1, nI_z]) | refine brT (by first | assumption | decide | omega) ?_ | refine brF (by first | assumption | decide | omega) ?_ | refine brTn (by first | assumption | decide | omega) ?_ | refine brFn (by first | assumption | decide | omega) ?_ | refine And.intro (vp_in_nI (by omega) (by decide)) ?_ | refine And.intro (vp_lit (by decide)) ?_ | refine divJ (by decide) ?_ | refine divI (by decide) ?_)
    try change _ ∧ _
    refine ⟨Or.inl rfl, by rw [decide_eq_false (fun z => hz z.2)]; rfl, F.a (by decide), by rw [wI_ne2 _ _ (by decide)]; exact L, fun z => absurd z.2 hz⟩
  have lp : ∀ i, i ≤ q → ∀ h' x2 x4, rwI s b n h i h' → Wp 2 j_M_takesRow 35 [.ref 65, .int 1, x2, .null, x4] [] h' QQ := by
    refine up_ind ?_ (fun i hi ih => ?_)
    · intro h' x2 x4 I
      obtain ⟨F, L, T, A, E, B, N, W⟩ := id I
      have I2 := I.lk
      obtain ⟨F2, L2, T2, A2, E2, B2, N2, W2⟩ := id I2
      have rl := r_look T A
      have rl2 := r_look T2 A2
      rw [wI_w] at rl2
      have hple := ps_le (b := b) (n := n) q
      by_cases hz : tS b n q = 0
      · have hpn := tS_0.mp hz
        have elk : lkV b n (ps b n q) = -1 := by unfold lkV; rw [if_neg (by omega)]
        rw [elk] at rl
        have N3 : (wI (wI h' 65 2 (nI (ps b n q))) 65 5 0).1 65 66 = nI q := by rw [wI_ne2 _ _ (by decide)]; exact N2
        rw [← hQQ]
        repeat (first | (refine W1 rfl ?_; try refine Wp.norm (L' := [_, _, _, _, _]) rfl ?_) | ((first | change (_ → _) ∧ (_ → _) | change vp_in _ _ ∧ _ | change ¬ _ ∧ _); simp (disch := omega) only [nI_clamp, nI_leI, nI_ltI, nI_eq, nI_1, nI_add, nI_not_neg, nI_is_pos, nI_m1, nI_z]) | refine brT (by first | assumption | decide | omega) ?_ | refine brF (by first | assumption | decide | omega) ?_ | refine brTn (by first | assumption | decide | omega) ?_ | refine brFn (by first | assumption | decide | omega) ?_ | refine And.intro (vp_in_nI (by omega) (by decide)) ?_ | refine And.intro (vp_lit (by decide)) ?_ | refine divJ (by decide) ?_ | refine divI (by decide) ?_)
        try change _ ∧ _
        refine Cl.of rl (by decide) ?_
        by_cases hq0 : q = 0
        · repeat (first | (refine W1 rfl ?_; try refine Wp.norm (L' := [_, _, _, _, _]) rfl ?_) | ((first | change (_ → _) ∧ (_ → _) | change vp_in _ _ ∧ _ | change ¬ _ ∧ _); simp (disch := omega) only [nI_clamp, nI_leI, nI_ltI, nI_eq, nI_1, nI_add, nI_not_neg, nI_is_pos, nI_m1, nI_z, N3, nI_le0]) | refine brT (by first | assumption | decide | omega) ?_ | refine brF (by first | assumption | decide | omega) ?_ | refine brTn (by first | assumption | decide | omega) ?_ | refine brFn (by first | assumption | decide | omega) ?_ | refine And.intro (vp_in_nI (by omega) (by decide)) ?_ | refine And.intro (vp_lit (by decide)) ?_ | refine divJ (by decide) ?_ | refine divI (by decide) ?_)
          try change _ ∧ _
          refine ⟨Or.inl rfl, by rw [decide_eq_false (by omega)]; rfl, F2.a (by decide), by rw [wI_ne2 _ _ (by decide)]; exact L2, fun z => absurd z.1 (by omega)⟩
        · repeat (first | (refine W1 rfl ?_; try refine Wp.norm (L' := [_, _, _, _, _]) rfl ?_) | ((first | change (_ → _) ∧ (_ → _) | change vp_in _ _ ∧ _ | change ¬ _ ∧ _); simp (disch := omega) only [nI_clamp, nI_leI, nI_ltI, nI_eq, nI_1, nI_add, nI_not_neg, nI_is_pos, nI_m1, nI_z, N3, nI_le0]) | refine brT (by first | assumption | decide | omega) ?_ | refine brF (by first | assumption | decide | omega) ?_ | refine brTn (by first | assumption | decide | omega) ?_ | refine brFn (by first | assumption | decide | omega) ?_ | refine And.intro (vp_in_nI (by omega) (by decide)) ?_ | refine And.intro (vp_lit (by decide)) ?_ | refine divJ (by decide) ?_ | refine divI (by decide) ?_)
          try change _ ∧ _
          refine ⟨Or.inr rfl, by rw [decide_eq_true ⟨by omega, hz⟩]; rfl, F2.a (by decide), by rw [wI_ne2 _ _ (by decide)]; exact L2, fun z => ⟨N3, fun i hi => by rw [wI_ne _ _ _ (by decide)]; exact W2 i hi⟩⟩
      · have hpn : ps b n q < n := by
          rcases Nat.lt_or_ge (ps b n q) n with z | z
          · exact z
          · exact absurd (tS_0.mpr (by omega)) hz
        have hb2 := (T2.2.2 _ hpn).2
        have elk : lkV b n (ps b n q) = nI (b (ps b n q)) := by unfold lkV; rw [if_pos hpn]
        rw [elk] at rl rl2
        have rt := r_MisLt (wI h' 65 2 (nI (ps b n q))) hb2
        have at2 : (wI h' 65 2 (nI (ps b n q))).1 65 2 = nI (ps b n q) := wI_same _ _ _ _
        repeat (first | (refine W1 rfl ?_; try refine Wp.norm (L' := [_, _, _, _, _]) rfl ?_) | ((first | change (_ → _) ∧ (_ → _) | change vp_in _ _ ∧ _ | change ¬ _ ∧ _); simp (disch := omega) only [nI_clamp, nI_leI, nI_ltI, nI_eq, nI_1, nI_add, nI_not_neg, nI_is_pos, nI_m1, nI_z]) | refine brT (by first | assumption | decide | omega) ?_ | refine brF (by first | assumption | decide | omega) ?_ | refine brTn (by first | assumption | decide | omega) ?_ | refine brFn (by first | assumption | decide | omega) ?_ | refine And.intro (vp_in_nI (by omega) (by decide)) ?_ | refine And.intro (vp_lit (by decide)) ?_ | refine divJ (by decide) ?_ | refine divI (by decide) ?_)
        try change _ ∧ _
        refine Cl.of rl (by decide) ?_
        repeat (first | (refine W1 rfl ?_; try refine Wp.norm (L' := [_, _, _, _, _]) rfl ?_) | ((first | change (_ → _) ∧ (_ → _) | change vp_in _ _ ∧ _ | change ¬ _ ∧ _); simp (disch := omega) only [nI_clamp, nI_leI, nI_ltI, nI_eq, nI_1, nI_add, nI_not_neg, nI_is_pos, nI_m1, nI_z, nI_m1]) | refine brT (by first | assumption | decide | omega) ?_ | refine brF (by first | assumption | decide | omega) ?_ | refine brTn (by first | assumption | decide | omega) ?_ | refine brFn (by first | assumption | decide | omega) ?_ | refine And.intro (vp_in_nI (by omega) (by decide)) ?_ | refine And.intro (vp_lit (by decide)) ?_ | refine divJ (by decide) ?_ | refine divI (by decide) ?_)
        try change _ ∧ _
        refine Cl.of rl2 (by decide) ?_
        repeat (first | (refine W1 rfl ?_; try refine Wp.norm (L' := [_, _, _, _, _]) rfl ?_) | ((first | change (_ → _) ∧ (_ → _) | change vp_in _ _ ∧ _ | change ¬ _ ∧ _); simp (disch := omega) only [nI_clamp, nI_leI, nI_ltI, nI_eq, nI_1, nI_add, nI_not_neg, nI_is_pos, nI_m1, nI_z]) | refine brT (by first | assumption | decide | omega) ?_ | refine brF (by first | assumption | decide | omega) ?_ | refine brTn (by first | assumption | decide | omega) ?_ | refine brFn (by first | assumption | decide | omega) ?_ | refine And.intro (vp_in_nI (by omega) (by decide)) ?_ | refine And.intro (vp_lit (by decide)) ?_ | refine divJ (by decide) ?_ | refine divI (by decide) ?_)
        try change _ ∧ _
        refine Cl.of rt (by decide) ?_
        cases hl : ltB b (ps b n q) with
        | false =>
          have ih := no hz (wI h' 65 2 (nI (ps b n q))) x2 x4 F2 L2
          repeat (first | refine Wp.at ih rfl rfl ?_ rfl | (refine W1 rfl ?_; try refine Wp.norm (L' := [_, _, _, _, _]) rfl ?_) | ((first | change (_ → _) ∧ (_ → _) | change vp_in _ _ ∧ _ | change ¬ _ ∧ _); simp (disch := omega) only [nI_clamp, nI_leI, nI_ltI, nI_eq, nI_1, nI_add, nI_not_neg, nI_is_pos, nI_m1, nI_z, bI_f]) | refine brT (by first | assumption | decide | omega) ?_ | refine brF (by first | assumption | decide | omega) ?_ | refine brTn (by first | assumption | decide | omega) ?_ | refine brFn (by first | assumption | decide | omega) ?_ | refine And.intro (vp_in_nI (by omega) (by decide)) ?_ | refine And.intro (vp_lit (by decide)) ?_ | refine divJ (by decide) ?_ | refine divI (by decide) ?_)
          try change _ ∧ _
          first | done | rfl | (simp (disch := omega) only [nI_1, nI_add, nI_clamp] <;> first | done | rfl)
        | true =>
          cases hj : jn b n q with
          | true =>
            have e4 := E2.2.mpr hj
            have ih := no hz (wI h' 65 2 (nI (ps b n q))) x2 x4 F2 L2
            repeat (first | refine Wp.at ih rfl rfl ?_ rfl | (refine W1 rfl ?_; try refine Wp.norm (L' := [_, _, _, _, _]) rfl ?_) | ((first | change (_ → _) ∧ (_ → _) | change vp_in _ _ ∧ _ | change ¬ _ ∧ _); simp (disch := omega) only [nI_clamp, nI_leI, nI_ltI, nI_eq, nI_1, nI_add, nI_not_neg, nI_is_pos, nI_m1, nI_z, bI_t, at2, e4]) | refine brT (by first | assumption | decide | omega) ?_ | refine brF (by first | assumption | decide | omega) ?_ | refine brTn (by first | assumption | decide | omega) ?_ | refine brFn (by first | assumption | decide | omega) ?_ | refine And.intro (vp_in_nI (by omega) (by decide)) ?_ | refine And.intro (vp_lit (by decide)) ?_ | refine divJ (by decide) ?_ | refine divI (by decide) ?_)
            try change _ ∧ _
            first | done | rfl | (simp (disch := omega) only [nI_1, nI_add, nI_clamp] <;> first | done | rfl)
          | false =>
            have e4 : ¬ nI (ps b n q) = (wI h' 65 2 (nI (ps b n q))).1 65 4 := fun z => by
              have := E2.2.mp z.symm
              rw [hj] at this; cases this
            by_cases h20 : q < 20
            · have hts := tS_w hpn hl hj
              have htv := tV_w hpn hl hj
              repeat (first | (refine W1 rfl ?_; try refine Wp.norm (L' := [_, _, _, _, _]) rfl ?_) | ((first | change (_ → _) ∧ (_ → _) | change vp_in _ _ ∧ _ | change ¬ _ ∧ _); simp (disch := omega) only [nI_clamp, nI_leI, nI_ltI, nI_eq, nI_1, nI_add, nI_not_neg, nI_is_pos, nI_m1, nI_z, bI_t, at2, N2, show (20 : Int32) = nI 20 from rfl]) | refine brT (by first | assumption | decide | omega) ?_ | refine brF (by first | assumption | decide | omega) ?_ | refine brTn (by first | assumption | decide | omega) ?_ | refine brFn (by first | assumption | decide | omega) ?_ | refine And.intro (vp_in_nI (by omega) (by decide)) ?_ | refine And.intro (vp_lit (by decide)) ?_ | refine divJ (by decide) ?_ | refine divI (by decide) ?_)
              try change _ ∧ _
              by_cases h6 : tl b n (ps b n q) ≤ 6
              · have hw : isW (wd b (ps b n q) (tl b n (ps b n q))) := wd_isW (tl_pos hpn) h6 (fun j hj => lt_all hpn hl hj)
                obtain ⟨w, h3, r3, e3, F3, L3, B3⟩ : ∃ w h3, Run 1 j_M_letters [.ref 65] (wI h' 65 2 (nI (ps b n q))) w h3 ∧ (w = some (.long (lN (e27 (wd b (ps b n q) (tl b n (ps b n q))) 0))) ∧ rwF h h3 ∧ h3.1 65 1 = 0 ∧ h3.1 65 5 = 0) := Run.ofP rfl (w_letters T2 hpn hl at2 (fun _ => ⟨rfl, ((F2.a (by decide)).a (by decide)).a (by decide), by unfold ltF; rw [wI_ne2 _ _ (by decide), wI_ne2 _ _ (by decide), wI_ne2 _ _ (by decide)]; exact L2, by unfold ltF; rw [wI_ne2 _ _ (by decide), wI_ne2 _ _ (by decide), wI_ne2 _ _ (by decide)]; exact B2⟩) (fun z => absurd z (by omega)))
                subst e3
                have rw' := r_who (F3.M R) o hw
                have nf : ¬ fI (fun p => decide (pC s p = e32 (wd b (ps b n q) (tl b n (ps b n q))))) (zP s) < zP s := fun z => by
                  by_cases c1 : ox (wd b (ps b n q) (tl b n (ps b n q))) < 20
                  · have y := fI_yes z
                    simp only [decide_eq_true_eq] at y
                    exact o.own z hw ((nm_eq hw (o.pnm z)).mpr y) (ox_mem c1)
                  · rw [if_neg c1, if_neg (by omega)] at hts htv
                    refine hout h20 ⟨hts, ?_⟩
                    unfold pfi
                    rw [htv]
                    exact z
                unfold fV at rw'
                rw [if_neg nf] at rw'
                refine Cl.of r3 (by decide) ?_
                repeat (first | (refine W1 rfl ?_; try refine Wp.norm (L' := [_, _, _]) rfl ?_) | ((first | change (_ → _) ∧ (_ → _) | change vp_in _ _ ∧ _ | change ¬ _ ∧ _); simp (disch := omega) only [nI_clamp, nI_leI, nI_ltI, nI_eq, nI_1, nI_add, nI_not_neg, nI_is_pos, nI_m1, nI_z, B3]) | refine brT (by first | assumption | decide | omega) ?_ | refine brF (by first | assumption | decide | omega) ?_ | refine brTn (by first | assumption | decide | omega) ?_ | refine brFn (by first | assumption | decide | omega) ?_ | refine And.intro (vp_in_nI (by omega) (by decide)) ?_ | refine And.intro (vp_lit (by decide)) ?_ | refine divJ (by decide) ?_ | refine divI (by decide) ?_)
                try change _ ∧ _
                refine Cl.of rw' (by decide) ?_
                have ih := no hz h3 (.long (lN (e27 (wd b (ps b n q) (tl b n (ps b n q))) 0))) (.int (-1)) F3 L3
                repeat (first | refine Wp.at ih rfl rfl ?_ rfl | (refine W1 rfl ?_; try refine Wp.norm (L' := [_, _, _]) rfl ?_) | ((first | change (_ → _) ∧ (_ → _) | change vp_in _ _ ∧ _ | change ¬ _ ∧ _); simp (disch := omega) only [nI_clamp, nI_leI, nI_ltI, nI_eq, nI_1, nI_add, nI_not_neg, nI_is_pos, nI_m1, nI_z]) | refine brT (by first | assumption | decide | omega) ?_ | refine brF (by first | assumption | decide | omega) ?_ | refine brTn (by first | assumption | decide | omega) ?_ | refine brFn (by first | assumption | decide | omega) ?_ | refine And.intro (vp_in_nI (by omega) (by decide)) ?_ | refine And.intro (vp_lit (by decide)) ?_ | refine divJ (by decide) ?_ | refine divI (by decide) ?_)
                try change _ ∧ _
                first | done | rfl | (simp (disch := omega) only [nI_1, nI_add, nI_clamp] <;> first | done | rfl)
              · obtain ⟨w, h3, r3, e3, F3, L3, B3⟩ : ∃ w h3, Run 1 j_M_letters [.ref 65] (wI h' 65 2 (nI (ps b n q))) w h3 ∧ (w = some (.long 0) ∧ rwF h h3 ∧ h3.1 65 1 = 0 ∧ h3.1 65 5 = 1) := Run.ofP rfl (w_letters T2 hpn hl at2 (fun z => absurd z h6) (fun _ => ⟨B2, rfl, (((F2.a (by decide)).a (by decide)).a (by decide)).a (by decide), by unfold ltF; rw [wI_ne2 _ _ (by decide), wI_ne2 _ _ (by decide), wI_ne2 _ _ (by decide), wI_ne2 _ _ (by decide)]; exact L2, by rw [wI_ne2 _ _ (by decide), wI_same]⟩))
                subst e3
                refine Cl.of r3 (by decide) ?_
                have ih := no hz h3 (.long 0) (.int (-1)) F3 L3
                repeat (first | refine Wp.at ih rfl rfl ?_ rfl | (refine W1 rfl ?_; try refine Wp.norm (L' := [_, _, _]) rfl ?_) | ((first | change (_ → _) ∧ (_ → _) | change vp_in _ _ ∧ _ | change ¬ _ ∧ _); simp (disch := omega) only [nI_clamp, nI_leI, nI_ltI, nI_eq, nI_1, nI_add, nI_not_neg, nI_is_pos, nI_m1, nI_z, B3]) | refine brT (by first | assumption | decide | omega) ?_ | refine brF (by first | assumption | decide | omega) ?_ | refine brTn (by first | assumption | decide | omega) ?_ | refine brFn (by first | assumption | decide | omega) ?_ | refine And.intro (vp_in_nI (by omega) (by decide)) ?_ | refine And.intro (vp_lit (by decide)) ?_ | refine divJ (by decide) ?_ | refine divI (by decide) ?_)
                try change _ ∧ _
                first | done | rfl | (simp (disch := omega) only [nI_1, nI_add, nI_clamp] <;> first | done | rfl)
            · have ih := no hz (wI h' 65 2 (nI (ps b n q))) x2 x4 F2 L2
              repeat (first | refine Wp.at ih rfl rfl ?_ rfl | (refine W1 rfl ?_; try refine Wp.norm (L' := [_, _, _]) rfl ?_) | ((first | change (_ → _) ∧ (_ → _) | change vp_in _ _ ∧ _ | change ¬ _ ∧ _); simp (disch := omega) only [nI_clamp, nI_leI, nI_ltI, nI_eq, nI_1, nI_add, nI_not_neg, nI_is_pos, nI_m1, nI_z, bI_t, at2, N2, show (20 : Int32) = nI 20 from rfl]) | refine brT (by first | assumption | decide | omega) ?_ | refine brF (by first | assumption | decide | omega) ?_ | refine brTn (by first | assumption | decide | omega) ?_ | refine brFn (by first | assumption | decide | omega) ?_ | refine And.intro (vp_in_nI (by omega) (by decide)) ?_ | refine And.intro (vp_lit (by decide)) ?_ | refine divJ (by decide) ?_ | refine divI (by decide) ?_)
              try change _ ∧ _
              first | done | rfl | (simp (disch := omega) only [nI_1, nI_add, nI_clamp] <;> first | done | rfl)
    · intro h' x2 x4 I
      obtain ⟨F, L, T, A, E, B, N, W⟩ := id I
      have I2 := I.lk
      obtain ⟨F2, L2, T2, A2, E2, B2, N2, W2⟩ := id I2
      have rl := r_look T A
      have rl2 := r_look T2 A2
      rw [wI_w] at rl2
      obtain ⟨hs1, hfd⟩ := hin i hi
      obtain ⟨hpn, hl, hj, h6, hox⟩ := tS_1 hs1
      have htv := tV_w hpn hl hj
      rw [if_neg hox, if_neg (by omega)] at htv
      have hb2 := (T2.2.2 _ hpn).2
      have elk : lkV b n (ps b n i) = nI (b (ps b n i)) := by unfold lkV; rw [if_pos hpn]
      rw [elk] at rl rl2
      have rt := r_MisLt (wI h' 65 2 (nI (ps b n i))) hb2
      rw [hl] at rt
      have at2 : (wI h' 65 2 (nI (ps b n i))).1 65 2 = nI (ps b n i) := wI_same _ _ _ _
      have e4 : ¬ nI (ps b n i) = (wI h' 65 2 (nI (ps b n i))).1 65 4 := fun z => by
        have := E2.2.mp z.symm
        rw [hj] at this; cases this
      have hw : isW (wd b (ps b n i) (tl b n (ps b n i))) := wd_isW (tl_pos hpn) h6 (fun j hj => lt_all hpn hl hj)
      obtain ⟨w, h3, r3, e3, I3⟩ : ∃ w h3, Run 1 j_M_letters [.ref 65] (wI h' 65 2 (nI (ps b n i))) w h3 ∧ (w = some (.long (lN (e27 (wd b (ps b n i) (tl b n (ps b n i))) 0))) ∧ rwF h h3 ∧ h3.1 65 1 = 0 ∧ MT b n h3 ∧ MA b n (i + 1) h3 ∧ ME b n (i + 1) h3 ∧ h3.1 65 5 = 0 ∧ h3.1 65 66 = nI i ∧ ∀ d, d < i → h3.1 114 d = nI (pfi s b n d)) := Run.ofP rfl (w_letters T2 hpn hl at2 (fun _ => by
        refine ⟨rfl, ((F2.a (by decide)).a (by decide)).a (by decide), ?_, ((T2.a (by decide)).a (by decide)).a (by decide), ⟨te b n (ps b n i), ?_, te_le hpn, (ps_s hpn).symm⟩, ME_nx hpn (by unfold wnB; rw [hl]; rfl) (wI_same _ _ _ _) hn, ?_, ?_, fun d hd => ?_⟩
        · unfold ltF; rw [wI_ne2 _ _ (by decide), wI_ne2 _ _ (by decide), wI_ne2 _ _ (by decide)]; exact L2
        · unfold ltF
          rw [wI_ne2 _ _ (by decide), wI_same]
          have := te_gt (b := b) hpn
          congr 1
          unfold tl
          omega
        · unfold ltF; rw [wI_ne2 _ _ (by decide), wI_ne2 _ _ (by decide), wI_ne2 _ _ (by decide)]; exact B2
        · unfold ltF; rw [wI_ne2 _ _ (by decide), wI_ne2 _ _ (by decide), wI_ne2 _ _ (by decide)]; exact N2
        · unfold ltF; rw [wI_ne _ _ _ (by decide), wI_ne _ _ _ (by decide), wI_ne _ _ _ (by decide)]; exact W2 d hd) (fun z => absurd z (by omega)))
      subst e3
      obtain ⟨F3, L3, T3, A3, E3, B3, N3, W3⟩ := I3
      have rw' := r_who (F3.M R) o hw
      rw [← htv] at rw'
      unfold fV at rw'
      rw [show fI (fun p => decide (pC s p = tV b n i)) (zP s) = pfi s b n i from rfl, if_pos hfd] at rw'
      have N4 : ∀ x, (wI h3 114 i x).1 65 66 = nI i := fun x => by rw [wI_ne _ _ _ (by decide)]; exact N3
      have ih := ih (wI (wI h3 114 i (nI (pfi s b n i))) 65 66 (nI (i + 1))) (.long (lN (e27 (wd b (ps b n i) (tl b n (ps b n i))) 0))) (.int (nI (pfi s b n i))) (by
        obtain ⟨a, a1, a2, a3⟩ := A3
        refine ⟨(F3.r).a (by decide), ?_, (T3.o (by decide) (by decide)).a (by decide), ⟨a, ?_, a2, a3⟩, ?_, ?_, wI_same _ _ _ _, fun d hd => ?_⟩
        · rw [wI_ne2 _ _ (by decide), wI_ne _ _ _ (by decide)]; exact L3
        · rw [wI_ne2 _ _ (by decide), wI_ne _ _ _ (by decide)]; exact a1
        · unfold ME; rw [wI_ne2 _ _ (by decide), wI_ne _ _ _ (by decide)]; exact E3
        · rw [wI_ne2 _ _ (by decide), wI_ne _ _ _ (by decide)]; exact B3
        · rw [wI_ne _ _ _ (by decide)]
          by_cases e : d = i
          · rw [e, wI_same]
          · rw [wI_ne2 _ _ e]; exact W3 d (by omega))
      repeat (first | (refine W1 rfl ?_; try refine Wp.norm (L' := [_, _, _]) rfl ?_) | ((first | change (_ → _) ∧ (_ → _) | change vp_in _ _ ∧ _ | change ¬ _ ∧ _); simp (disch := omega) only [nI_clamp, nI_leI, nI_ltI, nI_eq, nI_1, nI_add, nI_not_neg, nI_is_pos, nI_m1, nI_z]) | refine brT (by first | assumption | decide | omega) ?_ | refine brF (by first | assumption | decide | omega) ?_ | refine brTn (by first | assumption | decide | omega) ?_ | refine brFn (by first | assumption | decide | omega) ?_ | refine And.intro (vp_in_nI (by omega) (by decide)) ?_ | refine And.intro (vp_lit (by decide)) ?_ | refine divJ (by decide) ?_ | refine divI (by decide) ?_)
      try change _ ∧ _
      refine Cl.of rl (by decide) ?_
      repeat (first | (refine W1 rfl ?_; try refine Wp.norm (L' := [_, _, _]) rfl ?_) | ((first | change (_ → _) ∧ (_ → _) | change vp_in _ _ ∧ _ | change ¬ _ ∧ _); simp (disch := omega) only [nI_clamp, nI_leI, nI_ltI, nI_eq, nI_1, nI_add, nI_not_neg, nI_is_pos, nI_m1, nI_z, nI_m1]) | refine brT (by first | assumption | decide | omega) ?_ | refine brF (by first | assumption | decide | omega) ?_ | refine brTn (by first | assumption | decide | omega) ?_ | refine brFn (by first | assumption | decide | omega) ?_ | refine And.intro (vp_in_nI (by omega) (by decide)) ?_ | refine And.intro (vp_lit (by decide)) ?_ | refine divJ (by decide) ?_ | refine divI (by decide) ?_)
      try change _ ∧ _
      refine Cl.of rl2 (by decide) ?_
      repeat (first | (refine W1 rfl ?_; try refine Wp.norm (L' := [_, _, _]) rfl ?_) | ((first | change (_ → _) ∧ (_ → _) | change vp_in _ _ ∧ _ | change ¬ _ ∧ _); simp (disch := omega) only [nI_clamp, nI_leI, nI_ltI, nI_eq, nI_1, nI_add, nI_not_neg, nI_is_pos, nI_m1, nI_z]) | refine brT (by first | assumption | decide | omega) ?_ | refine brF (by first | assumption | decide | omega) ?_ | refine brTn (by first | assumption | decide | omega) ?_ | refine brFn (by first | assumption | decide | omega) ?_ | refine And.intro (vp_in_nI (by omega) (by decide)) ?_ | refine And.intro (vp_lit (by decide)) ?_ | refine divJ (by decide) ?_ | refine divI (by decide) ?_)
      try change _ ∧ _
      refine Cl.of rt (by decide) ?_
      repeat (first | (refine W1 rfl ?_; try refine Wp.norm (L' := [_, _, _]) rfl ?_) | ((first | change (_ → _) ∧ (_ → _) | change vp_in _ _ ∧ _ | change ¬ _ ∧ _); simp (disch := omega) only [nI_clamp, nI_leI, nI_ltI, nI_eq, nI_1, nI_add, nI_not_neg, nI_is_pos, nI_m1, nI_z, bI_t, at2, N2, show (20 : Int32) = nI 20 from rfl]) | refine brT (by first | assumption | decide | omega) ?_ | refine brF (by first | assumption | decide | omega) ?_ | refine brTn (by first | assumption | decide | omega) ?_ | refine brFn (by first | assumption | decide | omega) ?_ | refine And.intro (vp_in_nI (by omega) (by decide)) ?_ | refine And.intro (vp_lit (by decide)) ?_ | refine divJ (by decide) ?_ | refine divI (by decide) ?_)
      try change _ ∧ _
      refine Cl.of r3 (by decide) ?_
      repeat (first | (refine W1 rfl ?_; try refine Wp.norm (L' := [_, _, _]) rfl ?_) | ((first | change (_ → _) ∧ (_ → _) | change vp_in _ _ ∧ _ | change ¬ _ ∧ _); simp (disch := omega) only [nI_clamp, nI_leI, nI_ltI, nI_eq, nI_1, nI_add, nI_not_neg, nI_is_pos, nI_m1, nI_z, B3]) | refine brT (by first | assumption | decide | omega) ?_ | refine brF (by first | assumption | decide | omega) ?_ | refine brTn (by first | assumption | decide | omega) ?_ | refine brFn (by first | assumption | decide | omega) ?_ | refine And.intro (vp_in_nI (by omega) (by decide)) ?_ | refine And.intro (vp_lit (by decide)) ?_ | refine divJ (by decide) ?_ | refine divI (by decide) ?_)
      try change _ ∧ _
      refine Cl.of rw' (by decide) ?_
      repeat (first | refine Wp.at ih rfl rfl ?_ ?_ | (refine W1 rfl ?_; try refine Wp.norm (L' := [_, _, _]) rfl ?_) | ((first | change (_ → _) ∧ (_ → _) | change vp_in _ _ ∧ _ | change ¬ _ ∧ _); simp (disch := omega) only [nI_clamp, nI_leI, nI_ltI, nI_eq, nI_1, nI_add, nI_not_neg, nI_is_pos, nI_m1, nI_z, nI_m1, N3, N4]) | refine brT (by first | assumption | decide | omega) ?_ | refine brF (by first | assumption | decide | omega) ?_ | refine brTn (by first | assumption | decide | omega) ?_ | refine brFn (by first | assumption | decide | omega) ?_ | refine And.intro (vp_in_nI (by omega) (by decide)) ?_ | refine And.intro (vp_lit (by decide)) ?_ | refine divJ (by decide) ?_ | refine divI (by decide) ?_)
      try change _ ∧ _
      · first | done | rfl | (simp (disch := omega) only [nI_1, nI_add, nI_clamp] <;> first | done | rfl)
      · first | done | rfl | (simp (disch := omega) only [nI_1, nI_add, nI_clamp, N3, N4] <;> first | done | rfl)
  have ih := lp 0 (Nat.zero_le _) (wI (wI (wI (wI (wI (wI h 65 3 (nI n)) 65 1 0) 65 2 0) 65 4 (-1)) 65 5 0) 65 66 0) .null .null (by
    refine ⟨((((((rwF.rfl h).a (by decide)).a (by decide)).a (by decide)).a (by decide)).a (by decide)).a (by decide), rfl, ⟨hn, rfl, fun k hk => hb k hk⟩, ⟨0, rfl, Nat.zero_le _, rfl⟩, ⟨Or.inl rfl, ?_⟩, rfl, rfl, fun d hd => absurd hd (by omega)⟩
    constructor
    · intro z
      exact absurd z (fun z => (nI_m1' (show ps b n 0 < 2 ^ 31 by have := ps_le (b := b) (n := n) 0; omega)).mp z)
    · intro z; cases z)
  repeat (first | refine Wp.at ih rfl rfl ?_ ?_ | (refine W1 rfl ?_; try refine Wp.norm (L' := [_, _, _]) rfl ?_) | ((first | change (_ → _) ∧ (_ → _) | change vp_in _ _ ∧ _ | change ¬ _ ∧ _); simp (disch := omega) only [nI_clamp, nI_leI, nI_ltI, nI_eq, nI_1, nI_add, nI_not_neg, nI_is_pos, nI_m1, nI_z, hl1]) | refine brT (by first | assumption | decide | omega) ?_ | refine brF (by first | assumption | decide | omega) ?_ | refine brTn (by first | assumption | decide | omega) ?_ | refine brFn (by first | assumption | decide | omega) ?_ | refine And.intro (vp_in_nI (by omega) (by decide)) ?_ | refine And.intro (vp_lit (by decide)) ?_ | refine divJ (by decide) ?_ | refine divI (by decide) ?_)
  try change _ ∧ _
  · first | done | rfl | (simp (disch := omega) only [nI_1, nI_add, nI_clamp] <;> first | done | rfl)
  · rw [hl1]
end ROWM
