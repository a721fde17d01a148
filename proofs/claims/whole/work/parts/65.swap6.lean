/-! ===== SWAPS: the model's side, the clause ===== -/
section SW6
variable {s : ST} {c v : RT} {h : HP} {i j : Nat}
theorem r_M_swap (R : RM s c v h) (o : OK s) (hi : i < zT s) (hj : j < zT s) (hij : i ≠ j) : ∃ h', Run 0 j_M_swap [.ref 65, .int (nI i), .int (nI j)] h none h' ∧ onlyJ [110, 111] [] h h' ∧ RM s (swp c i j) (swp v i j) h' := by
  have hT := o.T; have hP := o.P; have hK := o.K; have hD := o.D; have hO := o.O; have hQ := o.Q; have hL := o.L
  refine ⟨wI (wI (wI (wI h 110 i (c j)) 111 i (v j)) 110 j (c i)) 111 j (v i), ?_, ((((onlyJ.rfl _ _ h).addI (by decide)).addI (by decide)).addI (by decide)).addI (by decide), ?_⟩
  · refine Run.of rfl ?_
    refine Wp.norm (L' := [_, _, _, _, _]) rfl ?_
    repeat (first | (refine W1 rfl ?_; try refine Wp.norm (L' := [_, _, _, _, _]) rfl ?_) | ((first | change (_ → _) ∧ (_ → _) | change vp_in _ _ ∧ _ | change ¬ _ ∧ _); simp (disch := omega) only [nI_clamp, nI_leI, nI_ltI, nI_eq, nI_1, nI_add, nI_not_neg, nI_is_pos, nI_m1, nI_z]) | refine brT (by first | assumption | decide | omega) ?_ | refine brF (by first | assumption | decide | omega) ?_ | refine brTn (by first | assumption | decide | omega) ?_ | refine brFn (by first | assumption | decide | omega) ?_ | refine And.intro (vp_in_nI (by omega) (by decide)) ?_ | refine And.intro (vp_lit (by decide)) ?_ | refine divJ (by decide) ?_ | refine divI (by decide) ?_)
    try change _ ∧ _
    simp (disch := omega) only [nI_clamp, wI_ne, wI_ne2, R.cts, R.srv]
    exact ⟨trivial, trivial⟩
  · have := (((R.c110 i (c j)).c111 i (v j)).c110 j (c i)).c111 j (v i)
    rwa [upd_swp c hij, upd_swp v hij] at this
/-- where swaps writes -/
def smF (h h' : HP) : Prop := onlyJ [65, 110, 111] [] h h' ∧ ∀ i, i ≠ 62 → i ≠ 63 → i ≠ 74 → h'.1 65 i = h.1 65 i
theorem smF.rfl (h : HP) : smF h h := ⟨onlyJ.rfl _ _ h, fun _ _ _ _ => Eq.refl _⟩
theorem smF.trans {a b c : HP} (A : smF a b) (B : smF b c) : smF a c := ⟨A.1.trans B.1, fun i h1 h2 h3 => (B.2 i h1 h2 h3).trans (A.2 i h1 h2 h3)⟩
theorem smF.sw {h h' : HP} (H : onlyJ [110, 111] [] h h') : smF h h' := ⟨H.mono (by intro k hk; simp at hk; rcases hk with hk | hk <;> (subst hk; decide)) (by simp), fun i _ _ _ => H.1 65 i (by decide)⟩
theorem smF.ends {h h' : HP} {x : Int32} (H : smF h h') : smF h (wI h' 65 74 x) := ⟨H.1.addI (by decide), fun i h1 h2 h3 => by rw [wI_ne2 _ _ h3]; exact H.2 i h1 h2 h3⟩
def smG (h h' : HP) : Prop := onlyJ [65] [] h h' ∧ ∀ i, i ≠ 62 → i ≠ 63 → h'.1 65 i = h.1 65 i
theorem smG.rfl (h : HP) : smG h h := ⟨onlyJ.rfl _ _ h, fun _ _ _ => Eq.refl _⟩
theorem smG.w2 {h h' : HP} {x y : Int32} (H : smG h h') : smG h (wI (wI h' 65 62 x) 65 63 y) := ⟨(H.1.addI (by decide)).addI (by decide), fun i h1 h2 => by rw [wI_ne2 _ _ h2, wI_ne2 _ _ h1]; exact H.2 i h1 h2⟩
theorem smG.same {h h' : HP} (H : smG h h') : Same h h' := by
  refine ⟨fun k i hk => ?_, fun k i _ => H.1.2 k i (by simp)⟩
  by_cases e : k = 65
  · subst e
    exact H.2 i (by rintro rfl; cases hk) (by rintro rfl; cases hk)
  · exact H.1.1 k i (by simp; exact e)
theorem smG.f {h h' : HP} (H : smG h h') : smF h h' := ⟨H.1.mono (by intro k hk; simp at hk; subst hk; decide) (by simp), fun i h1 h2 _ => H.2 i h1 h2⟩
theorem w_M_worstGap2 (R : RM s c v h) (o : OK s) {Q : QT} (KQ : ∀ h', smG h h' → Q (some (.long (wsk s c (zK s)).1)) h') : Wp 4 j_M_worstGap 0 [.ref 65, .null, .null, .null, .null, .null, .null] [] h Q := by
  have hT := o.T; have hP := o.P; have hK := o.K; have hD := o.D; have hO := o.O; have hQ := o.Q; have hL := o.L
  have lp : ∀ i, i ≤ zK s → ∀ (h' : HP) (x2 x3 : Value), smG h h' → Wp 4 j_M_worstGap 6 [.ref 65, .long (wsk s c i).1, .null, .int (nI i), x2, x3, .null] [] h' Q := by
    refine up_ind ?_ (fun i hi ih => ?_)
    · intro h' x2 x3 S
      have R' := R.same S.same
      repeat (first | (refine W1 rfl ?_; try refine Wp.norm (L' := [_, _, _, _, _, _, _]) rfl ?_) | ((first | change (_ → _) ∧ (_ → _) | change vp_in _ _ ∧ _ | change ¬ _ ∧ _); simp (disch := omega) only [nI_clamp, nI_leI, nI_ltI, nI_eq, nI_1, nI_add, nI_not_neg, nI_is_pos, nI_m1, nI_z, show Int32.toNatClampNeg 1 = 1 from rfl, R'.K]) | refine brT (by first | assumption | decide | omega) ?_ | refine brF (by first | assumption | decide | omega) ?_ | refine brTn (by first | assumption | decide | omega) ?_ | refine brFn (by first | assumption | decide | omega) ?_ | refine And.intro (vp_in_nI (by omega) (by decide)) ?_ | refine And.intro (vp_lit (by decide)) ?_ | refine divJ (by decide) ?_ | refine divI (by decide) ?_)
      try change _ ∧ _
      exact KQ h' S
    · have inner : ∀ p, p ≤ zP s → ∀ (h' : HP) (x3 : Value), smG h h' → Wp 4 j_M_worstGap 19 [.ref 65, .long (wsp s c i (wsk s c i) p).1, .null, .int (nI i), .int (nI p), x3, .null] [] h' Q := by
        refine up_ind ?_ (fun p hp ih2 => ?_)
        · intro h' x3 S
          have R' := R.same S.same
          have ih := ih h' (.int (nI (zP s))) x3 S
          (refine W1 rfl ?_; try refine Wp.norm (L' := [_, _, _, _, _, _, _]) rfl ?_)
          repeat (first | refine Wp.at ih rfl rfl ?_ rfl | (refine W1 rfl ?_; try refine Wp.norm (L' := [_, _, _, _, _, _, _]) rfl ?_) | ((first | change (_ → _) ∧ (_ → _) | change vp_in _ _ ∧ _ | change ¬ _ ∧ _); simp (disch := omega) only [nI_clamp, nI_leI, nI_ltI, nI_eq, nI_1, nI_add, nI_not_neg, nI_is_pos, nI_m1, nI_z, show Int32.toNatClampNeg 1 = 1 from rfl, R'.P]) | refine brT (by first | assumption | decide | omega) ?_ | refine brF (by first | assumption | decide | omega) ?_ | refine brTn (by first | assumption | decide | omega) ?_ | refine brFn (by first | assumption | decide | omega) ?_ | refine And.intro (vp_in_nI (by omega) (by decide)) ?_ | refine And.intro (vp_lit (by decide)) ?_ | refine divJ (by decide) ?_ | refine divI (by decide) ?_)
          try change _ ∧ _
          first | done | rfl | (simp (disch := omega) only [nI_1, nI_add, nI_clamp] <;> first | done | rfl)
        · intro h' x3 S
          have R' := R.same S.same
          (refine W1 rfl ?_; try refine Wp.norm (L' := [_, _, _, _, _, _, _]) rfl ?_)
          repeat (first | (refine W1 rfl ?_; try refine Wp.norm (L' := [_, _, _, _, _, _, _]) rfl ?_) | ((first | change (_ → _) ∧ (_ → _) | change vp_in _ _ ∧ _ | change ¬ _ ∧ _); simp (disch := omega) only [nI_clamp, nI_leI, nI_ltI, nI_eq, nI_1, nI_add, nI_not_neg, nI_is_pos, nI_m1, nI_z, show Int32.toNatClampNeg 1 = 1 from rfl, R'.P]) | refine brT (by first | assumption | decide | omega) ?_ | refine brF (by first | assumption | decide | omega) ?_ | refine brTn (by first | assumption | decide | omega) ?_ | refine brFn (by first | assumption | decide | omega) ?_ | refine And.intro (vp_in_nI (by omega) (by decide)) ?_ | refine And.intro (vp_lit (by decide)) ?_ | refine divJ (by decide) ?_ | refine divI (by decide) ?_)
          try change _ ∧ _
          refine Cl.of (r_M_gapOf (k := some i) R' o (fun k' hk' => by cases hk'; exact hi) hp) (by decide) ?_
          repeat (first | (refine W1 rfl ?_; try refine Wp.norm (L' := [_, _, _, _, _, _, _]) rfl ?_) | ((first | change (_ → _) ∧ (_ → _) | change vp_in _ _ ∧ _ | change ¬ _ ∧ _); simp (disch := omega) only [nI_clamp, nI_leI, nI_ltI, nI_eq, nI_1, nI_add, nI_not_neg, nI_is_pos, nI_m1, nI_z]) | refine brT (by first | assumption | decide | omega) ?_ | refine brF (by first | assumption | decide | omega) ?_ | refine brTn (by first | assumption | decide | omega) ?_ | refine brFn (by first | assumption | decide | omega) ?_ | refine And.intro (vp_in_nI (by omega) (by decide)) ?_ | refine And.intro (vp_lit (by decide)) ?_ | refine divJ (by decide) ?_ | refine divI (by decide) ?_)
          try change _ ∧ _
          rw [lgc_gt]
          have e : wsp s c i (wsk s c i) (p + 1) = if (wsp s c i (wsk s c i) p).1 < gapV s c p (some i) then (gapV s c p (some i), nI i, nI p) else wsp s c i (wsk s c i) p := rfl
          refine ⟨fun hc => ?_, fun hc => ?_⟩
          · rw [if_pos hc] at e
            have ih := ih2 (wI (wI h' 65 62 (nI i)) 65 63 (nI p)) (.long (gapV s c p (some i))) (S.w2)
            rw [e] at ih
            repeat (first | refine Wp.at ih rfl rfl ?_ rfl | (refine W1 rfl ?_; try refine Wp.norm (L' := [_, _, _, _, _, _, _]) rfl ?_) | ((first | change (_ → _) ∧ (_ → _) | change vp_in _ _ ∧ _ | change ¬ _ ∧ _); simp (disch := omega) only [nI_clamp, nI_leI, nI_ltI, nI_eq, nI_1, nI_add, nI_not_neg, nI_is_pos, nI_m1, nI_z]) | refine brT (by first | assumption | decide | omega) ?_ | refine brF (by first | assumption | decide | omega) ?_ | refine brTn (by first | assumption | decide | omega) ?_ | refine brFn (by first | assumption | decide | omega) ?_ | refine And.intro (vp_in_nI (by omega) (by decide)) ?_ | refine And.intro (vp_lit (by decide)) ?_ | refine divJ (by decide) ?_ | refine divI (by decide) ?_)
            try change _ ∧ _
            first | done | rfl | (simp (disch := omega) only [nI_1, nI_add, nI_clamp] <;> first | done | rfl)
          · rw [if_neg hc] at e
            have ih := ih2 h' (.long (gapV s c p (some i))) S
            rw [e] at ih
            repeat (first | refine Wp.at ih rfl rfl ?_ rfl | (refine W1 rfl ?_; try refine Wp.norm (L' := [_, _, _, _, _, _, _]) rfl ?_) | ((first | change (_ → _) ∧ (_ → _) | change vp_in _ _ ∧ _ | change ¬ _ ∧ _); simp (disch := omega) only [nI_clamp, nI_leI, nI_ltI, nI_eq, nI_1, nI_add, nI_not_neg, nI_is_pos, nI_m1, nI_z]) | refine brT (by first | assumption | decide | omega) ?_ | refine brF (by first | assumption | decide | omega) ?_ | refine brTn (by first | assumption | decide | omega) ?_ | refine brFn (by first | assumption | decide | omega) ?_ | refine And.intro (vp_in_nI (by omega) (by decide)) ?_ | refine And.intro (vp_lit (by decide)) ?_ | refine divJ (by decide) ?_ | refine divI (by decide) ?_)
            try change _ ∧ _
            first | done | rfl | (simp (disch := omega) only [nI_1, nI_add, nI_clamp] <;> first | done | rfl)
      intro h' x2 x3 S
      have R' := R.same S.same
      have ih := inner 0 (Nat.zero_le _) h' x3 S
      (refine W1 rfl ?_; try refine Wp.norm (L' := [_, _, _, _, _, _, _]) rfl ?_)
      repeat (first | refine Wp.at ih rfl rfl ?_ rfl | (refine W1 rfl ?_; try refine Wp.norm (L' := [_, _, _, _, _, _, _]) rfl ?_) | ((first | change (_ → _) ∧ (_ → _) | change vp_in _ _ ∧ _ | change ¬ _ ∧ _); simp (disch := omega) only [nI_clamp, nI_leI, nI_ltI, nI_eq, nI_1, nI_add, nI_not_neg, nI_is_pos, nI_m1, nI_z, show Int32.toNatClampNeg 1 = 1 from rfl, R'.K]) | refine brT (by first | assumption | decide | omega) ?_ | refine brF (by first | assumption | decide | omega) ?_ | refine brTn (by first | assumption | decide | omega) ?_ | refine brFn (by first | assumption | decide | omega) ?_ | refine And.intro (vp_in_nI (by omega) (by decide)) ?_ | refine And.intro (vp_lit (by decide)) ?_ | refine divJ (by decide) ?_ | refine divI (by decide) ?_)
      try change _ ∧ _
      first | done | rfl | (simp (disch := omega) only [nI_1, nI_add, nI_clamp] <;> first | done | rfl)
  have ih := lp 0 (Nat.zero_le _) h .null .null (smG.rfl h)
  repeat (first | refine Wp.at ih rfl rfl ?_ rfl | (refine W1 rfl ?_; try refine Wp.norm (L' := [_, _, _, _, _, _, _]) rfl ?_) | ((first | change (_ → _) ∧ (_ → _) | change vp_in _ _ ∧ _ | change ¬ _ ∧ _); simp (disch := omega) only [nI_clamp, nI_leI, nI_ltI, nI_eq, nI_1, nI_add, nI_not_neg, nI_is_pos, nI_m1, nI_z]) | refine brT (by first | assumption | decide | omega) ?_ | refine brF (by first | assumption | decide | omega) ?_ | refine brTn (by first | assumption | decide | omega) ?_ | refine brFn (by first | assumption | decide | omega) ?_ | refine And.intro (vp_in_nI (by omega) (by decide)) ?_ | refine And.intro (vp_lit (by decide)) ?_ | refine divJ (by decide) ?_ | refine divI (by decide) ?_)
  try change _ ∧ _
  first | done | rfl | (simp (disch := omega) only [nI_1, nI_add, nI_clamp] <;> first | done | rfl)
theorem r_M_worst2 (R : RM s c v h) (o : OK s) : ∃ h', Run 4 j_M_worstGap [.ref 65] h (some (.long (wsk s c (zK s)).1)) h' ∧ smG h h' := by
  obtain ⟨w, h', hr, hw, h1⟩ := Run.ofP (d := 4) (as := [.ref 65]) (P := fun w h' => w = some (.long (wsk s c (zK s)).1) ∧ smG h h') rfl (w_M_worstGap2 R o (fun h' a => ⟨rfl, a⟩))
  subst hw
  exact ⟨h', hr, h1⟩
theorem brs_le (o : OK s) (v : RT) : brs s v (zT s) ≤ 200 := Nat.le_trans (cnt_le _ _) o.T
/-- what swaps leaves -/
def smP (r : RT × RT × Nat × Nat) (s : ST) (h : HP) (w : Option Value) (h' : HP) : Prop := w = some (.int (nI r.2.2.1)) ∧ h'.1 65 74 = nI r.2.2.2 ∧ RM s r.1 r.2.1 h' ∧ smF h h'
theorem w_M_swapsB (o : OK s) {m : Nat} (hm : m ≤ 1000) (r : RT × RT × Nat × Nat) : ∀ f (c v : RT) l d h' x8 x9 x10 x11, l < f → l ≤ m → d + l ≤ m → imF s f c v l d = r → RM s c v h' → RO s c v → smF h h' → h'.1 65 74 = 1 → Wp 5 j_M_swaps 38 [.ref 65, .int (nI m), .int (nI d), .int (nI (m - l)), .int (nI (brs s v (zT s))), .long (wsk s c (zK s)).1, .null, .int 1, x8, x9, x10, x11, .null] [] h' (smP r s h) := by
  have hT := o.T; have hP := o.P; have hK := o.K; have hD := o.D; have hO := o.O; have hQ := o.Q; have hL := o.L
  intro f
  induction f with
  | zero => intro c v l d h' x8 x9 x10 x11 hl; exact absurd hl (by omega)
  | succ f ihf =>
    intro c v l d h' x8 x9 x10 x11 hlf hlm hdl hr R' ro' F E
    rw [im_s] at hr
    obtain ⟨q, hq⟩ : ∃ q, piS s c v (zT s) 0 l = q := ⟨_, rfl⟩
    rw [hq] at hr
    have lp : ∀ i, i ≤ zT s → ∀ l' h' x9 x10 x11, l' ≤ l → piS s c v (zT s - i) i l' = q → RM s c v h' → smF h h' → h'.1 65 74 = 1 → Wp 5 j_M_swaps 49 [.ref 65, .int (nI m), .int (nI d), .int (nI (m - l')), .int (nI (brs s v (zT s))), .long (wsk s c (zK s)).1, .null, .int 0, .int (nI i), x9, x10, x11, .null] [] h' (smP r s h) := by
      refine up_ind ?_ (fun i hi ih => ?_)
      · intro l' h' x9 x10 x11 hl' hq' R' F E
        rw [Nat.sub_self] at hq'
        have h1 : q.1 = 1 := by rw [← hq']; rfl
        rw [if_neg (by rw [h1]; decide), h1] at hr
        repeat (first | (refine W1 rfl ?_; try refine Wp.norm (L' := [_, _, _, _, _, _, _, _, _, _, _, _, _]) rfl ?_) | ((first | change (_ → _) ∧ (_ → _) | change vp_in _ _ ∧ _ | change ¬ _ ∧ _); simp (disch := omega) only [nI_clamp, nI_leI, nI_ltI, nI_eq, nI_1, nI_add, nI_not_neg, nI_is_pos, nI_m1, nI_z, R'.T]) | refine brT (by first | assumption | decide | omega) ?_ | refine brF (by first | assumption | decide | omega) ?_ | refine brTn (by first | assumption | decide | omega) ?_ | refine brFn (by first | assumption | decide | omega) ?_ | refine And.intro (vp_in_nI (by omega) (by decide)) ?_ | refine And.intro (vp_lit (by decide)) ?_ | refine divJ (by decide) ?_ | refine divI (by decide) ?_)
        try change _ ∧ _
        rw [← hr]
        exact ⟨rfl, E, R', F⟩
      · intro l' h' x9 x10 x11 hl' hq' R' F E
        rw [show zT s - i = zT s - (i + 1) + 1 by omega, pi_s] at hq'
        have inner : ∀ j, j ≤ zT s → i + 1 ≤ j → ∀ l' h' x10 x11, l' ≤ l → (if (pjS s c v i (zT s - j) j l').1 = 3 then piS s c v (zT s - (i + 1)) (i + 1) (pjS s c v i (zT s - j) j l').2.2 else ((pjS s c v i (zT s - j) j l').1, i, (pjS s c v i (zT s - j) j l').2.1, (pjS s c v i (zT s - j) j l').2.2)) = q → RM s c v h' → smF h h' → h'.1 65 74 = 1 → Wp 5 j_M_swaps 69 [.ref 65, .int (nI m), .int (nI d), .int (nI (m - l')), .int (nI (brs s v (zT s))), .long (wsk s c (zK s)).1, .null, .int 0, .int (nI i), .int (nI j), x10, x11, .null] [] h' (smP r s h) := by
          refine up_ind ?_ (fun j hj ih2 => ?_)
          · intro _ l' h' x10 x11 hl' hq' R' F E
            rw [Nat.sub_self, pj_0, if_pos rfl] at hq'
            have ih := ih l' h' (.int (nI (zT s))) x10 x11 hl' hq' R' F E
            (refine W1 rfl ?_; try refine Wp.norm (L' := [_, _, _, _, _, _, _, _, _, _, _, _, _]) rfl ?_)
            repeat (first | refine Wp.at ih rfl rfl ?_ rfl | (refine W1 rfl ?_; try refine Wp.norm (L' := [_, _, _, _, _, _, _, _, _, _, _, _, _]) rfl ?_) | ((first | change (_ → _) ∧ (_ → _) | change vp_in _ _ ∧ _ | change ¬ _ ∧ _); simp (disch := omega) only [nI_clamp, nI_leI, nI_ltI, nI_eq, nI_1, nI_add, nI_not_neg, nI_is_pos, nI_m1, nI_z, R'.T]) | refine brT (by first | assumption | decide | omega) ?_ | refine brF (by first | assumption | decide | omega) ?_ | refine brTn (by first | assumption | decide | omega) ?_ | refine brFn (by first | assumption | decide | omega) ?_ | refine And.intro (vp_in_nI (by omega) (by decide)) ?_ | refine And.intro (vp_lit (by decide)) ?_ | refine divJ (by decide) ?_ | refine divI (by decide) ?_)
            try change _ ∧ _
            first | done | rfl | (simp (disch := omega) only [nI_1, nI_add, nI_clamp] <;> first | done | rfl)
          · intro hij l' h' x10 x11 hl' hq' R' F E
            have hij2 : i ≠ j := by omega
            rw [show zT s - j = zT s - (j + 1) + 1 by omega] at hq'
            have skip : ebB c i j = false → Wp 5 j_M_swaps 227 [.ref 65, .int (nI m), .int (nI d), .int (nI (m - l')), .int (nI (brs s v (zT s))), .long (wsk s c (zK s)).1, .null, .int 0, .int (nI i), .int (nI j), x10, x11, .null] [] h' (smP r s h) := by
              intro he
              rw [pj_no _ he] at hq'
              have ih := ih2 (by omega) l' h' x10 x11 hl' hq' R' F E
              repeat (first | refine Wp.at ih rfl rfl ?_ rfl | (refine W1 rfl ?_; try refine Wp.norm (L' := [_, _, _, _, _, _, _, _, _, _, _, _, _]) rfl ?_) | ((first | change (_ → _) ∧ (_ → _) | change vp_in _ _ ∧ _ | change ¬ _ ∧ _); simp (disch := omega) only [nI_clamp, nI_leI, nI_ltI, nI_eq, nI_1, nI_add, nI_not_neg, nI_is_pos, nI_m1, nI_z]) | refine brT (by first | assumption | decide | omega) ?_ | refine brF (by first | assumption | decide | omega) ?_ | refine brTn (by first | assumption | decide | omega) ?_ | refine brFn (by first | assumption | decide | omega) ?_ | refine And.intro (vp_in_nI (by omega) (by decide)) ?_ | refine And.intro (vp_lit (by decide)) ?_ | refine divJ (by decide) ?_ | refine divI (by decide) ?_)
              try change _ ∧ _
              first | done | rfl | (simp (disch := omega) only [nI_1, nI_add, nI_clamp] <;> first | done | rfl)
            by_cases e0 : c i = -1
            · have ih := skip (by unfold ebB; simp [e0])
              repeat (first | refine Wp.at ih rfl rfl ?_ rfl | (refine W1 rfl ?_; try refine Wp.norm (L' := [_, _, _, _, _, _, _, _, _, _, _, _, _]) rfl ?_) | ((first | change (_ → _) ∧ (_ → _) | change vp_in _ _ ∧ _ | change ¬ _ ∧ _); simp (disch := omega) only [nI_clamp, nI_leI, nI_ltI, nI_eq, nI_1, nI_add, nI_not_neg, nI_is_pos, nI_m1, nI_z, R'.T, R'.cts]) | refine brT (by first | assumption | decide | omega) ?_ | refine brF (by first | assumption | decide | omega) ?_ | refine brTn (by first | assumption | decide | omega) ?_ | refine brFn (by first | assumption | decide | omega) ?_ | refine And.intro (vp_in_nI (by omega) (by decide)) ?_ | refine And.intro (vp_lit (by decide)) ?_ | refine divJ (by decide) ?_ | refine divI (by decide) ?_)
              try change _ ∧ _
              first | done | rfl | (simp (disch := omega) only [nI_1, nI_add, nI_clamp] <;> first | done | rfl)
            · by_cases e1 : c j = -1
              · have ih := skip (by unfold ebB; simp [e1])
                repeat (first | refine Wp.at ih rfl rfl ?_ rfl | (refine W1 rfl ?_; try refine Wp.norm (L' := [_, _, _, _, _, _, _, _, _, _, _, _, _]) rfl ?_) | ((first | change (_ → _) ∧ (_ → _) | change vp_in _ _ ∧ _ | change ¬ _ ∧ _); simp (disch := omega) only [nI_clamp, nI_leI, nI_ltI, nI_eq, nI_1, nI_add, nI_not_neg, nI_is_pos, nI_m1, nI_z, R'.T, R'.cts]) | refine brT (by first | assumption | decide | omega) ?_ | refine brF (by first | assumption | decide | omega) ?_ | refine brTn (by first | assumption | decide | omega) ?_ | refine brFn (by first | assumption | decide | omega) ?_ | refine And.intro (vp_in_nI (by omega) (by decide)) ?_ | refine And.intro (vp_lit (by decide)) ?_ | refine divJ (by decide) ?_ | refine divI (by decide) ?_)
                try change _ ∧ _
                first | done | rfl | (simp (disch := omega) only [nI_1, nI_add, nI_clamp] <;> first | done | rfl)
              · by_cases e2 : c i = c j
                · have ih := skip (by unfold ebB; simp [e2])
                  repeat (first | refine Wp.at ih rfl rfl ?_ rfl | (refine W1 rfl ?_; try refine Wp.norm (L' := [_, _, _, _, _, _, _, _, _, _, _, _, _]) rfl ?_) | ((first | change (_ → _) ∧ (_ → _) | change vp_in _ _ ∧ _ | change ¬ _ ∧ _); simp (disch := omega) only [nI_clamp, nI_leI, nI_ltI, nI_eq, nI_1, nI_add, nI_not_neg, nI_is_pos, nI_m1, nI_z, R'.T, R'.cts]) | refine brT (by first | assumption | decide | omega) ?_ | refine brF (by first | assumption | decide | omega) ?_ | refine brTn (by first | assumption | decide | omega) ?_ | refine brFn (by first | assumption | decide | omega) ?_ | refine And.intro (vp_in_nI (by omega) (by decide)) ?_ | refine And.intro (vp_lit (by decide)) ?_ | refine divJ (by decide) ?_ | refine divI (by decide) ?_)
                  try change _ ∧ _
                  first | done | rfl | (simp (disch := omega) only [nI_1, nI_add, nI_clamp] <;> first | done | rfl)
                · have heb : ebB c i j = true := by unfold ebB; simp [e0, e1]; exact fun z => e2 z.symm
                  by_cases hl0 : l' = 0
                  · subst hl0
                    rw [pj_st _ heb, if_neg (show ¬ (0 : Nat) = 3 by decide)] at hq'
                    have h1 : q.1 = 0 := by rw [← hq']
                    rw [if_neg (by rw [h1]; decide), h1] at hr
                    repeat (first | (refine W1 rfl ?_; try refine Wp.norm (L' := [_, _, _, _, _, _, _, _, _, _, _, _, _]) rfl ?_) | ((first | change (_ → _) ∧ (_ → _) | change vp_in _ _ ∧ _ | change ¬ _ ∧ _); simp (disch := omega) only [nI_clamp, nI_leI, nI_ltI, nI_eq, nI_1, nI_add, nI_not_neg, nI_is_pos, nI_m1, nI_z, R'.T, R'.cts]) | refine brT (by first | assumption | decide | omega) ?_ | refine brF (by first | assumption | decide | omega) ?_ | refine brTn (by first | assumption | decide | omega) ?_ | refine brFn (by first | assumption | decide | omega) ?_ | refine And.intro (vp_in_nI (by omega) (by decide)) ?_ | refine And.intro (vp_lit (by decide)) ?_ | refine divJ (by decide) ?_ | refine divI (by decide) ?_)
                    try change _ ∧ _
                    rw [← hr]
                    exact ⟨rfl, wI_same _ _ _ _, R'.sr (SameK.ofI h' _ rfl) (fun _ _ _ => rfl), F.ends⟩
                  · obtain ⟨h2, r2, O2, R2⟩ := r_M_swap R' o hi hj hij2
                    have ro2 := ro'.swq hi hj
                    have F2 := F.trans (smF.sw O2)
                    have E2 : h2.1 65 74 = 1 := by rw [O2.1 65 74 (by decide)]; exact E
                    have rb := r_M_bars R2 o ro2
                    have b1 := brs_le o (swp v i j)
                    have b2 := brs_le o v
                    have em : m - (l' - 1) = m - l' + 1 := by omega
                    have hne : ¬ nI (m - l') = nI m := fun z => by
                      rw [nI_eq (by omega) (by omega)] at z
                      omega
                    -- not better
                    have bad : btr s c v i j = false → ∀ h3 x10 x11, RM s (swp c i j) (swp v i j) h3 → smF h h3 → h3.1 65 74 = 1 → Wp 5 j_M_swaps 219 [.ref 65, .int (nI m), .int (nI d), .int (nI (m - (l' - 1))), .int (nI (brs s v (zT s))), .long (wsk s c (zK s)).1, .null, .int 0, .int (nI i), .int (nI j), x10, x11, .null] [] h3 (smP r s h) := by
                      intro hb h3 x10 x11 R3 F3 E3
                      rw [pj_nb _ heb hl0 hb] at hq'
                      obtain ⟨h4, r4, O4, R4⟩ := r_M_swap R3 o hi hj hij2
                      rw [swp_swp, swp_swp] at R4
                      have ih := ih2 (by omega) (l' - 1) h4 x10 x11 (by omega) hq' R4 (F3.trans (smF.sw O4)) (by rw [O4.1 65 74 (by decide)]; exact E3)
                      repeat (first | (refine W1 rfl ?_; try refine Wp.norm (L' := [_, _, _, _, _, _, _, _, _, _, _, _, _]) rfl ?_) | ((first | change (_ → _) ∧ (_ → _) | change vp_in _ _ ∧ _ | change ¬ _ ∧ _); simp (disch := omega) only [nI_clamp, nI_leI, nI_ltI, nI_eq, nI_1, nI_add, nI_not_neg, nI_is_pos, nI_m1, nI_z]) | refine brT (by first | assumption | decide | omega) ?_ | refine brF (by first | assumption | decide | omega) ?_ | refine brTn (by first | assumption | decide | omega) ?_ | refine brFn (by first | assumption | decide | omega) ?_ | refine And.intro (vp_in_nI (by omega) (by decide)) ?_ | refine And.intro (vp_lit (by decide)) ?_ | refine divJ (by decide) ?_ | refine divI (by decide) ?_)
                      try change _ ∧ _
                      refine Cl.of r4 (by decide) ?_
                      repeat (first | refine Wp.at ih rfl rfl ?_ rfl | (refine W1 rfl ?_; try refine Wp.norm (L' := [_, _, _, _, _, _, _, _, _, _, _, _, _]) rfl ?_) | ((first | change (_ → _) ∧ (_ → _) | change vp_in _ _ ∧ _ | change ¬ _ ∧ _); simp (disch := omega) only [nI_clamp, nI_leI, nI_ltI, nI_eq, nI_1, nI_add, nI_not_neg, nI_is_pos, nI_m1, nI_z]) | refine brT (by first | assumption | decide | omega) ?_ | refine brF (by first | assumption | decide | omega) ?_ | refine brTn (by first | assumption | decide | omega) ?_ | refine brFn (by first | assumption | decide | omega) ?_ | refine And.intro (vp_in_nI (by omega) (by decide)) ?_ | refine And.intro (vp_lit (by decide)) ?_ | refine divJ (by decide) ?_ | refine divI (by decide) ?_)
                      try change _ ∧ _
                      first | done | rfl | (simp (disch := omega) only [nI_1, nI_add, nI_clamp] <;> first | done | rfl)
                    -- better
                    have good : btr s c v i j = true → ∀ h3, RM s (swp c i j) (swp v i j) h3 → smF h h3 → h3.1 65 74 = 1 → Wp 5 j_M_swaps 205 [.ref 65, .int (nI m), .int (nI d), .int (nI (m - (l' - 1))), .int (nI (brs s v (zT s))), .long (wsk s c (zK s)).1, .null, .int 1, .int (nI i), .int (nI j), .int (nI (brs s (swp v i j) (zT s))), .long (wsk s (swp c i j) (zK s)).1, .null] [] h3 (smP r s h) := by
                      intro hb h3 R3 F3 E3
                      rw [pj_be _ heb hl0 hb, if_neg (show ¬ (2 : Nat) = 3 by decide)] at hq'
                      rw [← hq', if_pos rfl] at hr
                      have e : ∀ f, rSw (2, i, j, l' - 1) f = swp f i j := fun f => rfl
                      rw [e, e] at hr
                      have back := fun x8 x9 => ihf (swp c i j) (swp v i j) (l' - 1) (d + 1) h3 x8 x9 (.int (nI (brs s (swp v i j) (zT s)))) (.long (wsk s (swp c i j) (zK s)).1) (by omega) (by omega) (by omega) hr R3 ro2 F3 E3
                      by_cases hjT : j + 1 < zT s
                      · have ih := back (.int (nI (i + 1))) (.int (nI (j + 1)))
                        repeat (first | refine Wp.at ih rfl rfl ?_ rfl | (refine W1 rfl ?_; try refine Wp.norm (L' := [_, _, _, _, _, _, _, _, _, _, _, _, _]) rfl ?_) | ((first | change (_ → _) ∧ (_ → _) | change vp_in _ _ ∧ _ | change ¬ _ ∧ _); simp (disch := omega) only [nI_clamp, nI_leI, nI_ltI, nI_eq, nI_1, nI_add, nI_not_neg, nI_is_pos, nI_m1, nI_z, R3.T]) | refine brT (by first | assumption | decide | omega) ?_ | refine brF (by first | assumption | decide | omega) ?_ | refine brTn (by first | assumption | decide | omega) ?_ | refine brFn (by first | assumption | decide | omega) ?_ | refine And.intro (vp_in_nI (by omega) (by decide)) ?_ | refine And.intro (vp_lit (by decide)) ?_ | refine divJ (by decide) ?_ | refine divI (by decide) ?_)
                        try change _ ∧ _
                        first | done | rfl | (simp (disch := omega) only [nI_1, nI_add, nI_clamp] <;> first | done | rfl)
                      · have ih := back (.int (nI (i + 1))) (.int (nI (j + 1)))
                        repeat (first | refine Wp.at ih rfl rfl ?_ rfl | (refine W1 rfl ?_; try refine Wp.norm (L' := [_, _, _, _, _, _, _, _, _, _, _, _, _]) rfl ?_) | ((first | change (_ → _) ∧ (_ → _) | change vp_in _ _ ∧ _ | change ¬ _ ∧ _); simp (disch := omega) only [nI_clamp, nI_leI, nI_ltI, nI_eq, nI_1, nI_add, nI_not_neg, nI_is_pos, nI_m1, nI_z, R3.T]) | refine brT (by first | assumption | decide | omega) ?_ | refine brF (by first | assumption | decide | omega) ?_ | refine brTn (by first | assumption | decide | omega) ?_ | refine brFn (by first | assumption | decide | omega) ?_ | refine And.intro (vp_in_nI (by omega) (by decide)) ?_ | refine And.intro (vp_lit (by decide)) ?_ | refine divJ (by decide) ?_ | refine divI (by decide) ?_)
                        try change _ ∧ _
                        first | done | rfl | (simp (disch := omega) only [nI_1, nI_add, nI_clamp] <;> first | done | rfl)
                    repeat (first | (refine W1 rfl ?_; try refine Wp.norm (L' := [_, _, _, _, _, _, _, _, _, _, _, _, _]) rfl ?_) | ((first | change (_ → _) ∧ (_ → _) | change vp_in _ _ ∧ _ | change ¬ _ ∧ _); simp (disch := omega) only [nI_clamp, nI_leI, nI_ltI, nI_eq, nI_1, nI_add, nI_not_neg, nI_is_pos, nI_m1, nI_z, R'.T, R'.cts]) | refine brT (by first | assumption | decide | omega) ?_ | refine brF (by first | assumption | decide | omega) ?_ | refine brTn (by first | assumption | decide | omega) ?_ | refine brFn (by first | assumption | decide | omega) ?_ | refine And.intro (vp_in_nI (by omega) (by decide)) ?_ | refine And.intro (vp_lit (by decide)) ?_ | refine divJ (by decide) ?_ | refine divI (by decide) ?_)
                    try change _ ∧ _
                    refine Cl.of r2 (by decide) ?_
                    repeat (first | (refine W1 rfl ?_; try refine Wp.norm (L' := [_, _, _, _, _, _, _, _, _, _, _, _, _]) rfl ?_) | ((first | change (_ → _) ∧ (_ → _) | change vp_in _ _ ∧ _ | change ¬ _ ∧ _); simp (disch := omega) only [nI_clamp, nI_leI, nI_ltI, nI_eq, nI_1, nI_add, nI_not_neg, nI_is_pos, nI_m1, nI_z]) | refine brT (by first | assumption | decide | omega) ?_ | refine brF (by first | assumption | decide | omega) ?_ | refine brTn (by first | assumption | decide | omega) ?_ | refine brFn (by first | assumption | decide | omega) ?_ | refine And.intro (vp_in_nI (by omega) (by decide)) ?_ | refine And.intro (vp_lit (by decide)) ?_ | refine divJ (by decide) ?_ | refine divI (by decide) ?_)
                    try change _ ∧ _
                    refine Cl.of rb (by decide) ?_
                    repeat (first | (refine W1 rfl ?_; try refine Wp.norm (L' := [_, _, _, _, _, _, _, _, _, _, _, _, _]) rfl ?_) | ((first | change (_ → _) ∧ (_ → _) | change vp_in _ _ ∧ _ | change ¬ _ ∧ _); simp (disch := omega) only [nI_clamp, nI_leI, nI_ltI, nI_eq, nI_1, nI_add, nI_not_neg, nI_is_pos, nI_m1, nI_z]) | refine brT (by first | assumption | decide | omega) ?_ | refine brF (by first | assumption | decide | omega) ?_ | refine brTn (by first | assumption | decide | omega) ?_ | refine brFn (by first | assumption | decide | omega) ?_ | refine And.intro (vp_in_nI (by omega) (by decide)) ?_ | refine And.intro (vp_lit (by decide)) ?_ | refine divJ (by decide) ?_ | refine divI (by decide) ?_)
                    try change _ ∧ _
                    refine ⟨fun g1 => ?_, fun g1 => ?_⟩
                    · obtain ⟨h3, r3, G3⟩ := r_M_worst2 R2 o
                      have R3 := R2.same G3.same
                      have F3 := F2.trans G3.f
                      have E3 : h3.1 65 74 = 1 := by rw [G3.2 74 (by decide) (by decide)]; exact E2
                      repeat (first | (refine W1 rfl ?_; try refine Wp.norm (L' := [_, _, _, _, _, _, _, _, _, _, _, _, _]) rfl ?_) | ((first | change (_ → _) ∧ (_ → _) | change vp_in _ _ ∧ _ | change ¬ _ ∧ _); simp (disch := omega) only [nI_clamp, nI_leI, nI_ltI, nI_eq, nI_1, nI_add, nI_not_neg, nI_is_pos, nI_m1, nI_z]) | refine brT (by first | assumption | decide | omega) ?_ | refine brF (by first | assumption | decide | omega) ?_ | refine brTn (by first | assumption | decide | omega) ?_ | refine brFn (by first | assumption | decide | omega) ?_ | refine And.intro (vp_in_nI (by omega) (by decide)) ?_ | refine And.intro (vp_lit (by decide)) ?_ | refine divJ (by decide) ?_ | refine divI (by decide) ?_)
                      try change _ ∧ _
                      refine Cl.of r3 (by decide) ?_
                      by_cases g2 : brs s (swp v i j) (zT s) < brs s v (zT s)
                      · have ih := good (by unfold btr; simp only [decide_eq_true_eq]; exact Or.inl g2) h3 R3 F3 E3
                        repeat (first | refine Wp.at ih rfl rfl ?_ rfl | (refine W1 rfl ?_; try refine Wp.norm (L' := [_, _, _, _, _, _, _, _, _, _, _, _, _]) rfl ?_) | ((first | change (_ → _) ∧ (_ → _) | change vp_in _ _ ∧ _ | change ¬ _ ∧ _); simp (disch := omega) only [nI_clamp, nI_leI, nI_ltI, nI_eq, nI_1, nI_add, nI_not_neg, nI_is_pos, nI_m1, nI_z]) | refine brT (by first | assumption | decide | omega) ?_ | refine brF (by first | assumption | decide | omega) ?_ | refine brTn (by first | assumption | decide | omega) ?_ | refine brFn (by first | assumption | decide | omega) ?_ | refine And.intro (vp_in_nI (by omega) (by decide)) ?_ | refine And.intro (vp_lit (by decide)) ?_ | refine divJ (by decide) ?_ | refine divI (by decide) ?_)
                        try change _ ∧ _
                        rw [em]
                      · have g3 : brs s (swp v i j) (zT s) = brs s v (zT s) := by omega
                        by_cases g4 : (wsk s (swp c i j) (zK s)).1 < (wsk s c (zK s)).1
                        · have ih := good (by unfold btr; simp only [decide_eq_true_eq]; exact Or.inr ⟨g3, g4⟩) h3 R3 F3 E3
                          repeat (first | (refine W1 rfl ?_; try refine Wp.norm (L' := [_, _, _, _, _, _, _, _, _, _, _, _, _]) rfl ?_) | ((first | change (_ → _) ∧ (_ → _) | change vp_in _ _ ∧ _ | change ¬ _ ∧ _); simp (disch := omega) only [nI_clamp, nI_leI, nI_ltI, nI_eq, nI_1, nI_add, nI_not_neg, nI_is_pos, nI_m1, nI_z]) | refine brT (by first | assumption | decide | omega) ?_ | refine brF (by first | assumption | decide | omega) ?_ | refine brTn (by first | assumption | decide | omega) ?_ | refine brFn (by first | assumption | decide | omega) ?_ | refine And.intro (vp_in_nI (by omega) (by decide)) ?_ | refine And.intro (vp_lit (by decide)) ?_ | refine divJ (by decide) ?_ | refine divI (by decide) ?_)
                          try change _ ∧ _
                          rw [lgc_ge]
                          refine brF (fun z => absurd g4 (Int64.not_lt.mpr z)) ?_
                          repeat (first | refine Wp.at ih rfl rfl ?_ rfl | (refine W1 rfl ?_; try refine Wp.norm (L' := [_, _, _, _, _, _, _, _, _, _, _, _, _]) rfl ?_) | ((first | change (_ → _) ∧ (_ → _) | change vp_in _ _ ∧ _ | change ¬ _ ∧ _); simp (disch := omega) only [nI_clamp, nI_leI, nI_ltI, nI_eq, nI_1, nI_add, nI_not_neg, nI_is_pos, nI_m1, nI_z]) | refine brT (by first | assumption | decide | omega) ?_ | refine brF (by first | assumption | decide | omega) ?_ | refine brTn (by first | assumption | decide | omega) ?_ | refine brFn (by first | assumption | decide | omega) ?_ | refine And.intro (vp_in_nI (by omega) (by decide)) ?_ | refine And.intro (vp_lit (by decide)) ?_ | refine divJ (by decide) ?_ | refine divI (by decide) ?_)
                          try change _ ∧ _
                          rw [em]
                        · have ih := bad (by unfold btr; simp only [decide_eq_false_iff_not]; rintro (z | z); exact g2 z; exact g4 z.2) h3 (.int (nI (brs s (swp v i j) (zT s)))) (.long (wsk s (swp c i j) (zK s)).1) R3 F3 E3
                          repeat (first | (refine W1 rfl ?_; try refine Wp.norm (L' := [_, _, _, _, _, _, _, _, _, _, _, _, _]) rfl ?_) | ((first | change (_ → _) ∧ (_ → _) | change vp_in _ _ ∧ _ | change ¬ _ ∧ _); simp (disch := omega) only [nI_clamp, nI_leI, nI_ltI, nI_eq, nI_1, nI_add, nI_not_neg, nI_is_pos, nI_m1, nI_z]) | refine brT (by first | assumption | decide | omega) ?_ | refine brF (by first | assumption | decide | omega) ?_ | refine brTn (by first | assumption | decide | omega) ?_ | refine brFn (by first | assumption | decide | omega) ?_ | refine And.intro (vp_in_nI (by omega) (by decide)) ?_ | refine And.intro (vp_lit (by decide)) ?_ | refine divJ (by decide) ?_ | refine divI (by decide) ?_)
                          try change _ ∧ _
                          rw [lgc_ge]
                          refine brT (Int64.not_lt.mp g4) ?_
                          repeat (first | refine Wp.at ih rfl rfl ?_ rfl | (refine W1 rfl ?_; try refine Wp.norm (L' := [_, _, _, _, _, _, _, _, _, _, _, _, _]) rfl ?_) | ((first | change (_ → _) ∧ (_ → _) | change vp_in _ _ ∧ _ | change ¬ _ ∧ _); simp (disch := omega) only [nI_clamp, nI_leI, nI_ltI, nI_eq, nI_1, nI_add, nI_not_neg, nI_is_pos, nI_m1, nI_z]) | refine brT (by first | assumption | decide | omega) ?_ | refine brF (by first | assumption | decide | omega) ?_ | refine brTn (by first | assumption | decide | omega) ?_ | refine brFn (by first | assumption | decide | omega) ?_ | refine And.intro (vp_in_nI (by omega) (by decide)) ?_ | refine And.intro (vp_lit (by decide)) ?_ | refine divJ (by decide) ?_ | refine divI (by decide) ?_)
                          try change _ ∧ _
                          rw [em]
                    · have ih := bad (by unfold btr; simp only [decide_eq_false_iff_not]; rintro (z | z); omega; omega) h2 (.int (nI (brs s (swp v i j) (zT s)))) (.long 0) R2 F2 E2
                      repeat (first | refine Wp.at ih rfl rfl ?_ rfl | (refine W1 rfl ?_; try refine Wp.norm (L' := [_, _, _, _, _, _, _, _, _, _, _, _, _]) rfl ?_) | ((first | change (_ → _) ∧ (_ → _) | change vp_in _ _ ∧ _ | change ¬ _ ∧ _); simp (disch := omega) only [nI_clamp, nI_leI, nI_ltI, nI_eq, nI_1, nI_add, nI_not_neg, nI_is_pos, nI_m1, nI_z]) | refine brT (by first | assumption | decide | omega) ?_ | refine brF (by first | assumption | decide | omega) ?_ | refine brTn (by first | assumption | decide | omega) ?_ | refine brFn (by first | assumption | decide | omega) ?_ | refine And.intro (vp_in_nI (by omega) (by decide)) ?_ | refine And.intro (vp_lit (by decide)) ?_ | refine divJ (by decide) ?_ | refine divI (by decide) ?_)
                      try change _ ∧ _
                      rw [em]
        have ih := inner (i + 1) (by omega) (Nat.le_refl _) l' h' x10 x11 hl' hq' R' F E
        (refine W1 rfl ?_; try refine Wp.norm (L' := [_, _, _, _, _, _, _, _, _, _, _, _, _]) rfl ?_)
        repeat (first | refine Wp.at ih rfl rfl ?_ rfl | (refine W1 rfl ?_; try refine Wp.norm (L' := [_, _, _, _, _, _, _, _, _, _, _, _, _]) rfl ?_) | ((first | change (_ → _) ∧ (_ → _) | change vp_in _ _ ∧ _ | change ¬ _ ∧ _); simp (disch := omega) only [nI_clamp, nI_leI, nI_ltI, nI_eq, nI_1, nI_add, nI_not_neg, nI_is_pos, nI_m1, nI_z, R'.T]) | refine brT (by first | assumption | decide | omega) ?_ | refine brF (by first | assumption | decide | omega) ?_ | refine brTn (by first | assumption | decide | omega) ?_ | refine brFn (by first | assumption | decide | omega) ?_ | refine And.intro (vp_in_nI (by omega) (by decide)) ?_ | refine And.intro (vp_lit (by decide)) ?_ | refine divJ (by decide) ?_ | refine divI (by decide) ?_)
        try change _ ∧ _
        first | done | rfl | (simp (disch := omega) only [nI_1, nI_add, nI_clamp] <;> first | done | rfl)
    have ih := lp 0 (Nat.zero_le _) l h' x9 x10 x11 (Nat.le_refl _) hq R' F E
    (refine W1 rfl ?_; try refine Wp.norm (L' := [_, _, _, _, _, _, _, _, _, _, _, _, _]) rfl ?_)
    repeat (first | refine Wp.at ih rfl rfl ?_ rfl | (refine W1 rfl ?_; try refine Wp.norm (L' := [_, _, _, _, _, _, _, _, _, _, _, _, _]) rfl ?_) | ((first | change (_ → _) ∧ (_ → _) | change vp_in _ _ ∧ _ | change ¬ _ ∧ _); simp (disch := omega) only [nI_clamp, nI_leI, nI_ltI, nI_eq, nI_1, nI_add, nI_not_neg, nI_is_pos, nI_m1, nI_z]) | refine brT (by first | assumption | decide | omega) ?_ | refine brF (by first | assumption | decide | omega) ?_ | refine brTn (by first | assumption | decide | omega) ?_ | refine brFn (by first | assumption | decide | omega) ?_ | refine And.intro (vp_in_nI (by omega) (by decide)) ?_ | refine And.intro (vp_lit (by decide)) ?_ | refine divJ (by decide) ?_ | refine divI (by decide) ?_)
    try change _ ∧ _
    first | done | rfl | (simp (disch := omega) only [nI_1, nI_add, nI_clamp] <;> first | done | rfl)
theorem in1000 (x : Int32) : ((1 : Int64) ≤ x.toInt64 ∧ x.toInt64 ≤ 1000) ↔ (¬ x < 1 ∧ x ≤ 1000) := by
  rw [Int64.le_iff_toInt_le, Int64.le_iff_toInt_le, i64_i32, Int32.lt_iff_toInt_lt, Int32.le_iff_toInt_le, show (1 : Int64).toInt = 1 from rfl, show (1000 : Int64).toInt = 1000 from rfl, show (1 : Int32).toInt = 1 from rfl, show (1000 : Int32).toInt = 1000 from rfl]
  omega
theorem w_M_swaps (R : RM s c v h) (o : OK s) (ro : RO s c v) {m : Nat} (hm : m ≤ 1000) (hx : ¬ nI m < 1 ∧ nI m ≤ 1000) : ∃ w h', Run 5 j_M_swaps [.ref 65, .int (nI m)] h w h' ∧ smP (imF s (m + 1) c v m 0) s h w h' := by
  refine Run.ofP rfl ?_
  refine Wp.norm (L' := [_, _, _, _, _, _, _, _, _, _, _, _, _]) rfl ?_
  obtain ⟨h1, r1, G1⟩ := r_M_worst2 R o
  have R1 := R.same G1.same
  have ih := w_M_swapsB (h := h) o hm (imF s (m + 1) c v m 0) (m + 1) c v m 0 (wI h1 65 74 1) .null .null .null .null (by omega) (Nat.le_refl _) (by omega) rfl (R1.sr (SameK.ofI h1 _ rfl) (fun _ _ _ => rfl)) ro (G1.f.ends) (wI_same _ _ _ _)
  rw [Nat.sub_self] at ih
  repeat (first | (refine W1 rfl ?_; try refine Wp.norm (L' := [_, _, _, _, _, _, _, _, _, _, _, _, _]) rfl ?_) | ((first | change (_ → _) ∧ (_ → _) | change vp_in _ _ ∧ _ | change ¬ _ ∧ _); simp (disch := omega) only [nI_clamp, nI_leI, nI_ltI, nI_eq, nI_1, nI_add, nI_not_neg, nI_is_pos, nI_m1, nI_z]) | refine brT (by first | assumption | decide | omega) ?_ | refine brF (by first | assumption | decide | omega) ?_ | refine brTn (by first | assumption | decide | omega) ?_ | refine brFn (by first | assumption | decide | omega) ?_ | refine And.intro (vp_in_nI (by omega) (by decide)) ?_ | refine And.intro (vp_lit (by decide)) ?_ | refine divJ (by decide) ?_ | refine divI (by decide) ?_)
  try change _ ∧ _
  refine Cl.of (r_M_isIn h (nI m).toInt64 1 1000) (by decide) ?_
  rw [if_pos ((in1000 _).mpr hx)]
  iterate 1 (refine W1 rfl ?_; try refine Wp.norm (L' := [_, _, _, _, _, _, _, _, _, _, _, _, _]) rfl ?_)
  refine brTn (by decide) ?_
  refine Wp.normS (pc' := 14) (S' := []) rfl rfl rfl ?_
  repeat (first | (refine W1 rfl ?_; try refine Wp.norm (L' := [_, _, _, _, _, _, _, _, _, _, _, _, _]) rfl ?_) | ((first | change (_ → _) ∧ (_ → _) | change vp_in _ _ ∧ _ | change ¬ _ ∧ _); simp (disch := omega) only [nI_clamp, nI_leI, nI_ltI, nI_eq, nI_1, nI_add, nI_not_neg, nI_is_pos, nI_m1, nI_z]) | refine brT (by first | assumption | decide | omega) ?_ | refine brF (by first | assumption | decide | omega) ?_ | refine brTn (by first | assumption | decide | omega) ?_ | refine brFn (by first | assumption | decide | omega) ?_ | refine And.intro (vp_in_nI (by omega) (by decide)) ?_ | refine And.intro (vp_lit (by decide)) ?_ | refine divJ (by decide) ?_ | refine divI (by decide) ?_)
  try change _ ∧ _
  refine Cl.of (r_M_bars R o ro) (by decide) ?_
  repeat (first | (refine W1 rfl ?_; try refine Wp.norm (L' := [_, _, _, _, _, _, _, _, _, _, _, _, _]) rfl ?_) | ((first | change (_ → _) ∧ (_ → _) | change vp_in _ _ ∧ _ | change ¬ _ ∧ _); simp (disch := omega) only [nI_clamp, nI_leI, nI_ltI, nI_eq, nI_1, nI_add, nI_not_neg, nI_is_pos, nI_m1, nI_z]) | refine brT (by first | assumption | decide | omega) ?_ | refine brF (by first | assumption | decide | omega) ?_ | refine brTn (by first | assumption | decide | omega) ?_ | refine brFn (by first | assumption | decide | omega) ?_ | refine And.intro (vp_in_nI (by omega) (by decide)) ?_ | refine And.intro (vp_lit (by decide)) ?_ | refine divJ (by decide) ?_ | refine divI (by decide) ?_)
  try change _ ∧ _
  refine Cl.of r1 (by decide) ?_
  repeat (first | refine Wp.at ih rfl rfl ?_ rfl | (refine W1 rfl ?_; try refine Wp.norm (L' := [_, _, _, _, _, _, _, _, _, _, _, _, _]) rfl ?_) | ((first | change (_ → _) ∧ (_ → _) | change vp_in _ _ ∧ _ | change ¬ _ ∧ _); simp (disch := omega) only [nI_clamp, nI_leI, nI_ltI, nI_eq, nI_1, nI_add, nI_not_neg, nI_is_pos, nI_m1, nI_z]) | refine brT (by first | assumption | decide | omega) ?_ | refine brF (by first | assumption | decide | omega) ?_ | refine brTn (by first | assumption | decide | omega) ?_ | refine brFn (by first | assumption | decide | omega) ?_ | refine And.intro (vp_in_nI (by omega) (by decide)) ?_ | refine And.intro (vp_lit (by decide)) ?_ | refine divJ (by decide) ?_ | refine divI (by decide) ?_)
  try change _ ∧ _
  first | done | rfl | (simp (disch := omega) only [nI_1, nI_add, nI_clamp] <;> first | done | rfl)
end SW6
theorem o_swaps : op_24 Inv := fun x h I => by
  obtain ⟨t, m, s, c, v, R, M, o, ro⟩ := id I
  by_cases hx : ¬ x < 1 ∧ x ≤ 1000
  · obtain ⟨n, hn, rfl⟩ : ∃ n, n ≤ 1000 ∧ x = nI n := by
      obtain ⟨j, hj, e⟩ := nI_of (x := x) (by
        have h1 := hx.1
        rw [Int32.lt_iff_toInt_lt] at *
        rw [show (1 : Int32).toInt = 1 from rfl] at h1
        rw [Int32.toInt_zero]
        omega)
      refine ⟨j, ?_, e⟩
      have h2 := hx.2
      rw [e, show (1000 : Int32) = nI 1000 from rfl, nI_leI hj (by decide)] at h2
      omega
    obtain ⟨w, h1, r1, rfl, E1, R1, ro1, F1⟩ := w_improve R o ro hn
    have M1 : RM s c v h1 := M.sr (F1.K (by intro k i hk z; simp at z; rcases z with z | z | z | z <;> (subst z; cases hk))) (fun k i hk => F1.2 k i (by intro z; simp at z; rcases z with z | z <;> (subst z; cases hk)))
    obtain ⟨w2, h2, r2, rfl, E2, M2, F2⟩ := w_M_swaps M1 o ro hn hx
    have E' : Run 7 j_E_swaps [.ref 0, .int (nI n)] h (some (.int (nI (imF s (n + 1) c v n 0).2.2.1))) h1 := by
      refine Run.of rfl ?_
      refine Wp.norm (L' := [_, _]) rfl ?_
      iterate 3 (refine W1 rfl ?_; try refine Wp.norm (L' := [_, _]) rfl ?_)
      refine brF hx.1 ?_
      iterate 3 (refine W1 rfl ?_; try refine Wp.norm (L' := [_, _]) rfl ?_)
      refine brT hx.2 ?_
      repeat (first | (refine W1 rfl ?_; try refine Wp.norm (L' := [_, _]) rfl ?_) | ((first | change (_ → _) ∧ (_ → _) | change vp_in _ _ ∧ _ | change ¬ _ ∧ _); simp (disch := omega) only [nI_clamp, nI_leI, nI_ltI, nI_eq, nI_1, nI_add, nI_not_neg, nI_is_pos, nI_m1, nI_z]) | refine brT (by first | assumption | decide | omega) ?_ | refine brF (by first | assumption | decide | omega) ?_ | refine brTn (by first | assumption | decide | omega) ?_ | refine brFn (by first | assumption | decide | omega) ?_ | refine And.intro (vp_in_nI (by omega) (by decide)) ?_ | refine And.intro (vp_lit (by decide)) ?_ | refine divJ (by decide) ?_ | refine divI (by decide) ?_)
      try change _ ∧ _
      refine Cl.of r1 (by decide) ?_
      repeat (first | (refine W1 rfl ?_; try refine Wp.norm (L' := [_, _]) rfl ?_) | ((first | change (_ → _) ∧ (_ → _) | change vp_in _ _ ∧ _ | change ¬ _ ∧ _); simp (disch := omega) only [nI_clamp, nI_leI, nI_ltI, nI_eq, nI_1, nI_add, nI_not_neg, nI_is_pos, nI_m1, nI_z]) | refine brT (by first | assumption | decide | omega) ?_ | refine brF (by first | assumption | decide | omega) ?_ | refine brTn (by first | assumption | decide | omega) ?_ | refine brFn (by first | assumption | decide | omega) ?_ | refine And.intro (vp_in_nI (by omega) (by decide)) ?_ | refine And.intro (vp_lit (by decide)) ?_ | refine divJ (by decide) ?_ | refine divI (by decide) ?_)
      try change _ ∧ _
      try first | exact ⟨rfl, rfl⟩ | exact ⟨Or.inr rfl, rfl, rfl⟩ | exact ⟨Or.inl rfl, rfl, rfl⟩ | exact ⟨trivial, trivial⟩ | exact ⟨rfl, trivial⟩ | exact ⟨Or.inr rfl, rfl, trivial⟩ | exact ⟨Or.inl rfl, rfl, trivial⟩
    refine ⟨_, h1, h2, E'.d, r2.d, ?_, ?_, s, _, _, R1.sr (F2.1.K (by intro k i hk z; simp at z; rcases z with z | z | z <;> (subst z; cases hk))), M2, o, ro1⟩
    · refine (t.sr (F1.K (by intro k i hk z; simp at z; rcases z with z | z | z | z <;> (subst z; cases hk)))).sr (fun k i hk => ?_)
      by_cases e : k = 65
      · subst e
        exact F2.2 i (by rintro rfl; cases hk) (by rintro rfl; cases hk) (by rintro rfl; cases hk)
      · exact F2.1.1 k i (by intro z; simp at z; rcases z with z | z | z; exact e z; subst z; cases hk; subst z; cases hk)
    · obtain ⟨a1, a2, a3, a4, a5, l, l1, l2, l3, l4⟩ := m
      have g : ∀ k i, ¬ k ∈ [46, 47, 54, 55, 65, 110, 111] → h2.1 k i = h.1 k i := fun k i hk => by
        rw [F2.1.1 k i (by intro z; simp at z; rcases z with z | z | z <;> (subst z; exact hk (by decide))), F1.1 k i (by intro z; simp at z; rcases z with z | z | z | z <;> (subst z; exact hk (by decide)))]
      have g65 : ∀ i, i ≠ 62 → i ≠ 63 → i ≠ 74 → h2.1 65 i = h.1 65 i := fun i x1 x2 x3 => by rw [F2.2 i x1 x2 x3, F1.1 65 i (by decide)]
      refine ⟨?_, ?_, ?_, ?_, ?_, l, l1, ?_, ?_, fun i hi => ?_⟩
      · rw [E2, F2.1.1 54 8 (by decide)]; exact E1
      · rw [g 17 6 (by decide), g65 7 (by decide) (by decide) (by decide)]; exact a2
      · rw [g 17 7 (by decide), g65 8 (by decide) (by decide) (by decide)]; exact a3
      · rw [g65 68 (by decide) (by decide) (by decide), g 50 6 (by decide), g 50 7 (by decide)]; exact a4
      · rw [g65 68 (by decide) (by decide) (by decide), g 50 6 (by decide), g 50 7 (by decide), g65 69 (by decide) (by decide) (by decide)]; exact a5
      · rw [g 0 11 (by decide)]; exact l2
      · rw [g65 80 (by decide) (by decide) (by decide)]; exact l3
      · rw [g 64 i (by decide), g 120 i (by decide)]; exact l4 i hi
  · refine ⟨-1, h, h, Run.d (d := 1) ?_, Run.d (d := 1) ?_, I⟩
    · show Run 1 j_E_swaps _ _ _ _
      refine Run.of rfl ?_
      refine Wp.norm (L' := [_, _]) rfl ?_
      iterate 3 (refine W1 rfl ?_; try refine Wp.norm (L' := [_, _]) rfl ?_)
      refine ⟨fun q => ?_, fun q => ?_⟩
      · repeat (first | (refine W1 rfl ?_; try refine Wp.norm (L' := [_, _]) rfl ?_) | ((first | change (_ → _) ∧ (_ → _) | change vp_in _ _ ∧ _ | change ¬ _ ∧ _); simp (disch := omega) only [nI_clamp, nI_leI, nI_ltI, nI_eq, nI_1, nI_add, nI_not_neg, nI_is_pos, nI_m1, nI_z]) | refine brT (by first | assumption | decide | omega) ?_ | refine brF (by first | assumption | decide | omega) ?_ | refine brTn (by first | assumption | decide | omega) ?_ | refine brFn (by first | assumption | decide | omega) ?_ | refine And.intro (vp_in_nI (by omega) (by decide)) ?_ | refine And.intro (vp_lit (by decide)) ?_ | refine divJ (by decide) ?_ | refine divI (by decide) ?_)
        try change _ ∧ _
        try first | exact ⟨rfl, rfl⟩ | exact ⟨Or.inr rfl, rfl, rfl⟩ | exact ⟨Or.inl rfl, rfl, rfl⟩ | exact ⟨trivial, trivial⟩ | exact ⟨rfl, trivial⟩ | exact ⟨Or.inr rfl, rfl, trivial⟩ | exact ⟨Or.inl rfl, rfl, trivial⟩
      · iterate 3 (refine W1 rfl ?_; try refine Wp.norm (L' := [_, _]) rfl ?_)
        refine brF (fun z => hx ⟨q, z⟩) ?_
        repeat (first | (refine W1 rfl ?_; try refine Wp.norm (L' := [_, _]) rfl ?_) | ((first | change (_ → _) ∧ (_ → _) | change vp_in _ _ ∧ _ | change ¬ _ ∧ _); simp (disch := omega) only [nI_clamp, nI_leI, nI_ltI, nI_eq, nI_1, nI_add, nI_not_neg, nI_is_pos, nI_m1, nI_z]) | refine brT (by first | assumption | decide | omega) ?_ | refine brF (by first | assumption | decide | omega) ?_ | refine brTn (by first | assumption | decide | omega) ?_ | refine brFn (by first | assumption | decide | omega) ?_ | refine And.intro (vp_in_nI (by omega) (by decide)) ?_ | refine And.intro (vp_lit (by decide)) ?_ | refine divJ (by decide) ?_ | refine divI (by decide) ?_)
        try change _ ∧ _
        try first | exact ⟨rfl, rfl⟩ | exact ⟨Or.inr rfl, rfl, rfl⟩ | exact ⟨Or.inl rfl, rfl, rfl⟩ | exact ⟨trivial, trivial⟩ | exact ⟨rfl, trivial⟩ | exact ⟨Or.inr rfl, rfl, trivial⟩ | exact ⟨Or.inl rfl, rfl, trivial⟩
    · show Run 1 j_M_swaps _ _ _ _
      refine Run.of rfl ?_
      refine Wp.norm (L' := [_, _, _, _, _, _, _, _, _, _, _, _, _]) rfl ?_
      repeat (first | (refine W1 rfl ?_; try refine Wp.norm (L' := [_, _, _, _, _, _, _, _, _, _, _, _, _]) rfl ?_) | ((first | change (_ → _) ∧ (_ → _) | change vp_in _ _ ∧ _ | change ¬ _ ∧ _); simp (disch := omega) only [nI_clamp, nI_leI, nI_ltI, nI_eq, nI_1, nI_add, nI_not_neg, nI_is_pos, nI_m1, nI_z]) | refine brT (by first | assumption | decide | omega) ?_ | refine brF (by first | assumption | decide | omega) ?_ | refine brTn (by first | assumption | decide | omega) ?_ | refine brFn (by first | assumption | decide | omega) ?_ | refine And.intro (vp_in_nI (by omega) (by decide)) ?_ | refine And.intro (vp_lit (by decide)) ?_ | refine divJ (by decide) ?_ | refine divI (by decide) ?_)
      try change _ ∧ _
      refine Cl.of (r_M_isIn h x.toInt64 1 1000) (by decide) ?_
      rw [if_neg (fun z => hx ((in1000 _).mp z))]
      iterate 1 (refine W1 rfl ?_; try refine Wp.norm (L' := [_, _, _, _, _, _, _, _, _, _, _, _, _]) rfl ?_)
      refine brFn (by decide) ?_
      refine Wp.normS (pc' := 12) (S' := []) rfl rfl rfl ?_
      repeat (first | (refine W1 rfl ?_; try refine Wp.norm (L' := [_, _, _, _, _, _, _, _, _, _, _, _, _]) rfl ?_) | ((first | change (_ → _) ∧ (_ → _) | change vp_in _ _ ∧ _ | change ¬ _ ∧ _); simp (disch := omega) only [nI_clamp, nI_leI, nI_ltI, nI_eq, nI_1, nI_add, nI_not_neg, nI_is_pos, nI_m1, nI_z]) | refine brT (by first | assumption | decide | omega) ?_ | refine brF (by first | assumption | decide | omega) ?_ | refine brTn (by first | assumption | decide | omega) ?_ | refine brFn (by first | assumption | decide | omega) ?_ | refine And.intro (vp_in_nI (by omega) (by decide)) ?_ | refine And.intro (vp_lit (by decide)) ?_ | refine divJ (by decide) ?_ | refine divI (by decide) ?_)
      try change _ ∧ _
      try first | exact ⟨rfl, rfl⟩ | exact ⟨Or.inr rfl, rfl, rfl⟩ | exact ⟨Or.inl rfl, rfl, rfl⟩ | exact ⟨trivial, trivial⟩ | exact ⟨rfl, trivial⟩ | exact ⟨Or.inr rfl, rfl, trivial⟩ | exact ⟨Or.inl rfl, rfl, trivial⟩
