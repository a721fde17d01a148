/-! ===== ILL: replace ===== -/
def setA (tt : Nat → Nat) (f : RT) (vl : Nat → Int32) : Nat → RT
  | 0 => f
  | n + 1 => upd (setA tt f vl n) (tt n) (vl n)
section ILL7
variable {s : ST} {c v : RT} {h : HP} {x a b : Nat} {tt : Nat → Nat} {m : Nat} {bd : Int64}
theorem setA_o (f : RT) (vl : Nat → Int32) : ∀ n t, (∀ d, d < n → t ≠ tt d) → setA tt f vl n t = f t
  | 0, _, _ => rfl
  | n + 1, t, h => by
    show upd _ _ _ t = _
    rw [pk_un (h n (by omega)), setA_o f vl n t (fun d hd => h d (by omega))]
theorem setA_at (hm : ∀ d e, d < e → e < m → tt d < tt e) (f : RT) (vl : Nat → Int32) : ∀ n d, d < n → n ≤ m → setA tt f vl n (tt d) = vl d
  | 0, d, h, _ => absurd h (by omega)
  | n + 1, d, h, hn => by
    show upd _ _ _ _ = _
    by_cases e : d = n
    · subst e; exact pk_us
    · have := hm d n (by omega) (by omega)
      rw [pk_un (by omega), setA_at hm f vl n d (by omega) (by omega)]
theorem w_openTurns (R : RC s c v h) (o : OK s) (h6 : m ≤ 6) (hN : h.1 57 10 = nI m) (hT : ∀ n, n < m → h.1 58 n = nI (tt n) ∧ tt n < zT s) : ∃ h', Run 1 j_Illness_openTurns [.ref 57] h none h' ∧ onlyJ [46, 47] [] h h' ∧ RC s (opA tt c m) (opA tt v m) h' := by
  have hT200 := o.T
  obtain ⟨w, h', r, e, O, R'⟩ := Run.ofP (d := 1) (j := j_Illness_openTurns) (as := [.ref 57]) (h := h) (P := fun w h' => w = none ∧ onlyJ [46, 47] [] h h' ∧ RC s (opA tt c m) (opA tt v m) h') rfl (by
    refine Wp.norm (L' := [_, _]) rfl ?_
    have lp : ∀ n, n ≤ m → ∀ h', onlyJ [46, 47] [] h h' → RC s (opA tt c n) (opA tt v n) h' → Wp 1 j_Illness_openTurns 2 [.ref 57, .int (nI n)] [] h' (fun w h' => w = none ∧ onlyJ [46, 47] [] h h' ∧ RC s (opA tt c m) (opA tt v m) h') := by
      refine up_ind ?_ (fun n hn ih => ?_)
      · intro h' O R'
        have N' : h'.1 57 10 = nI m := by rw [O.1 57 10 (by decide)]; exact hN
        repeat (first | (refine W1 rfl ?_; try refine Wp.norm (L' := [_, _]) rfl ?_) | ((first | change (_ → _) ∧ (_ → _) | change vp_in _ _ ∧ _ | change ¬ _ ∧ _); simp (disch := omega) only [nI_clamp, nI_leI, nI_ltI, nI_eq, nI_1, nI_add, nI_not_neg, nI_is_pos, nI_m1, nI_z, N']) | refine brT (by first | assumption | decide | omega) ?_ | refine brF (by first | assumption | decide | omega) ?_ | refine brTn (by first | assumption | decide | omega) ?_ | refine brFn (by first | assumption | decide | omega) ?_ | refine And.intro (vp_in_nI (by omega) (by decide)) ?_ | refine And.intro (vp_lit (by decide)) ?_ | refine divJ (by decide) ?_ | refine divI (by decide) ?_)
        try change _ ∧ _
        exact ⟨rfl, O, R'⟩
      · intro h' O R'
        have N' : h'.1 57 10 = nI m := by rw [O.1 57 10 (by decide)]; exact hN
        have t' : h'.1 58 n = nI (tt n) := by rw [O.1 58 n (by decide)]; exact (hT n hn).1
        have htn := (hT n hn).2
        have ih := ih (layC h' (tt n) (-1)) ((O.addI (by decide)).addI (by decide)) (R'.lay (tt n) (-1))
        repeat (first | (refine W1 rfl ?_; try refine Wp.norm (L' := [_, _]) rfl ?_) | ((first | change (_ → _) ∧ (_ → _) | change vp_in _ _ ∧ _ | change ¬ _ ∧ _); simp (disch := omega) only [nI_clamp, nI_leI, nI_ltI, nI_eq, nI_1, nI_add, nI_not_neg, nI_is_pos, nI_m1, nI_z, N']) | refine brT (by first | assumption | decide | omega) ?_ | refine brF (by first | assumption | decide | omega) ?_ | refine brTn (by first | assumption | decide | omega) ?_ | refine brFn (by first | assumption | decide | omega) ?_ | refine And.intro (vp_in_nI (by omega) (by decide)) ?_ | refine And.intro (vp_lit (by decide)) ?_ | refine divJ (by decide) ?_ | refine divI (by decide) ?_)
        try change _ ∧ _
        refine Cl.ofA (r_Rota_lay (t := tt n) (-1) (by omega)) (by first | done | rfl | (simp (disch := omega) only [nI_1, nI_add, nI_clamp, t'] <;> first | done | rfl)) (by decide) ?_
        repeat (first | refine Wp.at ih rfl rfl ?_ rfl | (refine W1 rfl ?_; try refine Wp.norm (L' := [_, _]) rfl ?_) | ((first | change (_ → _) ∧ (_ → _) | change vp_in _ _ ∧ _ | change ¬ _ ∧ _); simp (disch := omega) only [nI_clamp, nI_leI, nI_ltI, nI_eq, nI_1, nI_add, nI_not_neg, nI_is_pos, nI_m1, nI_z]) | refine brT (by first | assumption | decide | omega) ?_ | refine brF (by first | assumption | decide | omega) ?_ | refine brTn (by first | assumption | decide | omega) ?_ | refine brFn (by first | assumption | decide | omega) ?_ | refine And.intro (vp_in_nI (by omega) (by decide)) ?_ | refine And.intro (vp_lit (by decide)) ?_ | refine divJ (by decide) ?_ | refine divI (by decide) ?_)
        try change _ ∧ _
        first | done | rfl | (simp (disch := omega) only [nI_1, nI_add, nI_clamp] <;> first | done | rfl)
    have ih := lp 0 (Nat.zero_le _) h (onlyJ.rfl _ _ h) R
    repeat (first | refine Wp.at ih rfl rfl ?_ rfl | (refine W1 rfl ?_; try refine Wp.norm (L' := [_, _]) rfl ?_) | ((first | change (_ → _) ∧ (_ → _) | change vp_in _ _ ∧ _ | change ¬ _ ∧ _); simp (disch := omega) only [nI_clamp, nI_leI, nI_ltI, nI_eq, nI_1, nI_add, nI_not_neg, nI_is_pos, nI_m1, nI_z]) | refine brT (by first | assumption | decide | omega) ?_ | refine brF (by first | assumption | decide | omega) ?_ | refine brTn (by first | assumption | decide | omega) ?_ | refine brFn (by first | assumption | decide | omega) ?_ | refine And.intro (vp_in_nI (by omega) (by decide)) ?_ | refine And.intro (vp_lit (by decide)) ?_ | refine divJ (by decide) ?_ | refine divI (by decide) ?_)
    try change _ ∧ _
    first | done | rfl | (simp (disch := omega) only [nI_1, nI_add, nI_clamp] <;> first | done | rfl))
  subst e
  exact ⟨h', r, O, R'⟩
/-- the search's answer -/
def ilR (s : ST) (c v : RT) (x a b : Nat) (bd : Int64) : RS := srD s (opA (tI s v x a b) c (mI s v x a b)) (opA (tI s v x a b) v (mI s v x a b)) (tI s v x a b) (mI s v x a b) x bd (mI s v x a b) 0 (fun _ => 0) 0
def ilY (m : Nat) (res : RS) : Int32 := if res.1 = none then (if 2000 ≤ res.2 then -3 else -2) else nI m
def ilC (tt : Nat → Nat) (m : Nat) (res : RS) (f : RT) : RT := match res.1 with
  | none => f
  | some cc => asg tt (opA tt f m) cc m
theorem w_replace (R : RC s c v h) (o : OK s) (ro : RO s c v) (hx : x < zP s) (hab : a ≤ b) (hb : b < 200) (hbd : ¬ bd < 0) : ∃ w h', Run 13 j_Illness_replace [.ref 57, .int (nI x), .int (nI a), .int (nI b), .long bd] h w h' ∧ (onlyJ [46, 47, 57, 58, 59, 60, 61] [57, 62, 63] h h' ∧ w = some (.int (if 6 < mI s v x a b then -1 else if mI s v x a b = 0 then 0 else ilY (mI s v x a b) (ilR s c v x a b bd))) ∧ RC s (if 6 < mI s v x a b ∨ mI s v x a b = 0 then c else ilC (tI s v x a b) (mI s v x a b) (ilR s c v x a b bd) c) (if 6 < mI s v x a b ∨ mI s v x a b = 0 then v else ilC (tI s v x a b) (mI s v x a b) (ilR s c v x a b bd) v) h' ∧ RO s (if 6 < mI s v x a b ∨ mI s v x a b = 0 then c else ilC (tI s v x a b) (mI s v x a b) (ilR s c v x a b bd) c) (if 6 < mI s v x a b ∨ mI s v x a b = 0 then v else ilC (tI s v x a b) (mI s v x a b) (ilR s c v x a b bd) v)) := by
  have hT := o.T; have hP := o.P; have hK := o.K; have hD := o.D; have hO := o.O; have hQ := o.Q; have hL := o.L
  refine Run.ofP rfl ?_
  refine Wp.norm (L' := [_, _, _, _, _, _, _, _]) rfl ?_
  obtain ⟨wf, h1, r1, O1, X1, hor⟩ := w_findTurns R o hx hab hb
  have R1 : RC s c v h1 := R.sr (O1.K (P := kRC) (by intro k i hk z; simp at z; rcases z with z | z | z <;> (subst z; cases hk)))
  have OO1 : onlyJ [46, 47, 57, 58, 59, 60, 61] [57, 62, 63] h h1 := O1.mono (by intro k hk; simp at hk; rcases hk with hk | hk | hk <;> (subst hk; decide)) (by simp)
  rcases hor with ⟨rfl, h7⟩ | ⟨rfl, h6, N1, A1⟩
  · rw [if_pos h7, if_pos (Or.inl h7), if_pos (Or.inl h7)]
    repeat (first | (refine W1 rfl ?_; try refine Wp.norm (L' := [_, _, _, _, _, _, _, _]) rfl ?_) | ((first | change (_ → _) ∧ (_ → _) | change vp_in _ _ ∧ _ | change ¬ _ ∧ _); simp (disch := omega) only [nI_clamp, nI_leI, nI_ltI, nI_eq, nI_1, nI_add, nI_not_neg, nI_is_pos, nI_m1, nI_z]) | refine brT (by first | assumption | decide | omega) ?_ | refine brF (by first | assumption | decide | omega) ?_ | refine brTn (by first | assumption | decide | omega) ?_ | refine brFn (by first | assumption | decide | omega) ?_ | refine And.intro (vp_in_nI (by omega) (by decide)) ?_ | refine And.intro (vp_lit (by decide)) ?_ | refine divJ (by decide) ?_ | refine divI (by decide) ?_)
    try change _ ∧ _
    refine Cl.of r1 (by decide) ?_
    repeat (first | (refine W1 rfl ?_; try refine Wp.norm (L' := [_, _, _, _, _, _, _, _]) rfl ?_) | ((first | change (_ → _) ∧ (_ → _) | change vp_in _ _ ∧ _ | change ¬ _ ∧ _); simp (disch := omega) only [nI_clamp, nI_leI, nI_ltI, nI_eq, nI_1, nI_add, nI_not_neg, nI_is_pos, nI_m1, nI_z]) | refine brT (by first | assumption | decide | omega) ?_ | refine brF (by first | assumption | decide | omega) ?_ | refine brTn (by first | assumption | decide | omega) ?_ | refine brFn (by first | assumption | decide | omega) ?_ | refine And.intro (vp_in_nI (by omega) (by decide)) ?_ | refine And.intro (vp_lit (by decide)) ?_ | refine divJ (by decide) ?_ | refine divI (by decide) ?_)
    try change _ ∧ _
    exact ⟨OO1, rfl, R1, ro⟩
  · rw [if_neg (show ¬ 6 < mI s v x a b by omega)]
    by_cases hm0 : mI s v x a b = 0
    · rw [if_pos hm0, if_pos (Or.inr hm0), if_pos (Or.inr hm0)]
      rw [hm0] at N1
      repeat (first | (refine W1 rfl ?_; try refine Wp.norm (L' := [_, _, _, _, _, _, _, _]) rfl ?_) | ((first | change (_ → _) ∧ (_ → _) | change vp_in _ _ ∧ _ | change ¬ _ ∧ _); simp (disch := omega) only [nI_clamp, nI_leI, nI_ltI, nI_eq, nI_1, nI_add, nI_not_neg, nI_is_pos, nI_m1, nI_z]) | refine brT (by first | assumption | decide | omega) ?_ | refine brF (by first | assumption | decide | omega) ?_ | refine brTn (by first | assumption | decide | omega) ?_ | refine brFn (by first | assumption | decide | omega) ?_ | refine And.intro (vp_in_nI (by omega) (by decide)) ?_ | refine And.intro (vp_lit (by decide)) ?_ | refine divJ (by decide) ?_ | refine divI (by decide) ?_)
      try change _ ∧ _
      refine Cl.of r1 (by decide) ?_
      repeat (first | (refine W1 rfl ?_; try refine Wp.norm (L' := [_, _, _, _, _, _, _, _]) rfl ?_) | ((first | change (_ → _) ∧ (_ → _) | change vp_in _ _ ∧ _ | change ¬ _ ∧ _); simp (disch := omega) only [nI_clamp, nI_leI, nI_ltI, nI_eq, nI_1, nI_add, nI_not_neg, nI_is_pos, nI_m1, nI_z, N1]) | refine brT (by first | assumption | decide | omega) ?_ | refine brF (by first | assumption | decide | omega) ?_ | refine brTn (by first | assumption | decide | omega) ?_ | refine brFn (by first | assumption | decide | omega) ?_ | refine And.intro (vp_in_nI (by omega) (by decide)) ?_ | refine And.intro (vp_lit (by decide)) ?_ | refine divJ (by decide) ?_ | refine divI (by decide) ?_)
      try change _ ∧ _
      exact ⟨OO1, rfl, R1, ro⟩
    · rw [if_neg hm0, if_neg (show ¬ (6 < mI s v x a b ∨ mI s v x a b = 0) by omega), if_neg (show ¬ (6 < mI s v x a b ∨ mI s v x a b = 0) by omega)]
      have T := tI_ok (s := s) (v := v) (x := x) (a := a) (b := b) h6
      have hIB : ∀ d, d < mI s v x a b → v (tI s v x a b d) = nI x := fun d hd => by
        have := (tI_p (s := s) (v := v) (x := x) (a := a) (b := b) hd).2.1
        unfold IB at this
        simp only [Bool.and_eq_true, decide_eq_true_eq] at this
        exact this.2
      have hilR : ilR s c v x a b bd = srD s (opA (tI s v x a b) c (mI s v x a b)) (opA (tI s v x a b) v (mI s v x a b)) (tI s v x a b) (mI s v x a b) x bd (mI s v x a b) 0 (fun _ => 0) 0 := rfl
      have ro1 := RO.opA ro (tI s v x a b) (mI s v x a b)
      generalize htt : tI s v x a b = tt at *
      generalize hmm : mI s v x a b = m at *
      have htt' : ∀ d, tI s v x a b d = tt d := fun d => by rw [← htt]
      -- filling, opening
      obtain ⟨h2, r2, O2, A2⟩ := r_fillJ_62 (wI (wJ h1 57 12 bd) 57 11 0) 0
      obtain ⟨h3, r3, O3, A3⟩ := r_fillJ_63 h2 0
      have g3 : ∀ k i, ¬ (k = 57 ∧ i = 11) → h3.1 k i = h1.1 k i := fun k i hk => by
        rw [O3.1 k i (by simp), O2.1 k i (by simp)]
        by_cases e : k = 57
        · subst e
          rw [wI_ne2 _ _ (fun z => hk ⟨rfl, z⟩)]; rfl
        · rw [wI_ne _ _ _ e]; rfl
      have R3 : RC s c v h3 := R1.sr (fun k i hk => g3 k i (by rintro ⟨rfl, rfl⟩; cases hk))
      obtain ⟨h4, r4, O4, R4⟩ := w_openTurns (tt := tt) (m := m) R3 o h6 (by rw [g3 57 10 (by decide)]; exact N1) (fun n hn => ⟨by rw [g3 58 n (by rintro ⟨z, _⟩; exact absurd z (by decide))]; exact (A1 n hn).1, (T.2.1 n hn).1⟩)
      have B4 : ilB s (opA tt c m) (opA tt v m) tt m bd h4 := ⟨R4, by rw [O4.1 57 10 (by decide), g3 57 10 (by decide)]; exact N1, fun n hn => by rw [O4.1 58 n (by decide), g3 58 n (by rintro ⟨z, _⟩; exact absurd z (by decide))]; exact (A1 n hn).1, by rw [O4.2 57 12 (by simp), O3.2 57 12 (by decide), O2.2 57 12 (by decide)]; show (wJ h1 57 12 bd).2 57 12 = bd; exact wJ_same _ _ _ _⟩
      have F4 : ilF s (opA tt c m) tt m h4 h4 := ⟨onlyJ.rfl _ _ h4, fun _ _ => rfl, fun t ht _ => R4.cts ht⟩
      have M4 : MV s (opA tt c m) tt m bd h4 := fun p q hp hq z => by
        rw [O4.2 62 p (by simp), O3.2 62 p (by decide), A2 p (by omega), btJ_zero] at z
        cases z
      have W4 : h4.1 57 11 = 0 := by rw [O4.1 57 11 (by decide), O3.1 57 11 (by simp), O2.1 57 11 (by simp), wI_same]
      have OO4 : onlyJ [46, 47, 57, 58, 59, 60, 61] [57, 62, 63] h h4 := ((((OO1.addJ (by decide)).addI (by decide)).trans (O2.mono (by simp) (by intro k hk; simp at hk; subst hk; decide))).trans (O3.mono (by simp) (by intro k hk; simp at hk; subst hk; decide))).trans (O4.mono (by intro k hk; simp at hk; rcases hk with hk | hk <;> (subst hk; decide)) (by simp))
      -- giving back, or giving
      have lpE : ∀ (fd : Int32) (h5 : HP) (vc vv : Nat → Int32), ilF s (opA tt c m) tt m h4 h5 → (∀ d, d < m → ((fd = 0 ∧ h5.1 59 d = vc d ∧ vv d = nI x) ∨ (fd = 1 ∧ h5.1 60 d = vc d ∧ vv d = vc d))) → ∀ y, (fd = 0 → y = (if 2000 ≤ (ilR s c v x a b bd).2 then (-3 : Int32) else -2)) → (fd = 1 → y = nI m) → h5.1 57 11 = nI (ilR s c v x a b bd).2 → (ilR s c v x a b bd).2 ≤ 2000 → ∀ n, n ≤ m → ∀ h', onlyJ [46, 47] [] h5 h' → RC s (setA tt (fun t => h5.1 46 t) vc n) (setA tt (opA tt v m) vv n) h' → Wp 13 j_Illness_replace 107 [.ref 57, .int (nI x), .int (nI a), .int (nI b), .long bd, .null, .int fd, .int (nI n)] [] h' (fun w h' => w = some (.int y) ∧ onlyJ [46, 47] [] h5 h' ∧ RC s (setA tt (fun t => h5.1 46 t) vc m) (setA tt (opA tt v m) vv m) h') := by
        intro fd h5 vc vv F5 V y y0 y1 W5 hle
        refine up_ind ?_ (fun n hn ih => ?_)
        · intro h' O' R'
          have N' : h'.1 57 10 = nI m := by rw [O'.1 57 10 (by decide)]; exact F5.cnt B4
          have W' : h'.1 57 11 = nI (ilR s c v x a b bd).2 := by rw [O'.1 57 11 (by decide)]; exact W5
          rcases V 0 (by omega) with ⟨rfl, _⟩ | ⟨rfl, _⟩
          · by_cases hw : 2000 ≤ (ilR s c v x a b bd).2
            · repeat (first | (refine W1 rfl ?_; try refine Wp.norm (L' := [_, _, _, _, _, _, _, _]) rfl ?_) | ((first | change (_ → _) ∧ (_ → _) | change vp_in _ _ ∧ _ | change ¬ _ ∧ _); simp (disch := omega) only [nI_clamp, nI_leI, nI_ltI, nI_eq, nI_1, nI_add, nI_not_neg, nI_is_pos, nI_m1, nI_z, N', W', show (2000 : Int32) = nI 2000 from rfl]) | refine brT (by first | assumption | decide | omega) ?_ | refine brF (by first | assumption | decide | omega) ?_ | refine brTn (by first | assumption | decide | omega) ?_ | refine brFn (by first | assumption | decide | omega) ?_ | refine And.intro (vp_in_nI (by omega) (by decide)) ?_ | refine And.intro (vp_lit (by decide)) ?_ | refine divJ (by decide) ?_ | refine divI (by decide) ?_)
              try change _ ∧ _
              rw [y0 rfl, if_pos hw]
              exact ⟨rfl, O', R'⟩
            · repeat (first | (refine W1 rfl ?_; try refine Wp.norm (L' := [_, _, _, _, _, _, _, _]) rfl ?_) | ((first | change (_ → _) ∧ (_ → _) | change vp_in _ _ ∧ _ | change ¬ _ ∧ _); simp (disch := omega) only [nI_clamp, nI_leI, nI_ltI, nI_eq, nI_1, nI_add, nI_not_neg, nI_is_pos, nI_m1, nI_z, N', W', show (2000 : Int32) = nI 2000 from rfl]) | refine brT (by first | assumption | decide | omega) ?_ | refine brF (by first | assumption | decide | omega) ?_ | refine brTn (by first | assumption | decide | omega) ?_ | refine brFn (by first | assumption | decide | omega) ?_ | refine And.intro (vp_in_nI (by omega) (by decide)) ?_ | refine And.intro (vp_lit (by decide)) ?_ | refine divJ (by decide) ?_ | refine divI (by decide) ?_)
              try change _ ∧ _
              rw [y0 rfl, if_neg hw]
              exact ⟨rfl, O', R'⟩
          · repeat (first | (refine W1 rfl ?_; try refine Wp.norm (L' := [_, _, _, _, _, _, _, _]) rfl ?_) | ((first | change (_ → _) ∧ (_ → _) | change vp_in _ _ ∧ _ | change ¬ _ ∧ _); simp (disch := omega) only [nI_clamp, nI_leI, nI_ltI, nI_eq, nI_1, nI_add, nI_not_neg, nI_is_pos, nI_m1, nI_z, N']) | refine brT (by first | assumption | decide | omega) ?_ | refine brF (by first | assumption | decide | omega) ?_ | refine brTn (by first | assumption | decide | omega) ?_ | refine brFn (by first | assumption | decide | omega) ?_ | refine And.intro (vp_in_nI (by omega) (by decide)) ?_ | refine And.intro (vp_lit (by decide)) ?_ | refine divJ (by decide) ?_ | refine divI (by decide) ?_)
            try change _ ∧ _
            rw [y1 rfl, N']
            exact ⟨rfl, O', R'⟩
        · intro h' O' R'
          have N' : h'.1 57 10 = nI m := by rw [O'.1 57 10 (by decide)]; exact F5.cnt B4
          have t' : h'.1 58 n = nI (tt n) := by rw [O'.1 58 n (by decide)]; exact F5.trn B4 hn
          have htn := (T.2.1 n hn).1
          have ih := ih (wI (wI h' 46 (tt n) (vc n)) 47 (tt n) (vv n)) ((O'.addI (by decide)).addI (by decide)) ((R'.c46 (tt n) (vc n)).c47 (tt n) (vv n))
          have t2 : ∀ z, (wI h' 46 (tt n) z).1 58 n = nI (tt n) := fun z => by rw [wI_ne _ _ _ (by decide)]; exact t'
          rcases V n hn with ⟨rfl, e1, e2⟩ | ⟨rfl, e1, e2⟩
          · have c' : h'.1 59 n = vc n := by rw [O'.1 59 n (by decide)]; exact e1
            rw [e2] at ih
            (refine W1 rfl ?_; try refine Wp.norm (L' := [_, _, _, _, _, _, _, _]) rfl ?_)
            repeat (first | refine Wp.at ih rfl rfl ?_ ?_ | (refine W1 rfl ?_; try refine Wp.norm (L' := [_, _, _, _, _, _, _, _]) rfl ?_) | ((first | change (_ → _) ∧ (_ → _) | change vp_in _ _ ∧ _ | change ¬ _ ∧ _); simp (disch := omega) only [nI_clamp, nI_leI, nI_ltI, nI_eq, nI_1, nI_add, nI_not_neg, nI_is_pos, nI_m1, nI_z, N', t', t2]) | refine brT (by first | assumption | decide | omega) ?_ | refine brF (by first | assumption | decide | omega) ?_ | refine brTn (by first | assumption | decide | omega) ?_ | refine brFn (by first | assumption | decide | omega) ?_ | refine And.intro (vp_in_nI (by omega) (by decide)) ?_ | refine And.intro (vp_lit (by decide)) ?_ | refine divJ (by decide) ?_ | refine divI (by decide) ?_)
            try change _ ∧ _
            · first | done | rfl | (simp (disch := omega) only [nI_1, nI_add, nI_clamp] <;> first | done | rfl)
            · first | done | rfl | (simp (disch := omega) only [nI_1, nI_add, nI_clamp, t', t2, c'] <;> first | done | rfl)
          · have c' : h'.1 60 n = vc n := by rw [O'.1 60 n (by decide)]; exact e1
            have c2 : ∀ z, (wI h' 46 (tt n) z).1 60 n = vc n := fun z => by rw [wI_ne _ _ _ (by decide)]; exact c'
            rw [e2] at ih
            (refine W1 rfl ?_; try refine Wp.norm (L' := [_, _, _, _, _, _, _, _]) rfl ?_)
            repeat (first | refine Wp.at ih rfl rfl ?_ ?_ | (refine W1 rfl ?_; try refine Wp.norm (L' := [_, _, _, _, _, _, _, _]) rfl ?_) | ((first | change (_ → _) ∧ (_ → _) | change vp_in _ _ ∧ _ | change ¬ _ ∧ _); simp (disch := omega) only [nI_clamp, nI_leI, nI_ltI, nI_eq, nI_1, nI_add, nI_not_neg, nI_is_pos, nI_m1, nI_z, N', t', t2]) | refine brT (by first | assumption | decide | omega) ?_ | refine brF (by first | assumption | decide | omega) ?_ | refine brTn (by first | assumption | decide | omega) ?_ | refine brFn (by first | assumption | decide | omega) ?_ | refine And.intro (vp_in_nI (by omega) (by decide)) ?_ | refine And.intro (vp_lit (by decide)) ?_ | refine divJ (by decide) ?_ | refine divI (by decide) ?_)
            try change _ ∧ _
            · first | done | rfl | (simp (disch := omega) only [nI_1, nI_add, nI_clamp] <;> first | done | rfl)
            · first | done | rfl | (simp (disch := omega) only [nI_1, nI_add, nI_clamp, t', t2, c', c2] <;> first | done | rfl)
      have fin : ∀ h0 h5 wv, chP s (opA tt c m) (opA tt v m) tt m x bd h4 0 (ilR s c v x a b bd) h0 wv h5 → (ilR s c v x a b bd).2 ≤ 2000 → ∃ fd, wv = some (.int fd) ∧ Wp 13 j_Illness_replace 107 [.ref 57, .int (nI x), .int (nI a), .int (nI b), .long bd, .null, .int fd, .int (nI 0)] [] h5 (fun w h' => onlyJ [46, 47, 57, 58, 59, 60, 61] [57, 62, 63] h h' ∧ w = some (.int (ilY m (ilR s c v x a b bd))) ∧ RC s (ilC tt m (ilR s c v x a b bd) c) (ilC tt m (ilR s c v x a b bd) v) h' ∧ RO s (ilC tt m (ilR s c v x a b bd) c) (ilC tt m (ilR s c v x a b bd) v)) := by
        intro h0 h5 wv cp hle
        obtain ⟨e1, F5, _, W5, _, _, C5⟩ := cp
        have R5 := F5.RC B4
        have OO5 : onlyJ [46, 47, 57, 58, 59, 60, 61] [57, 62, 63] h h5 := OO4.trans (F5.1.mono (by intro k hk; simp at hk; rcases hk with hk | hk | hk | hk <;> (subst hk; decide)) (by intro k hk; simp at hk; rcases hk with hk | hk <;> (subst hk; decide)))
        have wh : ∀ t, (∃ d, d < m ∧ t = tt d) ∨ ∀ d, d < m → t ≠ tt d := fun t => by
          by_cases z : ∃ d, d < m ∧ t = tt d
          · exact Or.inl z
          · exact Or.inr (fun d hd e => z ⟨d, hd, e⟩)
        cases er : (ilR s c v x a b bd).1 with
        | none =>
          refine ⟨0, by rw [e1, if_pos er], ?_⟩
          refine Wp.mono ?_ (lpE 0 h5 (fun d => c (tt d)) (fun _ => nI x) F5 (fun d hd => Or.inl ⟨rfl, by rw [F5.1.1 59 d (by decide), O4.1 59 d (by decide), g3 59 d (by rintro ⟨z, _⟩; exact absurd z (by decide))]; exact (A1 d hd).2, rfl⟩) _ (fun _ => rfl) (fun z => absurd z (by decide)) W5 hle 0 (by omega) h5 (onlyJ.rfl _ _ h5) R5)
          rintro w h' ⟨rfl, O', R'⟩
          have ec : ∀ f, ilC tt m (ilR s c v x a b bd) f = f := fun f => by unfold ilC; rw [er]
          rw [ec, ec]
          refine ⟨OO5.trans (O'.mono (by intro k hk; simp at hk; rcases hk with hk | hk <;> (subst hk; decide)) (by simp)), by unfold ilY; rw [if_pos er], R'.cg (fun t ht => ?_) (fun t ht => ?_), ro⟩
          · rcases wh t with ⟨d, hd, rfl⟩ | z
            · exact setA_at T.2.2 _ _ m d hd (Nat.le_refl _)
            · rw [setA_o _ _ m t z]
              show h5.1 46 t = _
              rw [F5.2.2 t ht z, opA_o tt c m t z]
          · rcases wh t with ⟨d, hd, rfl⟩ | z
            · rw [setA_at T.2.2 _ _ m d hd (Nat.le_refl _), hIB d hd]
            · rw [setA_o _ _ m t z, opA_o tt v m t z]
        | some cc =>
          have hcc := C5 cc er
          refine ⟨1, by rw [e1, if_neg (by rw [er]; simp)], ?_⟩
          refine Wp.mono ?_ (lpE 1 h5 (fun d => nI (cc d)) (fun d => nI (cc d)) F5 (fun d hd => Or.inr ⟨rfl, (hcc d hd).1, rfl⟩) _ (fun z => absurd z (by decide)) (fun _ => rfl) W5 hle 0 (by omega) h5 (onlyJ.rfl _ _ h5) R5)
          rintro w h' ⟨rfl, O', R'⟩
          have ec : ∀ f, ilC tt m (ilR s c v x a b bd) f = asg tt (opA tt f m) cc m := fun f => by unfold ilC; rw [er]
          rw [ec, ec]
          refine ⟨OO5.trans (O'.mono (by intro k hk; simp at hk; rcases hk with hk | hk <;> (subst hk; decide)) (by simp)), by unfold ilY; rw [if_neg (by rw [er]; simp)], R'.cg (fun t ht => ?_) (fun t ht => ?_), RO.asg (m := m) ro1 tt m (fun d hd => (hcc d hd).2)⟩
          · rcases wh t with ⟨d, hd, rfl⟩ | z
            · rw [setA_at T.2.2 _ _ m d hd (Nat.le_refl _), asg_at T _ _ m d hd (Nat.le_refl _)]
            · rw [setA_o _ _ m t z, asg_o _ _ m t z]
              exact F5.2.2 t ht z
          · rcases wh t with ⟨d, hd, rfl⟩ | z
            · rw [setA_at T.2.2 _ _ m d hd (Nat.le_refl _), asg_at T _ _ m d hd (Nat.le_refl _)]
            · rw [setA_o _ _ m t z, asg_o _ _ m t z]
      generalize hQ0 : (fun w h' => onlyJ [46, 47, 57, 58, 59, 60, 61] [57, 62, 63] h h' ∧ w = some (Value.int (ilY m (ilR s c v x a b bd))) ∧ RC s (ilC tt m (ilR s c v x a b bd) c) (ilC tt m (ilR s c v x a b bd) v) h' ∧ RO s (ilC tt m (ilR s c v x a b bd) c) (ilC tt m (ilR s c v x a b bd) v)) = QQ at *
      -- who is left
      have lpL : ∀ n, n ≤ m → ∀ h', (∀ k i, k ≠ 61 → h'.1 k i = h4.1 k i) → h'.2 = h4.2 → (∀ d, d < n → ∀ q, q < 32 → bt (h'.1 61 d) q = lft s (opA tt v m) tt x (fun _ => 0) 0 d q) → Wp 13 j_Illness_replace 55 [.ref 57, .int (nI x), .int (nI a), .int (nI b), .long bd, .null, .int (nI n), .null] [] h' QQ := by
        refine up_ind ?_ (fun n hn ih => ?_)
        · intro h' X Y L
          have N' : h'.1 57 10 = nI m := by rw [X 57 10 (by decide)]; exact B4.2.1
          have F' : ilF s (opA tt c m) tt m h4 h' := ⟨⟨fun k i hk => X k i (by rintro rfl; exact hk (by decide)), fun k i _ => by rw [Y]⟩, fun i _ => X 57 i (by decide), fun t ht _ => by rw [X 46 t (by decide)]; exact R4.cts ht⟩
          have M' : MV s (opA tt c m) tt m bd h' := fun p q hp hq z => by
            rw [Y] at z ⊢; exact M4 p q hp hq z
          have W' : h'.1 57 11 = nI 0 := by rw [X 57 11 (by decide)]; exact W4
          obtain ⟨wv, h5, r5, cp⟩ := w_choose (x := x) B4 o T hbd m 0 (fun _ => 0) 0 h' (by omega) (fun d hd => absurd hd (by omega)) F' M' W' (by omega) (fun d hd => absurd hd (by omega)) (fun n _ hn q hq => by rw [Nat.zero_mul, Nat.zero_add]; exact L n hn q hq)
          rw [← hilR] at cp
          obtain ⟨fd, rfl, ih⟩ := fin h' h5 wv cp (by rw [hilR]; exact srD_le m 0 _ 0 (by omega))
          repeat (first | (refine W1 rfl ?_; try refine Wp.norm (L' := [_, _, _, _, _, _, _, _]) rfl ?_) | ((first | change (_ → _) ∧ (_ → _) | change vp_in _ _ ∧ _ | change ¬ _ ∧ _); simp (disch := omega) only [nI_clamp, nI_leI, nI_ltI, nI_eq, nI_1, nI_add, nI_not_neg, nI_is_pos, nI_m1, nI_z, N']) | refine brT (by first | assumption | decide | omega) ?_ | refine brF (by first | assumption | decide | omega) ?_ | refine brTn (by first | assumption | decide | omega) ?_ | refine brFn (by first | assumption | decide | omega) ?_ | refine And.intro (vp_in_nI (by omega) (by decide)) ?_ | refine And.intro (vp_lit (by decide)) ?_ | refine divJ (by decide) ?_ | refine divI (by decide) ?_)
          try change _ ∧ _
          refine Cl.of r5 (by omega) ?_
          repeat (first | refine Wp.at ih rfl rfl ?_ rfl | (refine W1 rfl ?_; try refine Wp.norm (L' := [_, _, _, _, _, _, _, _]) rfl ?_) | ((first | change (_ → _) ∧ (_ → _) | change vp_in _ _ ∧ _ | change ¬ _ ∧ _); simp (disch := omega) only [nI_clamp, nI_leI, nI_ltI, nI_eq, nI_1, nI_add, nI_not_neg, nI_is_pos, nI_m1, nI_z]) | refine brT (by first | assumption | decide | omega) ?_ | refine brF (by first | assumption | decide | omega) ?_ | refine brTn (by first | assumption | decide | omega) ?_ | refine brFn (by first | assumption | decide | omega) ?_ | refine And.intro (vp_in_nI (by omega) (by decide)) ?_ | refine And.intro (vp_lit (by decide)) ?_ | refine divJ (by decide) ?_ | refine divI (by decide) ?_)
          try change _ ∧ _
          first | done | rfl | (simp (disch := omega) only [nI_1, nI_add, nI_clamp] <;> first | done | rfl)
        · intro h' X Y L
          have N' : h'.1 57 10 = nI m := by rw [X 57 10 (by decide)]; exact B4.2.1
          have R' : RC s (opA tt c m) (opA tt v m) h' := R4.sr (fun k i hk => X k i (by rintro rfl; cases hk))
          have t' : h'.1 58 n = nI (tt n) := by rw [X 58 n (by decide)]; exact B4.2.2.1 n hn
          obtain ⟨y, ry, Y1⟩ := w_Rota_ableFor R' o ro1 (T.2.1 n hn).1
          have ih := ih (wI h' 61 n (y &&& ((1 <<< (nI x &&& 31)) ^^^ (-1)))) (fun k i hk => by rw [wI_ne _ _ _ hk]; exact X k i hk) Y (fun d hd q hq => by
            by_cases e : d = n
            · subst e
              rw [wI_same, bt_and, bt_not _ hq, bt_shl (by omega) hq, Y1 q hq]
              unfold lft
              show _ = (_ && _ && !anyB _ 0)
              rw [show anyB (fun d_1 => brd s (tt d_1) (tt d) 0 q) 0 = false from rfl]
              by_cases z : q = x <;> simp [z]
            · rw [wI_ne2 _ _ e]; exact L d (by omega) q hq)
          repeat (first | (refine W1 rfl ?_; try refine Wp.norm (L' := [_, _, _, _, _, _, _, _]) rfl ?_) | ((first | change (_ → _) ∧ (_ → _) | change vp_in _ _ ∧ _ | change ¬ _ ∧ _); simp (disch := omega) only [nI_clamp, nI_leI, nI_ltI, nI_eq, nI_1, nI_add, nI_not_neg, nI_is_pos, nI_m1, nI_z, N']) | refine brT (by first | assumption | decide | omega) ?_ | refine brF (by first | assumption | decide | omega) ?_ | refine brTn (by first | assumption | decide | omega) ?_ | refine brFn (by first | assumption | decide | omega) ?_ | refine And.intro (vp_in_nI (by omega) (by decide)) ?_ | refine And.intro (vp_lit (by decide)) ?_ | refine divJ (by decide) ?_ | refine divI (by decide) ?_)
          try change _ ∧ _
          refine Cl.ofA ry (by first | done | rfl | (simp (disch := omega) only [nI_1, nI_add, nI_clamp, t'] <;> first | done | rfl)) (by decide) ?_
          repeat (first | refine Wp.at ih rfl rfl ?_ rfl | (refine W1 rfl ?_; try refine Wp.norm (L' := [_, _, _, _, _, _, _, _]) rfl ?_) | ((first | change (_ → _) ∧ (_ → _) | change vp_in _ _ ∧ _ | change ¬ _ ∧ _); simp (disch := omega) only [nI_clamp, nI_leI, nI_ltI, nI_eq, nI_1, nI_add, nI_not_neg, nI_is_pos, nI_m1, nI_z]) | refine brT (by first | assumption | decide | omega) ?_ | refine brF (by first | assumption | decide | omega) ?_ | refine brTn (by first | assumption | decide | omega) ?_ | refine brFn (by first | assumption | decide | omega) ?_ | refine And.intro (vp_in_nI (by omega) (by decide)) ?_ | refine And.intro (vp_lit (by decide)) ?_ | refine divJ (by decide) ?_ | refine divI (by decide) ?_)
          try change _ ∧ _
          first | done | rfl | (simp (disch := omega) only [nI_1, nI_add, nI_clamp] <;> first | done | rfl)
      have ih := lpL 0 (by omega) h4 (fun _ _ _ => rfl) rfl (fun d hd => absurd hd (by omega))
      repeat (first | (refine W1 rfl ?_; try refine Wp.norm (L' := [_, _, _, _, _, _, _, _]) rfl ?_) | ((first | change (_ → _) ∧ (_ → _) | change vp_in _ _ ∧ _ | change ¬ _ ∧ _); simp (disch := omega) only [nI_clamp, nI_leI, nI_ltI, nI_eq, nI_1, nI_add, nI_not_neg, nI_is_pos, nI_m1, nI_z]) | refine brT (by first | assumption | decide | omega) ?_ | refine brF (by first | assumption | decide | omega) ?_ | refine brTn (by first | assumption | decide | omega) ?_ | refine brFn (by first | assumption | decide | omega) ?_ | refine And.intro (vp_in_nI (by omega) (by decide)) ?_ | refine And.intro (vp_lit (by decide)) ?_ | refine divJ (by decide) ?_ | refine divI (by decide) ?_)
      try change _ ∧ _
      refine Cl.of r1 (by decide) ?_
      repeat (first | (refine W1 rfl ?_; try refine Wp.norm (L' := [_, _, _, _, _, _, _, _]) rfl ?_) | ((first | change (_ → _) ∧ (_ → _) | change vp_in _ _ ∧ _ | change ¬ _ ∧ _); simp (disch := omega) only [nI_clamp, nI_leI, nI_ltI, nI_eq, nI_1, nI_add, nI_not_neg, nI_is_pos, nI_m1, nI_z, N1]) | refine brT (by first | assumption | decide | omega) ?_ | refine brF (by first | assumption | decide | omega) ?_ | refine brTn (by first | assumption | decide | omega) ?_ | refine brFn (by first | assumption | decide | omega) ?_ | refine And.intro (vp_in_nI (by omega) (by decide)) ?_ | refine And.intro (vp_lit (by decide)) ?_ | refine divJ (by decide) ?_ | refine divI (by decide) ?_)
      try change _ ∧ _
      refine Cl.of r2 (by decide) ?_
      repeat (first | (refine W1 rfl ?_; try refine Wp.norm (L' := [_, _, _, _, _, _, _, _]) rfl ?_) | ((first | change (_ → _) ∧ (_ → _) | change vp_in _ _ ∧ _ | change ¬ _ ∧ _); simp (disch := omega) only [nI_clamp, nI_leI, nI_ltI, nI_eq, nI_1, nI_add, nI_not_neg, nI_is_pos, nI_m1, nI_z]) | refine brT (by first | assumption | decide | omega) ?_ | refine brF (by first | assumption | decide | omega) ?_ | refine brTn (by first | assumption | decide | omega) ?_ | refine brFn (by first | assumption | decide | omega) ?_ | refine And.intro (vp_in_nI (by omega) (by decide)) ?_ | refine And.intro (vp_lit (by decide)) ?_ | refine divJ (by decide) ?_ | refine divI (by decide) ?_)
      try change _ ∧ _
      refine Cl.of r3 (by decide) ?_
      repeat (first | (refine W1 rfl ?_; try refine Wp.norm (L' := [_, _, _, _, _, _, _, _]) rfl ?_) | ((first | change (_ → _) ∧ (_ → _) | change vp_in _ _ ∧ _ | change ¬ _ ∧ _); simp (disch := omega) only [nI_clamp, nI_leI, nI_ltI, nI_eq, nI_1, nI_add, nI_not_neg, nI_is_pos, nI_m1, nI_z]) | refine brT (by first | assumption | decide | omega) ?_ | refine brF (by first | assumption | decide | omega) ?_ | refine brTn (by first | assumption | decide | omega) ?_ | refine brFn (by first | assumption | decide | omega) ?_ | refine And.intro (vp_in_nI (by omega) (by decide)) ?_ | refine And.intro (vp_lit (by decide)) ?_ | refine divJ (by decide) ?_ | refine divI (by decide) ?_)
      try change _ ∧ _
      refine Cl.of r4 (by decide) ?_
      repeat (first | refine Wp.at ih rfl rfl ?_ rfl | (refine W1 rfl ?_; try refine Wp.norm (L' := [_, _, _, _, _, _, _, _]) rfl ?_) | ((first | change (_ → _) ∧ (_ → _) | change vp_in _ _ ∧ _ | change ¬ _ ∧ _); simp (disch := omega) only [nI_clamp, nI_leI, nI_ltI, nI_eq, nI_1, nI_add, nI_not_neg, nI_is_pos, nI_m1, nI_z]) | refine brT (by first | assumption | decide | omega) ?_ | refine brF (by first | assumption | decide | omega) ?_ | refine brTn (by first | assumption | decide | omega) ?_ | refine brFn (by first | assumption | decide | omega) ?_ | refine And.intro (vp_in_nI (by omega) (by decide)) ?_ | refine And.intro (vp_lit (by decide)) ?_ | refine divJ (by decide) ?_ | refine divI (by decide) ?_)
      try change _ ∧ _
      first | done | rfl | (simp (disch := omega) only [nI_1, nI_add, nI_clamp] <;> first | done | rfl)
end ILL7
