/-! ===== ILL: the model's side, the clause ===== -/
theorem isInN {a v b : Nat} (hv : v < 2 ^ 31) (ha : a < 2 ^ 31) (hb : b < 2 ^ 31) : ((nI a).toInt64 ≤ (nI v).toInt64 ∧ (nI v).toInt64 ≤ (nI b).toInt64) ↔ (a ≤ v ∧ v ≤ b) := by
  rw [nI_l hv, nI_l ha, nI_l hb, pk_lLE (by omega) (by omega), pk_lLE (by omega) (by omega)]
section ILLA
variable {s : ST} {c v : RT} {h : HP} {tt : Nat → Nat} {m x a b : Nat} {bd : Int64}
def seP (s : ST) (c v : RT) (tt : Nat → Nat) (m : Nat) (res : RS) (hB : HP) (w : Option Value) (h' : HP) : Prop := msF hB h' ∧ ((res.1 = none ∧ ∃ c' v', w = some (.int (if 2000 ≤ res.2 then -3 else -2)) ∧ RM s c' v' h' ∧ (∀ t, (∀ d, d < m → t ≠ tt d) → c' t = c t ∧ v' t = v t)) ∨ (∃ cc, res.1 = some cc ∧ (∀ d, d < m → cc d < zP s) ∧ w = some (.int (nI m)) ∧ RM s (asg tt c cc m) (asg tt v cc m) h'))
theorem w_M_searches (R : RM s c v h) (o : OK s) (T : tOK s tt m v) (ro : RO s c v) (hm : 1 ≤ m) (hx : x < zP s) (hN : h.1 65 78 = nI m) (h7 : ∀ d, d < m → h.1 117 d = nI (tt d)) : ∃ w h', Run 5 j_M_searches [.ref 65, .int (nI x), .long bd] h w h' ∧ seP s c v tt m (srD s c v tt m x bd m 0 (fun _ => 0) 0) h w h' := by
  have hP := o.P
  obtain ⟨r, rfl⟩ : ∃ r, m = r + 1 := ⟨m - 1, by omega⟩
  obtain ⟨res, hres⟩ : ∃ res, srD s c v tt (r + 1) x bd (r + 1) 0 (fun _ => 0) 0 = res := ⟨_, rfl⟩
  rw [hres]
  refine Run.ofP rfl ?_
  refine Wp.norm (L' := [_, _, _, _, _, _]) rfl ?_
  have t0 := T.2.1 0 (by omega)
  have c0 : c (tt 0) = -1 := by
    rcases ro _ t0.1 with z | ⟨p', q', _, hq', _, z⟩
    · exact z.1
    · rw [t0.2] at z
      exact absurd z (fun z => (nI_m1' (by omega)).mp z)
  have e0 : ∀ g : RT, g (tt 0) = -1 → ∀ t, g t = upd g (tt 0) (nI 0 - 1) t := fun g hg t => by
    by_cases e : t = tt 0
    · subst e; rw [pk_us, hg]; rfl
    · rw [pk_un e]
  have ih := w_srM (bd := bd) o T ro hx hN h7 (seP s c v tt (r + 1) res h) r 0 (fun _ => 0) (by omega) (fun d hd => absurd hd (by omega)) (zP s) 0 0 res (by omega) (by omega) hres (fun z1 z2 h' F R' => by
    show Wp 5 j_M_searches 6 [.ref 65, .int (nI x), .long bd, .null, .int (-1), .int (nI res.2)] [] h' _
    repeat (first | (refine W1 rfl ?_; try refine Wp.norm (L' := [_, _, _, _, _, _]) rfl ?_) | ((first | change (_ → _) ∧ (_ → _) | change vp_in _ _ ∧ _ | change ¬ _ ∧ _); simp (disch := omega) only [nI_clamp, nI_leI, nI_ltI, nI_eq, nI_1, nI_add, nI_not_neg, nI_is_pos, nI_m1, nI_z]) | refine brT (by first | assumption | decide | omega) ?_ | refine brF (by first | assumption | decide | omega) ?_ | refine brTn (by first | assumption | decide | omega) ?_ | refine brFn (by first | assumption | decide | omega) ?_ | refine And.intro (vp_in_nI (by omega) (by decide)) ?_ | refine And.intro (vp_lit (by decide)) ?_ | refine divJ (by decide) ?_ | refine divI (by decide) ?_)
    try change _ ∧ _
    exact ⟨F, Or.inl ⟨z1, c, v, by rw [if_neg (by omega)], R', fun _ _ => ⟨rfl, rfl⟩⟩⟩) (fun z1 z2 h' c' v' F R' X => ⟨F, Or.inl ⟨z1, c', v', by rw [if_pos z2], R', X⟩⟩) (fun cc z hcc h' F R' => ⟨F, Or.inr ⟨cc, z, hcc, rfl, R'⟩⟩) h (msF.rfl h) (R.cg (fun t _ => e0 c c0 t) (fun t _ => e0 v t0.2 t))
  repeat (first | refine Wp.at ih rfl rfl ?_ rfl | (refine W1 rfl ?_; try refine Wp.norm (L' := [_, _, _, _, _, _]) rfl ?_) | ((first | change (_ → _) ∧ (_ → _) | change vp_in _ _ ∧ _ | change ¬ _ ∧ _); simp (disch := omega) only [nI_clamp, nI_leI, nI_ltI, nI_eq, nI_1, nI_add, nI_not_neg, nI_is_pos, nI_m1, nI_z]) | refine brT (by first | assumption | decide | omega) ?_ | refine brF (by first | assumption | decide | omega) ?_ | refine brTn (by first | assumption | decide | omega) ?_ | refine brFn (by first | assumption | decide | omega) ?_ | refine And.intro (vp_in_nI (by omega) (by decide)) ?_ | refine And.intro (vp_lit (by decide)) ?_ | refine divJ (by decide) ?_ | refine divI (by decide) ?_)
  try change _ ∧ _
  first | done | rfl | (simp (disch := omega) only [nI_1, nI_add, nI_clamp] <;> first | done | rfl)
/-- where ill writes -/
def iG (h h' : HP) : Prop := onlyJ [65, 110, 111, 117, 118, 119] [] h h' ∧ ∀ i, i ≠ 62 → i ≠ 63 → i ≠ 78 → h'.1 65 i = h.1 65 i
theorem iG.rfl (h : HP) : iG h h := ⟨onlyJ.rfl _ _ h, fun _ _ _ _ => Eq.refl _⟩
theorem iG.trans {a b c : HP} (A : iG a b) (B : iG b c) : iG a c := ⟨A.1.trans B.1, fun i h1 h2 h3 => (B.2 i h1 h2 h3).trans (A.2 i h1 h2 h3)⟩
theorem iG.lay {h h' : HP} {t : Nat} {x y : Int32} (A : iG h h') : iG h (wI (wI h' 110 t x) 111 t y) := ⟨(A.1.addI (by decide)).addI (by decide), fun i h1 h2 h3 => by rw [wI_ne _ _ _ (by decide), wI_ne _ _ _ (by decide)]; exact A.2 i h1 h2 h3⟩
theorem msF.i {h h' : HP} (F : msF h h') : iG h h' := ⟨F.1.mono (by intro k hk; simp at hk; rcases hk with hk | hk | hk <;> (subst hk; decide)) (by simp), fun i h1 h2 _ => F.2 i h1 h2⟩
/-- the turns found, at t -/
def ilT (s : ST) (c v : RT) (x a b t : Nat) (h h' : HP) : Prop := onlyJ [65, 117, 118, 119] [] h h' ∧ (∀ i, i ≠ 78 → h'.1 65 i = h.1 65 i) ∧ cB (IB s v x a b) t ≤ 6 ∧ h'.1 65 78 = nI (cB (IB s v x a b) t) ∧ ∀ d, d < cB (IB s v x a b) t → h'.1 117 d = nI (tI s v x a b d) ∧ h'.1 118 d = c (tI s v x a b d) ∧ h'.1 119 d = v (tI s v x a b d)
theorem ilT.i {t : Nat} {h h' : HP} (F : ilT s c v x a b t h h') : iG h h' := ⟨F.1.mono (by intro k hk; simp at hk; rcases hk with hk | hk | hk | hk <;> (subst hk; decide)) (by simp), fun i _ _ h3 => F.2.1 i h3⟩
theorem ilT.M {t : Nat} {h h' : HP} (F : ilT s c v x a b t h h') (R : RM s c v h) : RM s c v h' := R.sr (fun k i hk => by
  by_cases e : k = 65
  · subst e; exact F.2.1 i (by rintro rfl; cases hk)
  · exact F.1.1 k i (by intro z; simp at z; rcases z with z | z | z | z; exact e z; subst z; cases hk; subst z; cases hk; subst z; cases hk)) (fun k i _ => F.1.2 k i (by simp))
theorem w_illF (R : RM s c v h) (o : OK s) (hx : x < zP s) (hb : b < 200) (hab : a ≤ b) {Q : QT} (K1 : 6 < mI s v x a b → ∀ h', iG h h' → RM s c v h' → Q (some (.int (-1))) h') (K2 : mI s v x a b ≤ 6 → ∀ h', ilT s c v x a b (zT s) h h' → Wp 6 j_M_ill 161 [.ref 65, .int (nI x), .int (nI a), .int (nI b), .long bd, .null, .int (nI (zT s)), .null] [] h' Q) : ∀ t, t ≤ zT s → ∀ h', ilT s c v x a b t h h' → Wp 6 j_M_ill 50 [.ref 65, .int (nI x), .int (nI a), .int (nI b), .long bd, .null, .int (nI t), .null] [] h' Q := by
  have hT := o.T; have hP := o.P; have hK := o.K; have hD := o.D; have hO := o.O; have hQ := o.Q; have hL := o.L
  refine up_ind ?_ (fun t ht ih => ?_)
  · intro h' F
    have R' := F.M R
    have ih := K2 F.2.2.1 h' F
    (refine W1 rfl ?_; try refine Wp.norm (L' := [_, _, _, _, _, _, _, _]) rfl ?_)
    repeat (first | refine Wp.at ih rfl rfl ?_ rfl | (refine W1 rfl ?_; try refine Wp.norm (L' := [_, _, _, _, _, _, _, _]) rfl ?_) | ((first | change (_ → _) ∧ (_ → _) | change vp_in _ _ ∧ _ | change ¬ _ ∧ _); simp (disch := omega) only [nI_clamp, nI_leI, nI_ltI, nI_eq, nI_1, nI_add, nI_not_neg, nI_is_pos, nI_m1, nI_z, R'.T]) | refine brT (by first | assumption | decide | omega) ?_ | refine brF (by first | assumption | decide | omega) ?_ | refine brTn (by first | assumption | decide | omega) ?_ | refine brFn (by first | assumption | decide | omega) ?_ | refine And.intro (vp_in_nI (by omega) (by decide)) ?_ | refine And.intro (vp_lit (by decide)) ?_ | refine divJ (by decide) ?_ | refine divI (by decide) ?_)
    try change _ ∧ _
    first | done | rfl | (simp (disch := omega) only [nI_1, nI_add, nI_clamp] <;> first | done | rfl)
  · intro h' F
    have R' := F.M R
    have hd := o.day ht
    have es := cB_s (IB s v x a b) t
    have go : IB s v x a b t = false → ilT s c v x a b (t + 1) h h' := fun z => by
      rw [z, if_neg (by decide), Nat.add_zero] at es
      unfold ilT
      rw [es]
      exact F
    by_cases hv : v t = nI x
    · by_cases hin : a ≤ tD s t ∧ tD s t ≤ b
      · have hIB : IB s v x a b t = true := by
          unfold IB
          simp only [Bool.and_eq_true, decide_eq_true_eq]
          exact ⟨hin, hv⟩
        rw [if_pos hIB] at es
        obtain ⟨O, X, N6, N, A⟩ := F
        have rI := r_M_isIn h' (nI (tD s t)).toInt64 (nI a).toInt64 (nI b).toInt64
        rw [if_pos ((isInN (by omega) (by omega) (by omega)).mpr hin)] at rI
        by_cases h6 : cB (IB s v x a b) t = 6
        · have hm : 6 < mI s v x a b := by
            have := cB_lt ht hIB
            show 6 < cB (IB s v x a b) (zT s)
            omega
          have k1 := K1 hm h' (ilT.i (s := s) (c := c) (v := v) (x := x) (a := a) (b := b) (t := t) ⟨O, X, N6, N, A⟩) R'
          rw [h6] at N
          repeat (first | (refine W1 rfl ?_; try refine Wp.norm (L' := [_, _, _, _, _, _, _, _]) rfl ?_) | ((first | change (_ → _) ∧ (_ → _) | change vp_in _ _ ∧ _ | change ¬ _ ∧ _); simp (disch := omega) only [nI_clamp, nI_leI, nI_ltI, nI_eq, nI_1, nI_add, nI_not_neg, nI_is_pos, nI_m1, nI_z, R'.T, R'.srv]) | refine brT (by first | assumption | decide | omega) ?_ | refine brF (by first | assumption | decide | omega) ?_ | refine brTn (by first | assumption | decide | omega) ?_ | refine brFn (by first | assumption | decide | omega) ?_ | refine And.intro (vp_in_nI (by omega) (by decide)) ?_ | refine And.intro (vp_lit (by decide)) ?_ | refine divJ (by decide) ?_ | refine divI (by decide) ?_)
          try change _ ∧ _
          refine Cl.ofA rI (by first | done | rfl | (simp (disch := omega) only [nI_1, nI_add, nI_clamp, R'.day] <;> first | done | rfl)) (by decide) ?_
          iterate 1 (refine W1 rfl ?_; try refine Wp.norm (L' := [_, _, _, _, _, _, _, _]) rfl ?_)
          refine brTn (by decide) ?_
          refine Wp.normS (pc' := 91) (S' := []) rfl rfl rfl ?_
          repeat (first | (refine W1 rfl ?_; try refine Wp.norm (L' := [_, _, _, _, _, _, _, _]) rfl ?_) | ((first | change (_ → _) ∧ (_ → _) | change vp_in _ _ ∧ _ | change ¬ _ ∧ _); simp (disch := omega) only [nI_clamp, nI_leI, nI_ltI, nI_eq, nI_1, nI_add, nI_not_neg, nI_is_pos, nI_m1, nI_z, N, show (6 : Int32) = nI 6 from rfl]) | refine brT (by first | assumption | decide | omega) ?_ | refine brF (by first | assumption | decide | omega) ?_ | refine brTn (by first | assumption | decide | omega) ?_ | refine brFn (by first | assumption | decide | omega) ?_ | refine And.intro (vp_in_nI (by omega) (by decide)) ?_ | refine And.intro (vp_lit (by decide)) ?_ | refine divJ (by decide) ?_ | refine divI (by decide) ?_)
          try change _ ∧ _
          exact k1
        · obtain ⟨n, hn⟩ : ∃ n, cB (IB s v x a b) t = n := ⟨_, rfl⟩
          rw [hn] at es N6 N A h6
          have htt : tI s v x a b n = t := fnN_at ht hIB hn
          have ih := ih (wI (wI (wI (wI h' 117 n (nI t)) 118 n (c t)) 119 n (v t)) 65 78 (nI (n + 1))) (by
            unfold ilT
            rw [es]
            refine ⟨(((O.addI (by decide)).addI (by decide)).addI (by decide)).addI (by decide), fun i hi => by rw [wI_ne2 _ _ hi, wI_ne _ _ _ (by decide), wI_ne _ _ _ (by decide), wI_ne _ _ _ (by decide)]; exact X i hi, by omega, wI_same _ _ _ _, fun d hd => ?_⟩
            rw [wI_ne _ _ _ (by decide : (117 : Nat) ≠ 65), wI_ne _ _ _ (by decide : (117 : Nat) ≠ 119), wI_ne _ _ _ (by decide : (117 : Nat) ≠ 118), wI_ne _ _ _ (by decide : (118 : Nat) ≠ 65), wI_ne _ _ _ (by decide : (118 : Nat) ≠ 119), wI_ne _ _ _ (by decide : (119 : Nat) ≠ 65)]
            by_cases e : d = n
            · rw [e, wI_same, wI_same, wI_same, htt]; exact ⟨rfl, rfl, rfl⟩
            · rw [wI_ne2 _ _ e, wI_ne2 _ _ e, wI_ne2 _ _ e, wI_ne _ _ _ (by decide : (118 : Nat) ≠ 117), wI_ne _ _ _ (by decide : (119 : Nat) ≠ 118), wI_ne _ _ _ (by decide : (119 : Nat) ≠ 117)]
              exact A d (by omega))
          have n1 : ∀ z, (wI h' 117 n z).1 65 78 = nI n := fun z => by rw [wI_ne _ _ _ (by decide)]; exact N
          have n2 : ∀ z y, (wI (wI h' 117 n z) 118 n y).1 65 78 = nI n := fun z y => by rw [wI_ne _ _ _ (by decide), wI_ne _ _ _ (by decide)]; exact N
          have n3 : ∀ z y u, (wI (wI (wI h' 117 n z) 118 n y) 119 n u).1 65 78 = nI n := fun z y u => by rw [wI_ne _ _ _ (by decide), wI_ne _ _ _ (by decide), wI_ne _ _ _ (by decide)]; exact N
          have c1 : ∀ z, (wI h' 117 n z).1 110 t = c t := fun z => by rw [wI_ne _ _ _ (by decide)]; exact R'.cts ht
          have c2 : ∀ z y, (wI (wI h' 117 n z) 118 n y).1 111 t = v t := fun z y => by rw [wI_ne _ _ _ (by decide), wI_ne _ _ _ (by decide)]; exact R'.srv ht
          repeat (first | (refine W1 rfl ?_; try refine Wp.norm (L' := [_, _, _, _, _, _, _, _]) rfl ?_) | ((first | change (_ → _) ∧ (_ → _) | change vp_in _ _ ∧ _ | change ¬ _ ∧ _); simp (disch := omega) only [nI_clamp, nI_leI, nI_ltI, nI_eq, nI_1, nI_add, nI_not_neg, nI_is_pos, nI_m1, nI_z, R'.T, R'.srv]) | refine brT (by first | assumption | decide | omega) ?_ | refine brF (by first | assumption | decide | omega) ?_ | refine brTn (by first | assumption | decide | omega) ?_ | refine brFn (by first | assumption | decide | omega) ?_ | refine And.intro (vp_in_nI (by omega) (by decide)) ?_ | refine And.intro (vp_lit (by decide)) ?_ | refine divJ (by decide) ?_ | refine divI (by decide) ?_)
          try change _ ∧ _
          refine Cl.ofA rI (by first | done | rfl | (simp (disch := omega) only [nI_1, nI_add, nI_clamp, R'.day] <;> first | done | rfl)) (by decide) ?_
          iterate 1 (refine W1 rfl ?_; try refine Wp.norm (L' := [_, _, _, _, _, _, _, _]) rfl ?_)
          refine brTn (by decide) ?_
          refine Wp.normS (pc' := 91) (S' := []) rfl rfl rfl ?_
          repeat (first | refine Wp.at ih rfl rfl ?_ ?_ | (refine W1 rfl ?_; try refine Wp.norm (L' := [_, _, _, _, _, _, _, _]) rfl ?_) | ((first | change (_ → _) ∧ (_ → _) | change vp_in _ _ ∧ _ | change ¬ _ ∧ _); simp (disch := omega) only [nI_clamp, nI_leI, nI_ltI, nI_eq, nI_1, nI_add, nI_not_neg, nI_is_pos, nI_m1, nI_z, N, show (6 : Int32) = nI 6 from rfl, n1, n2, n3, c1, c2]) | refine brT (by first | assumption | decide | omega) ?_ | refine brF (by first | assumption | decide | omega) ?_ | refine brTn (by first | assumption | decide | omega) ?_ | refine brFn (by first | assumption | decide | omega) ?_ | refine And.intro (vp_in_nI (by omega) (by decide)) ?_ | refine And.intro (vp_lit (by decide)) ?_ | refine divJ (by decide) ?_ | refine divI (by decide) ?_)
          try change _ ∧ _
          · first | done | rfl | (simp (disch := omega) only [nI_1, nI_add, nI_clamp] <;> first | done | rfl)
          · first | done | rfl | (simp (disch := omega) only [nI_1, nI_add, nI_clamp, N, n1, n2, n3, c1, c2] <;> first | done | rfl)
      · have ih := ih h' (go (by
          cases e : IB s v x a b t with
          | false => rfl
          | true =>
            unfold IB at e
            simp only [Bool.and_eq_true, decide_eq_true_eq] at e
            exact absurd e.1 hin))
        have rI := r_M_isIn h' (nI (tD s t)).toInt64 (nI a).toInt64 (nI b).toInt64
        rw [if_neg (fun z => hin ((isInN (by omega) (by omega) (by omega)).mp z))] at rI
        repeat (first | (refine W1 rfl ?_; try refine Wp.norm (L' := [_, _, _, _, _, _, _, _]) rfl ?_) | ((first | change (_ → _) ∧ (_ → _) | change vp_in _ _ ∧ _ | change ¬ _ ∧ _); simp (disch := omega) only [nI_clamp, nI_leI, nI_ltI, nI_eq, nI_1, nI_add, nI_not_neg, nI_is_pos, nI_m1, nI_z, R'.T, R'.srv]) | refine brT (by first | assumption | decide | omega) ?_ | refine brF (by first | assumption | decide | omega) ?_ | refine brTn (by first | assumption | decide | omega) ?_ | refine brFn (by first | assumption | decide | omega) ?_ | refine And.intro (vp_in_nI (by omega) (by decide)) ?_ | refine And.intro (vp_lit (by decide)) ?_ | refine divJ (by decide) ?_ | refine divI (by decide) ?_)
        try change _ ∧ _
        refine Cl.ofA rI (by first | done | rfl | (simp (disch := omega) only [nI_1, nI_add, nI_clamp, R'.day] <;> first | done | rfl)) (by decide) ?_
        iterate 1 (refine W1 rfl ?_; try refine Wp.norm (L' := [_, _, _, _, _, _, _, _]) rfl ?_)
        refine brFn (by decide) ?_
        refine Wp.normS (pc' := 88) (S' := []) rfl rfl rfl ?_
        repeat (first | refine Wp.at ih rfl rfl ?_ rfl | (refine W1 rfl ?_; try refine Wp.norm (L' := [_, _, _, _, _, _, _, _]) rfl ?_) | ((first | change (_ → _) ∧ (_ → _) | change vp_in _ _ ∧ _ | change ¬ _ ∧ _); simp (disch := omega) only [nI_clamp, nI_leI, nI_ltI, nI_eq, nI_1, nI_add, nI_not_neg, nI_is_pos, nI_m1, nI_z]) | refine brT (by first | assumption | decide | omega) ?_ | refine brF (by first | assumption | decide | omega) ?_ | refine brTn (by first | assumption | decide | omega) ?_ | refine brFn (by first | assumption | decide | omega) ?_ | refine And.intro (vp_in_nI (by omega) (by decide)) ?_ | refine And.intro (vp_lit (by decide)) ?_ | refine divJ (by decide) ?_ | refine divI (by decide) ?_)
        try change _ ∧ _
        first | done | rfl | (simp (disch := omega) only [nI_1, nI_add, nI_clamp] <;> first | done | rfl)
    · have ih := ih h' (go (by
        cases e : IB s v x a b t with
        | false => rfl
        | true =>
          unfold IB at e
          simp only [Bool.and_eq_true, decide_eq_true_eq] at e
          exact absurd e.2 hv))
      (refine W1 rfl ?_; try refine Wp.norm (L' := [_, _, _, _, _, _, _, _]) rfl ?_)
      repeat (first | refine Wp.at ih rfl rfl ?_ rfl | (refine W1 rfl ?_; try refine Wp.norm (L' := [_, _, _, _, _, _, _, _]) rfl ?_) | ((first | change (_ → _) ∧ (_ → _) | change vp_in _ _ ∧ _ | change ¬ _ ∧ _); simp (disch := omega) only [nI_clamp, nI_leI, nI_ltI, nI_eq, nI_1, nI_add, nI_not_neg, nI_is_pos, nI_m1, nI_z, R'.T, R'.srv]) | refine brT (by first | assumption | decide | omega) ?_ | refine brF (by first | assumption | decide | omega) ?_ | refine brTn (by first | assumption | decide | omega) ?_ | refine brFn (by first | assumption | decide | omega) ?_ | refine And.intro (vp_in_nI (by omega) (by decide)) ?_ | refine And.intro (vp_lit (by decide)) ?_ | refine divJ (by decide) ?_ | refine divI (by decide) ?_)
      try change _ ∧ _
      first | done | rfl | (simp (disch := omega) only [nI_1, nI_add, nI_clamp] <;> first | done | rfl)
end ILLA
