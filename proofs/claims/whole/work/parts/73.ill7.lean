/-! ===== ILL: the model's search ===== -/
section ILL8
variable {s : ST} {c v : RT} {h : HP} {tt : Nat → Nat} {m x : Nat} {bd : Int64} {ch : Nat → Nat}
theorem w_M_goesNext (R : RM s c v h) (o : OK s) {t k p : Nat} (ht : t < zT s) (hk : k < 6) (h7 : h.1 117 k = nI t) (hp : p ≤ zP s) (hx : x < zP s) (hv : v t + 1 = nI p) : ∃ p1, p ≤ p1 ∧ p1 ≤ zP s ∧ (∀ q, p ≤ q → q < p1 → ¬ (q ≠ x ∧ bIf s (upd v t (-1)) t q = 0)) ∧ (p1 = zP s → Run 2 j_M_goesNext [.ref 65, .int (nI k), .int (nI x)] h (some (.int 0)) (layM h t (-1))) ∧ (p1 < zP s → p1 ≠ x ∧ bIf s (upd v t (-1)) t p1 = 0 ∧ Run 2 j_M_goesNext [.ref 65, .int (nI k), .int (nI x)] h (some (.int 1)) (layM (layM h t (-1)) t (nI p1))) := by
  have hT := o.T; have hP := o.P; have hK := o.K; have hD := o.D; have hO := o.O; have hQ := o.Q; have hL := o.L
  have R1 := R.lay t (-1)
  have ex : ∀ f p, p + f = zP s → ∃ p1, p ≤ p1 ∧ p1 ≤ zP s ∧ (∀ q, p ≤ q → q < p1 → ¬ (q ≠ x ∧ bIf s (upd v t (-1)) t q = 0)) ∧ (p1 < zP s → p1 ≠ x ∧ bIf s (upd v t (-1)) t p1 = 0) := by
    intro f
    induction f with
    | zero => intro p hp; exact ⟨p, by omega, by omega, fun q h1 h2 => absurd h2 (by omega), fun z => absurd z (by omega)⟩
    | succ f ih =>
      intro p hp
      by_cases z : p ≠ x ∧ bIf s (upd v t (-1)) t p = 0
      · exact ⟨p, by omega, by omega, fun q h1 h2 => absurd h2 (by omega), fun _ => z⟩
      · obtain ⟨p1, a1, a2, a3, a4⟩ := ih (p + 1) (by omega)
        refine ⟨p1, by omega, a2, fun q h1 h2 => ?_, a4⟩
        by_cases e : q = p
        · subst e; exact z
        · exact a3 q (by omega) h2
  obtain ⟨p1, a1, a2, a3, a4⟩ := ex (zP s - p) p (by omega)
  have lp : ∀ Q : QT, Wp 2 j_M_goesNext 56 [.ref 65, .int (nI k), .int (nI x), .int (nI t), .int (nI p1)] [] (layM h t (-1)) Q → ∀ q, q ≤ p1 → p ≤ q → Wp 2 j_M_goesNext 23 [.ref 65, .int (nI k), .int (nI x), .int (nI t), .int (nI q)] [] (layM h t (-1)) Q := by
    intro Q ih0
    refine up_ind ?_ (fun q hq ih => ?_)
    · intro _
      have ih := ih0
      by_cases e : p1 = zP s
      · (refine W1 rfl ?_; try refine Wp.norm (L' := [_, _, _, _, _]) rfl ?_)
        repeat (first | refine Wp.at ih rfl rfl ?_ rfl | (refine W1 rfl ?_; try refine Wp.norm (L' := [_, _, _, _, _]) rfl ?_) | ((first | change (_ → _) ∧ (_ → _) | change vp_in _ _ ∧ _ | change ¬ _ ∧ _); simp (disch := omega) only [nI_clamp, nI_leI, nI_ltI, nI_eq, nI_1, nI_add, nI_not_neg, nI_is_pos, nI_m1, nI_z, show Int32.toNatClampNeg 1 = 1 from rfl, R1.P, e]) | refine brT (by first | assumption | decide | omega) ?_ | refine brF (by first | assumption | decide | omega) ?_ | refine brTn (by first | assumption | decide | omega) ?_ | refine brFn (by first | assumption | decide | omega) ?_ | refine And.intro (vp_in_nI (by omega) (by decide)) ?_ | refine And.intro (vp_lit (by decide)) ?_ | refine divJ (by decide) ?_ | refine divI (by decide) ?_)
        try change _ ∧ _
        rw [← e]
        first | done | rfl | (simp (disch := omega) only [nI_1, nI_add, nI_clamp] <;> first | done | rfl)
      · have z := a4 (by omega)
        have zx := z.1
        have zb := z.2
        repeat (first | (refine W1 rfl ?_; try refine Wp.norm (L' := [_, _, _, _, _]) rfl ?_) | ((first | change (_ → _) ∧ (_ → _) | change vp_in _ _ ∧ _ | change ¬ _ ∧ _); simp (disch := omega) only [nI_clamp, nI_leI, nI_ltI, nI_eq, nI_1, nI_add, nI_not_neg, nI_is_pos, nI_m1, nI_z, show Int32.toNatClampNeg 1 = 1 from rfl, R1.P]) | refine brT (by first | assumption | decide | omega) ?_ | refine brF (by first | assumption | decide | omega) ?_ | refine brTn (by first | assumption | decide | omega) ?_ | refine brFn (by first | assumption | decide | omega) ?_ | refine And.intro (vp_in_nI (by omega) (by decide)) ?_ | refine And.intro (vp_lit (by decide)) ?_ | refine divJ (by decide) ?_ | refine divI (by decide) ?_)
        try change _ ∧ _
        refine Cl.of (r_M_barIf R1 o (p := p1) (by omega) ht) (by decide) ?_
        rw [zb]
        repeat (first | refine Wp.at ih rfl rfl ?_ rfl | (refine W1 rfl ?_; try refine Wp.norm (L' := [_, _, _, _, _]) rfl ?_) | ((first | change (_ → _) ∧ (_ → _) | change vp_in _ _ ∧ _ | change ¬ _ ∧ _); simp (disch := omega) only [nI_clamp, nI_leI, nI_ltI, nI_eq, nI_1, nI_add, nI_not_neg, nI_is_pos, nI_m1, nI_z]) | refine brT (by first | assumption | decide | omega) ?_ | refine brF (by first | assumption | decide | omega) ?_ | refine brTn (by first | assumption | decide | omega) ?_ | refine brFn (by first | assumption | decide | omega) ?_ | refine And.intro (vp_in_nI (by omega) (by decide)) ?_ | refine And.intro (vp_lit (by decide)) ?_ | refine divJ (by decide) ?_ | refine divI (by decide) ?_)
        try change _ ∧ _
        first | done | rfl | (simp (disch := omega) only [nI_1, nI_add, nI_clamp] <;> first | done | rfl)
    · intro hq2
      have z := a3 q hq2 hq
      have ih := ih (by omega)
      by_cases e : q = x
      · subst e
        (refine W1 rfl ?_; try refine Wp.norm (L' := [_, _, _, _, _]) rfl ?_)
        repeat (first | refine Wp.at ih rfl rfl ?_ rfl | (refine W1 rfl ?_; try refine Wp.norm (L' := [_, _, _, _, _]) rfl ?_) | ((first | change (_ → _) ∧ (_ → _) | change vp_in _ _ ∧ _ | change ¬ _ ∧ _); simp (disch := omega) only [nI_clamp, nI_leI, nI_ltI, nI_eq, nI_1, nI_add, nI_not_neg, nI_is_pos, nI_m1, nI_z, show Int32.toNatClampNeg 1 = 1 from rfl, R1.P]) | refine brT (by first | assumption | decide | omega) ?_ | refine brF (by first | assumption | decide | omega) ?_ | refine brTn (by first | assumption | decide | omega) ?_ | refine brFn (by first | assumption | decide | omega) ?_ | refine And.intro (vp_in_nI (by omega) (by decide)) ?_ | refine And.intro (vp_lit (by decide)) ?_ | refine divJ (by decide) ?_ | refine divI (by decide) ?_)
        try change _ ∧ _
        first | done | rfl | (simp (disch := omega) only [nI_1, nI_add, nI_clamp] <;> first | done | rfl)
      · have zb : ¬ bIf s (upd v t (-1)) t q = 0 := fun w => z ⟨e, w⟩
        have z5 := bIf5 (s := s) (v := upd v t (-1)) t q
        repeat (first | (refine W1 rfl ?_; try refine Wp.norm (L' := [_, _, _, _, _]) rfl ?_) | ((first | change (_ → _) ∧ (_ → _) | change vp_in _ _ ∧ _ | change ¬ _ ∧ _); simp (disch := omega) only [nI_clamp, nI_leI, nI_ltI, nI_eq, nI_1, nI_add, nI_not_neg, nI_is_pos, nI_m1, nI_z, show Int32.toNatClampNeg 1 = 1 from rfl, R1.P]) | refine brT (by first | assumption | decide | omega) ?_ | refine brF (by first | assumption | decide | omega) ?_ | refine brTn (by first | assumption | decide | omega) ?_ | refine brFn (by first | assumption | decide | omega) ?_ | refine And.intro (vp_in_nI (by omega) (by decide)) ?_ | refine And.intro (vp_lit (by decide)) ?_ | refine divJ (by decide) ?_ | refine divI (by decide) ?_)
        try change _ ∧ _
        refine Cl.of (r_M_barIf R1 o (p := q) (by omega) ht) (by decide) ?_
        generalize bIf s (upd v t (-1)) t q = bb at *
        repeat (first | refine Wp.at ih rfl rfl ?_ rfl | (refine W1 rfl ?_; try refine Wp.norm (L' := [_, _, _, _, _]) rfl ?_) | ((first | change (_ → _) ∧ (_ → _) | change vp_in _ _ ∧ _ | change ¬ _ ∧ _); simp (disch := omega) only [nI_clamp, nI_leI, nI_ltI, nI_eq, nI_1, nI_add, nI_not_neg, nI_is_pos, nI_m1, nI_z]) | refine brT (by first | assumption | decide | omega) ?_ | refine brF (by first | assumption | decide | omega) ?_ | refine brTn (by first | assumption | decide | omega) ?_ | refine brFn (by first | assumption | decide | omega) ?_ | refine And.intro (vp_in_nI (by omega) (by decide)) ?_ | refine And.intro (vp_lit (by decide)) ?_ | refine divJ (by decide) ?_ | refine divI (by decide) ?_)
        try change _ ∧ _
        first | done | rfl | (simp (disch := omega) only [nI_1, nI_add, nI_clamp] <;> first | done | rfl)
  refine ⟨p1, a1, a2, a3, fun e => ?_, fun e => ⟨(a4 e).1, (a4 e).2, ?_⟩⟩
  · refine Run.of rfl ?_
    refine Wp.norm (L' := [_, _, _, _, _]) rfl ?_
    refine Wp.norm (L' := [_, _, _, _, _]) rfl ?_
    have ih := lp (fun v2 h2 => v2 = some (.int 0) ∧ h2 = layM h t (-1)) (by
      repeat (first | (refine W1 rfl ?_; try refine Wp.norm (L' := [_, _, _, _, _]) rfl ?_) | ((first | change (_ → _) ∧ (_ → _) | change vp_in _ _ ∧ _ | change ¬ _ ∧ _); simp (disch := omega) only [nI_clamp, nI_leI, nI_ltI, nI_eq, nI_1, nI_add, nI_not_neg, nI_is_pos, nI_m1, nI_z, show Int32.toNatClampNeg 1 = 1 from rfl, R1.P]) | refine brT (by first | assumption | decide | omega) ?_ | refine brF (by first | assumption | decide | omega) ?_ | refine brTn (by first | assumption | decide | omega) ?_ | refine brFn (by first | assumption | decide | omega) ?_ | refine And.intro (vp_in_nI (by omega) (by decide)) ?_ | refine And.intro (vp_lit (by decide)) ?_ | refine divJ (by decide) ?_ | refine divI (by decide) ?_)
      try change _ ∧ _
      try first | exact ⟨rfl, rfl⟩ | exact ⟨Or.inr rfl, rfl, rfl⟩ | exact ⟨Or.inl rfl, rfl, rfl⟩ | exact ⟨trivial, trivial⟩ | exact ⟨rfl, trivial⟩ | exact ⟨Or.inr rfl, rfl, trivial⟩ | exact ⟨Or.inl rfl, rfl, trivial⟩) p a1 (Nat.le_refl _)
    repeat (first | (refine W1 rfl ?_; try refine Wp.norm (L' := [_, _, _, _, _]) rfl ?_) | ((first | change (_ → _) ∧ (_ → _) | change vp_in _ _ ∧ _ | change ¬ _ ∧ _); simp (disch := omega) only [nI_clamp, nI_leI, nI_ltI, nI_eq, nI_1, nI_add, nI_not_neg, nI_is_pos, nI_m1, nI_z, h7, R.srv ht, hv]) | refine brT (by first | assumption | decide | omega) ?_ | refine brF (by first | assumption | decide | omega) ?_ | refine brTn (by first | assumption | decide | omega) ?_ | refine brFn (by first | assumption | decide | omega) ?_ | refine And.intro (vp_in_nI (by omega) (by decide)) ?_ | refine And.intro (vp_lit (by decide)) ?_ | refine divJ (by decide) ?_ | refine divI (by decide) ?_)
    try change _ ∧ _
    refine Cl.ofA (r_M_laysFor (t := t) (-1) (by omega)) (by first | done | rfl | (simp (disch := omega) only [nI_1, nI_add, nI_clamp, h7] <;> first | done | rfl)) (by decide) ?_
    repeat (first | refine Wp.at ih rfl rfl ?_ rfl | (refine W1 rfl ?_; try refine Wp.norm (L' := [_, _, _, _, _]) rfl ?_) | ((first | change (_ → _) ∧ (_ → _) | change vp_in _ _ ∧ _ | change ¬ _ ∧ _); simp (disch := omega) only [nI_clamp, nI_leI, nI_ltI, nI_eq, nI_1, nI_add, nI_not_neg, nI_is_pos, nI_m1, nI_z]) | refine brT (by first | assumption | decide | omega) ?_ | refine brF (by first | assumption | decide | omega) ?_ | refine brTn (by first | assumption | decide | omega) ?_ | refine brFn (by first | assumption | decide | omega) ?_ | refine And.intro (vp_in_nI (by omega) (by decide)) ?_ | refine And.intro (vp_lit (by decide)) ?_ | refine divJ (by decide) ?_ | refine divI (by decide) ?_)
    try change _ ∧ _
    first | done | rfl | (simp (disch := omega) only [nI_1, nI_add, nI_clamp, h7, R.srv ht, hv] <;> first | done | rfl)
  · have e1 : p1 < zP s := e
    refine Run.of rfl ?_
    refine Wp.norm (L' := [_, _, _, _, _]) rfl ?_
    refine Wp.norm (L' := [_, _, _, _, _]) rfl ?_
    have ih := lp (fun v2 h2 => v2 = some (.int 1) ∧ h2 = layM (layM h t (-1)) t (nI p1)) (by
      repeat (first | (refine W1 rfl ?_; try refine Wp.norm (L' := [_, _, _, _, _]) rfl ?_) | ((first | change (_ → _) ∧ (_ → _) | change vp_in _ _ ∧ _ | change ¬ _ ∧ _); simp (disch := omega) only [nI_clamp, nI_leI, nI_ltI, nI_eq, nI_1, nI_add, nI_not_neg, nI_is_pos, nI_m1, nI_z, show Int32.toNatClampNeg 1 = 1 from rfl, R1.P]) | refine brT (by first | assumption | decide | omega) ?_ | refine brF (by first | assumption | decide | omega) ?_ | refine brTn (by first | assumption | decide | omega) ?_ | refine brFn (by first | assumption | decide | omega) ?_ | refine And.intro (vp_in_nI (by omega) (by decide)) ?_ | refine And.intro (vp_lit (by decide)) ?_ | refine divJ (by decide) ?_ | refine divI (by decide) ?_)
      try change _ ∧ _
      refine Cl.of (r_M_laysFor (t := t) (nI p1) (by omega)) (by decide) ?_
      repeat (first | (refine W1 rfl ?_; try refine Wp.norm (L' := [_, _, _, _, _]) rfl ?_) | ((first | change (_ → _) ∧ (_ → _) | change vp_in _ _ ∧ _ | change ¬ _ ∧ _); simp (disch := omega) only [nI_clamp, nI_leI, nI_ltI, nI_eq, nI_1, nI_add, nI_not_neg, nI_is_pos, nI_m1, nI_z]) | refine brT (by first | assumption | decide | omega) ?_ | refine brF (by first | assumption | decide | omega) ?_ | refine brTn (by first | assumption | decide | omega) ?_ | refine brFn (by first | assumption | decide | omega) ?_ | refine And.intro (vp_in_nI (by omega) (by decide)) ?_ | refine And.intro (vp_lit (by decide)) ?_ | refine divJ (by decide) ?_ | refine divI (by decide) ?_)
      try change _ ∧ _
      try first | exact ⟨rfl, rfl⟩ | exact ⟨Or.inr rfl, rfl, rfl⟩ | exact ⟨Or.inl rfl, rfl, rfl⟩ | exact ⟨trivial, trivial⟩ | exact ⟨rfl, trivial⟩ | exact ⟨Or.inr rfl, rfl, trivial⟩ | exact ⟨Or.inl rfl, rfl, trivial⟩) p a1 (Nat.le_refl _)
    repeat (first | (refine W1 rfl ?_; try refine Wp.norm (L' := [_, _, _, _, _]) rfl ?_) | ((first | change (_ → _) ∧ (_ → _) | change vp_in _ _ ∧ _ | change ¬ _ ∧ _); simp (disch := omega) only [nI_clamp, nI_leI, nI_ltI, nI_eq, nI_1, nI_add, nI_not_neg, nI_is_pos, nI_m1, nI_z, h7, R.srv ht, hv]) | refine brT (by first | assumption | decide | omega) ?_ | refine brF (by first | assumption | decide | omega) ?_ | refine brTn (by first | assumption | decide | omega) ?_ | refine brFn (by first | assumption | decide | omega) ?_ | refine And.intro (vp_in_nI (by omega) (by decide)) ?_ | refine And.intro (vp_lit (by decide)) ?_ | refine divJ (by decide) ?_ | refine divI (by decide) ?_)
    try change _ ∧ _
    refine Cl.ofA (r_M_laysFor (t := t) (-1) (by omega)) (by first | done | rfl | (simp (disch := omega) only [nI_1, nI_add, nI_clamp, h7] <;> first | done | rfl)) (by decide) ?_
    repeat (first | refine Wp.at ih rfl rfl ?_ rfl | (refine W1 rfl ?_; try refine Wp.norm (L' := [_, _, _, _, _]) rfl ?_) | ((first | change (_ → _) ∧ (_ → _) | change vp_in _ _ ∧ _ | change ¬ _ ∧ _); simp (disch := omega) only [nI_clamp, nI_leI, nI_ltI, nI_eq, nI_1, nI_add, nI_not_neg, nI_is_pos, nI_m1, nI_z]) | refine brT (by first | assumption | decide | omega) ?_ | refine brF (by first | assumption | decide | omega) ?_ | refine brTn (by first | assumption | decide | omega) ?_ | refine brFn (by first | assumption | decide | omega) ?_ | refine And.intro (vp_in_nI (by omega) (by decide)) ?_ | refine And.intro (vp_lit (by decide)) ?_ | refine divJ (by decide) ?_ | refine divI (by decide) ?_)
    try change _ ∧ _
    first | done | rfl | (simp (disch := omega) only [nI_1, nI_add, nI_clamp, h7, R.srv ht, hv] <;> first | done | rfl)
/-- one open turn not ahead gets somebody -/
theorem bif_gt (o : OK s) {u t p q : Nat} (hu : u < zT s) (ht : t < zT s) (hut : t ≤ u) (hp : p < zP s) (hq : q < zP s) (H : u ≠ t → tD s u = tD s t → q ≠ p ∧ (pA s p).testBit q = false) (h0 : bIf s v t p = 0) : bIf s (upd v u (nI q)) t p = 0 := by
  have hP := o.P
  have hT := o.T
  have hd := o.up hut hu
  have eo : ∀ r, r < zP s → oth s (upd v u (nI q)) r t = true → oth s v r t = true ∨ (u ≠ t ∧ tD s u = tD s t ∧ q = r) := by
    intro r hr
    rw [svo_iff, svo_iff]
    rintro ⟨w, a1, a2, a3, a4⟩
    by_cases e : w = u
    · subst e
      rw [pk_us, nI_eq (by omega) (by omega)] at a4
      rw [nI_eq (by omega) (by omega)] at a2
      exact Or.inr ⟨a2, a3, a4⟩
    · rw [pk_un e] at a4
      exact Or.inl ⟨w, a1, a2, a3, a4⟩
  rw [bIf_zero] at h0 ⊢
  obtain ⟨h1, h2, h3, h4⟩ := h0
  have f1 : ∀ b : Bool, b = false ↔ ¬ b = true := fun b => by cases b <;> simp
  rw [f1] at h2 h3 h4
  refine ⟨h1, (f1 _).mpr (fun z => ?_), (f1 _).mpr (fun z => ?_), (f1 _).mpr (fun z => ?_)⟩
  · rcases eo p hp z with w | ⟨w1, w2, w3⟩
    · exact h2 w
    · exact (H w1 w2).1 w3
  · unfold rsB at z h3
    rw [anyB_iff] at z h3
    simp only [Bool.and_eq_true, decide_eq_true_eq] at z h3
    obtain ⟨w, a1, ⟨a2, a3⟩, a4⟩ := z
    by_cases e : w = u
    · subst e; omega
    · rw [pk_un e] at a3
      exact h3 ⟨w, a1, ⟨a2, a3⟩, a4⟩
  · unfold apB at z h4
    rw [anyB_iff] at z h4
    simp only [Bool.and_eq_true] at z h4
    obtain ⟨r, a1, a2, a3⟩ := z
    rcases eo r a1 a3 with w | ⟨w1, w2, w3⟩
    · exact h4 ⟨r, a1, a2, w⟩
    · subst w3
      rw [(H w1 w2).2] at a2
      cases a2
theorem leaf (o : OK s) (T : tOK s tt m v) (H : ∀ d, d < m → ch d < zP s ∧ cnd s v tt x ch d (ch d) = true) {d : Nat} (hd : d < m) : ∀ k, d ≤ k → k ≤ m → bIf s (asg tt v ch k) (tt d) (ch d) = 0 := by
  have hT := o.T
  have hP := o.P
  have C : ∀ e, e < m → bIf s (asg tt v ch e) (tt e) (ch e) = 0 := fun e he => by
    have := (H e he).2
    unfold cnd at this
    simp only [Bool.and_eq_true, decide_eq_true_eq] at this
    exact this.2
  intro k
  induction k with
  | zero => intro h1 _; have e : d = 0 := by omega
            subst e; exact C 0 hd
  | succ k ih =>
    intro h1 h2
    by_cases e : d = k + 1
    · rw [← e]; exact C d hd
    · have i1 := ih (by omega) (by omega)
      show bIf s (upd (asg tt v ch k) (tt k) (nI (ch k))) (tt d) (ch d) = 0
      have tk := (T.2.1 k (by omega)).1
      have td := (T.2.1 d hd).1
      have hle : tt d ≤ tt k := by
        by_cases e2 : d = k
        · rw [e2]; omega
        · have := T.2.2 d k (by omega) (by omega); omega
      refine bif_gt o tk td hle (H d hd).1 (H k (by omega)).1 (fun z1 z2 => ?_) i1
      have hdk : d < k := by
        by_cases e2 : d = k
        · rw [e2] at z1; exact absurd rfl z1
        · omega
      have ck := C k (by omega)
      rw [bIf_zero] at ck
      have od : oth s (asg tt v ch k) (ch d) (tt k) = true := by
        rw [svo_iff]
        exact ⟨tt d, td, by rw [nI_eq (by omega) (by omega)]; exact fun z => z1 z.symm, z2.symm, asg_at T v ch k d hdk (by omega)⟩
      refine ⟨fun z => ?_, ?_⟩
      · rw [z, od] at ck; exact absurd ck.2.1 (by decide)
      · cases e3 : (pA s (ch d)).testBit (ch k) with
        | false => rfl
        | true =>
          have : apB s (asg tt v ch k) (ch k) (tt k) = true := by
            unfold apB
            rw [anyB_iff]
            exact ⟨ch d, (H d hd).1, by rw [pA_symm o (H k (by omega)).1 (H d hd).1, e3, od]; rfl⟩
          rw [this] at ck; exact absurd ck.2.2.2 (by decide)
theorem r_M_areLaid (R : RM s c v h) (o : OK s) (ro : RO s c v) (h6 : m ≤ 6) (hN : h.1 65 78 = nI m) (hT7 : ∀ d, d < m → h.1 117 d = nI (tt d) ∧ tt d < zT s) (H : ∀ d, d < m → bOf s v (tt d) = 0 ∨ bOf s v (tt d) = 6) : Run 3 j_M_areLaid [.ref 65] h (some (.int 1)) h := by
  have hT := o.T; have hP := o.P; have hK := o.K; have hD := o.D; have hO := o.O; have hQ := o.Q; have hL := o.L
  refine Run.of rfl ?_
  refine Wp.norm (L' := [_, _, _]) rfl ?_
  have lp : ∀ n, n ≤ m → ∀ x2, Wp 3 j_M_areLaid 2 [.ref 65, .int (nI n), x2] [] h (fun v2 h2 => v2 = some (.int 1) ∧ h2 = h) := by
    refine up_ind ?_ (fun n hn ih => ?_)
    · intro x2
      repeat (first | (refine W1 rfl ?_; try refine Wp.norm (L' := [_, _, _]) rfl ?_) | ((first | change (_ → _) ∧ (_ → _) | change vp_in _ _ ∧ _ | change ¬ _ ∧ _); simp (disch := omega) only [nI_clamp, nI_leI, nI_ltI, nI_eq, nI_1, nI_add, nI_not_neg, nI_is_pos, nI_m1, nI_z, hN]) | refine brT (by first | assumption | decide | omega) ?_ | refine brF (by first | assumption | decide | omega) ?_ | refine brTn (by first | assumption | decide | omega) ?_ | refine brFn (by first | assumption | decide | omega) ?_ | refine And.intro (vp_in_nI (by omega) (by decide)) ?_ | refine And.intro (vp_lit (by decide)) ?_ | refine divJ (by decide) ?_ | refine divI (by decide) ?_)
      try change _ ∧ _
      try first | exact ⟨rfl, rfl⟩ | exact ⟨Or.inr rfl, rfl, rfl⟩ | exact ⟨Or.inl rfl, rfl, rfl⟩ | exact ⟨trivial, trivial⟩ | exact ⟨rfl, trivial⟩ | exact ⟨Or.inr rfl, rfl, trivial⟩ | exact ⟨Or.inl rfl, rfl, trivial⟩
    · intro x2
      have t' := (hT7 n hn).1
      repeat (first | (refine W1 rfl ?_; try refine Wp.norm (L' := [_, _, _]) rfl ?_) | ((first | change (_ → _) ∧ (_ → _) | change vp_in _ _ ∧ _ | change ¬ _ ∧ _); simp (disch := omega) only [nI_clamp, nI_leI, nI_ltI, nI_eq, nI_1, nI_add, nI_not_neg, nI_is_pos, nI_m1, nI_z, hN]) | refine brT (by first | assumption | decide | omega) ?_ | refine brF (by first | assumption | decide | omega) ?_ | refine brTn (by first | assumption | decide | omega) ?_ | refine brFn (by first | assumption | decide | omega) ?_ | refine And.intro (vp_in_nI (by omega) (by decide)) ?_ | refine And.intro (vp_lit (by decide)) ?_ | refine divJ (by decide) ?_ | refine divI (by decide) ?_)
      try change _ ∧ _
      refine Cl.ofA (r_M_barOf R o ro (hT7 n hn).2) (by first | done | rfl | (simp (disch := omega) only [nI_1, nI_add, nI_clamp, t'] <;> first | done | rfl)) (by decide) ?_
      rcases H n hn with z | z
      · rw [z]
        have ih := ih (.int (nI 0))
        repeat (first | refine Wp.at ih rfl rfl ?_ rfl | (refine W1 rfl ?_; try refine Wp.norm (L' := [_, _, _]) rfl ?_) | ((first | change (_ → _) ∧ (_ → _) | change vp_in _ _ ∧ _ | change ¬ _ ∧ _); simp (disch := omega) only [nI_clamp, nI_leI, nI_ltI, nI_eq, nI_1, nI_add, nI_not_neg, nI_is_pos, nI_m1, nI_z]) | refine brT (by first | assumption | decide | omega) ?_ | refine brF (by first | assumption | decide | omega) ?_ | refine brTn (by first | assumption | decide | omega) ?_ | refine brFn (by first | assumption | decide | omega) ?_ | refine And.intro (vp_in_nI (by omega) (by decide)) ?_ | refine And.intro (vp_lit (by decide)) ?_ | refine divJ (by decide) ?_ | refine divI (by decide) ?_)
        try change _ ∧ _
        first | done | rfl | (simp (disch := omega) only [nI_1, nI_add, nI_clamp] <;> first | done | rfl)
      · rw [z]
        have ih := ih (.int (nI 6))
        repeat (first | refine Wp.at ih rfl rfl ?_ rfl | (refine W1 rfl ?_; try refine Wp.norm (L' := [_, _, _]) rfl ?_) | ((first | change (_ → _) ∧ (_ → _) | change vp_in _ _ ∧ _ | change ¬ _ ∧ _); simp (disch := omega) only [nI_clamp, nI_leI, nI_ltI, nI_eq, nI_1, nI_add, nI_not_neg, nI_is_pos, nI_m1, nI_z]) | refine brT (by first | assumption | decide | omega) ?_ | refine brF (by first | assumption | decide | omega) ?_ | refine brTn (by first | assumption | decide | omega) ?_ | refine brFn (by first | assumption | decide | omega) ?_ | refine And.intro (vp_in_nI (by omega) (by decide)) ?_ | refine And.intro (vp_lit (by decide)) ?_ | refine divJ (by decide) ?_ | refine divI (by decide) ?_)
        try change _ ∧ _
        first | done | rfl | (simp (disch := omega) only [nI_1, nI_add, nI_clamp] <;> first | done | rfl)
  have ih := lp 0 (by omega) .null
  repeat (first | refine Wp.at ih rfl rfl ?_ rfl | (refine W1 rfl ?_; try refine Wp.norm (L' := [_, _, _]) rfl ?_) | ((first | change (_ → _) ∧ (_ → _) | change vp_in _ _ ∧ _ | change ¬ _ ∧ _); simp (disch := omega) only [nI_clamp, nI_leI, nI_ltI, nI_eq, nI_1, nI_add, nI_not_neg, nI_is_pos, nI_m1, nI_z]) | refine brT (by first | assumption | decide | omega) ?_ | refine brF (by first | assumption | decide | omega) ?_ | refine brTn (by first | assumption | decide | omega) ?_ | refine brFn (by first | assumption | decide | omega) ?_ | refine And.intro (vp_in_nI (by omega) (by decide)) ?_ | refine And.intro (vp_lit (by decide)) ?_ | refine divJ (by decide) ?_ | refine divI (by decide) ?_)
  try change _ ∧ _
  first | done | rfl | (simp (disch := omega) only [nI_1, nI_add, nI_clamp] <;> first | done | rfl)
end ILL8
