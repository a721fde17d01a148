/-! ===== ILL: the model's search, all of it ===== -/
section ILL9
variable {s : ST} {c v : RT} {h hB : HP} {tt : Nat → Nat} {m x : Nat} {bd : Int64} {ch : Nat → Nat}
def msF (hB h' : HP) : Prop := onlyJ [65, 110, 111] [] hB h' ∧ ∀ i, i ≠ 62 → i ≠ 63 → h'.1 65 i = hB.1 65 i
theorem msF.rfl (h : HP) : msF h h := ⟨onlyJ.rfl _ _ h, fun _ _ _ => Eq.refl _⟩
theorem msF.lay {h' : HP} (F : msF hB h') (t : Nat) (x : Int32) : msF hB (layM h' t x) := ⟨(F.1.addI (by decide)).addI (by decide), fun i h1 h2 => by
  show (wI (wI h' 110 t x) 111 t x).1 65 i = _
  rw [wI_ne _ _ _ (by decide), wI_ne _ _ _ (by decide)]; exact F.2 i h1 h2⟩
theorem msF.g {h' h2 : HP} (F : msF hB h') (G : smG h' h2) : msF hB h2 := ⟨F.1.trans (G.1.mono (by intro k hk; simp at hk; subst hk; decide) (by simp)), fun i h1 h3 => by rw [G.2 i h1 h3]; exact F.2 i h1 h3⟩
theorem nI_s1 (n : Nat) : (nI (n + 1) - 1 : Int32) = nI n := by
  have e : nI (n + 1) = nI n + 1 := (nI_1 n).symm
  rw [e, Int32.add_sub_cancel]
theorem goL_skip {cn : Nat → Bool} {nx : Nat → Nat → RS} {w : Nat} (hw : w < 2000) : ∀ g f p, (∀ q, p ≤ q → q < p + g → cn q = false) → goL cn nx (f + g) p w = goL cn nx f (p + g) w
  | 0, f, p, _ => rfl
  | g + 1, f, p, h => by
    show goL cn nx ((f + g) + 1) p w = _
    rw [goL_s, if_neg (by omega), h p (by omega) (by omega), if_neg (by decide), goL_skip hw g f (p + 1) (fun q h1 h2 => h q (by omega) (by omega)), show p + 1 + g = p + (g + 1) by omega]
theorem goL_big {cn : Nat → Bool} {nx : Nat → Nat → RS} {w : Nat} (hw : 2000 ≤ w) (f p : Nat) : goL cn nx f p w = (none, w) := by
  cases f with
  | zero => rfl
  | succ f => rw [goL_s, if_pos hw]
theorem cnd_congr {ch' : Nat → Nat} {k : Nat} (h : ∀ d, d < k → ch d = ch' d) (p : Nat) : cnd s v tt x ch k p = cnd s v tt x ch' k p := by
  unfold cnd
  rw [asg_congr v k h]
theorem w_srS (o : OK s) (T : tOK s tt m v) (ro : RO s c v) (hx : x < zP s) (hN : hB.1 65 78 = nI m) (h7 : ∀ d, d < m → hB.1 117 d = nI (tt d)) (Q : QT) {r k : Nat} (hk : k + (r + 1) = m) (H : ∀ p1 w res h', p1 < zP s → cnd s v tt x ch k p1 = true → w < 2000 → srD s c v tt m x bd r (k + 1) (upN ch k p1) w = res → (res.1 = none → res.2 < 2000 → ∀ h', msF hB h' → RM s (asg tt c (upN ch k p1) (k + 1)) (asg tt v (upN ch k p1) (k + 1)) h' → Wp 5 j_M_searches 6 [.ref 65, .int (nI x), .long bd, .null, .int (nI k), .int (nI res.2)] [] h' Q) → (res.1 = none → 2000 ≤ res.2 → ∀ h' c' v', msF hB h' → RM s c' v' h' → (∀ t, (∀ d, d < m → t ≠ tt d) → c' t = c t ∧ v' t = v t) → Q (some (.int (-3))) h') → (∀ cc, res.1 = some cc → (∀ d, d < m → cc d < zP s) → ∀ h', msF hB h' → RM s (asg tt c cc m) (asg tt v cc m) h' → Q (some (.int (nI m))) h') → msF hB h' → RM s (asg tt c (upN ch k p1) (k + 1)) (asg tt v (upN ch k p1) (k + 1)) h' → Wp 5 j_M_searches 27 [.ref 65, .int (nI x), .long bd, .null, .int (nI k), .int (nI w)] [] h' Q) : ∀ f p w res, p + f = zP s → w < 2000 → goL (cnd s v tt x ch k) (fun p w' => srD s c v tt m x bd r (k + 1) (upN ch k p) w') f p w = res → (res.1 = none → res.2 < 2000 → ∀ h', msF hB h' → RM s (asg tt c ch k) (asg tt v ch k) h' → Wp 5 j_M_searches 6 [.ref 65, .int (nI x), .long bd, .null, .int (nI k + (-1)), .int (nI res.2)] [] h' Q) → (res.1 = none → 2000 ≤ res.2 → ∀ h' c' v', msF hB h' → RM s c' v' h' → (∀ t, (∀ d, d < m → t ≠ tt d) → c' t = c t ∧ v' t = v t) → Q (some (.int (-3))) h') → (∀ cc, res.1 = some cc → (∀ d, d < m → cc d < zP s) → ∀ h', msF hB h' → RM s (asg tt c cc m) (asg tt v cc m) h' → Q (some (.int (nI m))) h') → ∀ h', msF hB h' → RM s (upd (asg tt c ch k) (tt k) (nI p - 1)) (upd (asg tt v ch k) (tt k) (nI p - 1)) h' → Wp 5 j_M_searches 6 [.ref 65, .int (nI x), .long bd, .null, .int (nI k), .int (nI w)] [] h' Q := by
  have hT := o.T; have hP := o.P; have hK := o.K; have hD := o.D; have hO := o.O; have hQ := o.Q; have hL := o.L
  have h6 := T.1
  intro f
  induction f using Nat.strongRecOn with
  | _ f ihf =>
    intro p w res hp hw hres K0 K1 K2 h' F R'
    have tk := (T.2.1 k (by omega)).1
    have vk : ∀ g : RT, upd g (tt k) (nI p - 1) (tt k) + 1 = nI p := fun g => by rw [pk_us, Int32.sub_add_cancel]
    have h7' : h'.1 117 k = nI (tt k) := by rw [F.1.1 117 k (by decide)]; exact h7 k (by omega)
    have N' : h'.1 65 78 = nI m := by rw [F.2 78 (by decide) (by decide)]; exact hN
    have ho : asg tt v ch k (tt k) = -1 := by
      rw [asg_o v ch k (tt k) (fun d hd => by have := T.2.2 d k hd (by omega); omega)]
      exact (T.2.1 k (by omega)).2
    have hoc : asg tt c ch k (tt k) = -1 := by
      rw [asg_o c ch k (tt k) (fun d hd => by have := T.2.2 d k hd (by omega); omega)]
      rcases ro (tt k) tk with z | ⟨p', q', _, hq', _, z⟩
      · exact z.1
      · rw [(T.2.1 k (by omega)).2] at z
        exact absurd z (fun z => (nI_m1' (by omega)).mp z)
    have e1 : upd (upd (asg tt v ch k) (tt k) (nI p - 1)) (tt k) (-1) = asg tt v ch k := by
      funext t
      by_cases e : t = tt k
      · subst e; rw [pk_us, ho]
      · rw [pk_un e, pk_un e]
    have e2 : upd (upd (asg tt c ch k) (tt k) (nI p - 1)) (tt k) (-1) = asg tt c ch k := by
      funext t
      by_cases e : t = tt k
      · subst e; rw [pk_us, hoc]
      · rw [pk_un e, pk_un e]
    have R1 := R'.lay (tt k) (-1)
    obtain ⟨p1, a1, a2, a3, a4, a5⟩ := w_M_goesNext (x := x) R' o tk (by omega) h7' (show p ≤ zP s by omega) hx (vk _)
    rw [e1] at a3 a5
    rw [e1, e2] at R1
    have skip : goL (cnd s v tt x ch k) (fun p w' => srD s c v tt m x bd r (k + 1) (upN ch k p) w') (zP s - p1) p1 w = res := by
      rw [← hres, show f = (zP s - p1) + (p1 - p) by omega, goL_skip hw (p1 - p) _ p (fun q h1 h2 => by
        have := a3 q h1 (by omega)
        unfold cnd
        cases z : (decide (q < zP s) && decide (q ≠ x) && decide (bIf s (asg tt v ch k) (tt k) q = 0)) with
        | false => rfl
        | true =>
          simp only [Bool.and_eq_true, decide_eq_true_eq] at z
          exact absurd ⟨z.1.2, z.2⟩ this), show p + (p1 - p) = p1 by omega]
    by_cases hp1 : p1 = zP s
    · have r1 := a4 hp1
      rw [hp1, Nat.sub_self] at skip
      have ih := K0 (by rw [← skip]; rfl) (by rw [← skip]; exact hw) _ (F.lay (tt k) (-1)) R1
      rw [← skip] at ih
      have ih : Wp 5 j_M_searches 6 [.ref 65, .int (nI x), .long bd, .null, .int (nI k + (-1)), .int (nI w)] [] (layM h' (tt k) (-1)) Q := ih
      repeat (first | (refine W1 rfl ?_; try refine Wp.norm (L' := [_, _, _, _, _, _]) rfl ?_) | ((first | change (_ → _) ∧ (_ → _) | change vp_in _ _ ∧ _ | change ¬ _ ∧ _); simp (disch := omega) only [nI_clamp, nI_leI, nI_ltI, nI_eq, nI_1, nI_add, nI_not_neg, nI_is_pos, nI_m1, nI_z]) | refine brT (by first | assumption | decide | omega) ?_ | refine brF (by first | assumption | decide | omega) ?_ | refine brTn (by first | assumption | decide | omega) ?_ | refine brFn (by first | assumption | decide | omega) ?_ | refine And.intro (vp_in_nI (by omega) (by decide)) ?_ | refine And.intro (vp_lit (by decide)) ?_ | refine divJ (by decide) ?_ | refine divI (by decide) ?_)
      try change _ ∧ _
      refine Cl.of r1 (by decide) ?_
      repeat (first | refine Wp.at ih rfl rfl ?_ rfl | (refine W1 rfl ?_; try refine Wp.norm (L' := [_, _, _, _, _, _]) rfl ?_) | ((first | change (_ → _) ∧ (_ → _) | change vp_in _ _ ∧ _ | change ¬ _ ∧ _); simp (disch := omega) only [nI_clamp, nI_leI, nI_ltI, nI_eq, nI_1, nI_add, nI_not_neg, nI_is_pos, nI_m1, nI_z]) | refine brT (by first | assumption | decide | omega) ?_ | refine brF (by first | assumption | decide | omega) ?_ | refine brTn (by first | assumption | decide | omega) ?_ | refine brFn (by first | assumption | decide | omega) ?_ | refine And.intro (vp_in_nI (by omega) (by decide)) ?_ | refine And.intro (vp_lit (by decide)) ?_ | refine divJ (by decide) ?_ | refine divI (by decide) ?_)
      try change _ ∧ _
      first | done | rfl | (simp (disch := omega) only [nI_1, nI_add, nI_clamp] <;> first | done | rfl)
    · obtain ⟨b1, b2, r1⟩ := a5 (by omega)
      have eA : ∀ g : RT, upd (upd (upd (asg tt g ch k) (tt k) (nI p - 1)) (tt k) (-1)) (tt k) (nI p1) = asg tt g (upN ch k p1) (k + 1) := fun g => by
        funext t
        show _ = upd (asg tt g (upN ch k p1) k) (tt k) (nI (upN ch k p1 k)) t
        rw [upN_k, asg_congr g k (fun d hd => upN_o ch p1 (by omega))]
        by_cases e : t = tt k
        · subst e; rw [pk_us, pk_us]
        · rw [pk_un e, pk_un e, pk_un e, pk_un e]
      have R2 := (R'.lay (tt k) (-1)).lay (tt k) (nI p1)
      rw [eA, eA] at R2
      have F2 := (F.lay (tt k) (-1)).lay (tt k) (nI p1)
      have hcn : cnd s v tt x ch k p1 = true := by
        unfold cnd
        simp only [Bool.and_eq_true, decide_eq_true_eq]
        exact ⟨⟨by omega, b1⟩, b2⟩
      rw [show zP s - p1 = (zP s - p1 - 1) + 1 by omega, goL_s, if_neg (by omega), if_pos hcn] at skip
      have ih := H p1 w _ _ (by omega) hcn hw rfl (fun z1 z2 h3 F3 R3 => by
        rw [if_pos z1] at skip
        refine ihf (zP s - p1 - 1) (by omega) (p1 + 1) _ res (by omega) z2 skip K0 K1 K2 h3 F3 ?_
        have e3 : (nI (p1 + 1) - 1 : Int32) = nI p1 := nI_s1 p1
        rw [e3]
        refine R3.cg (fun t _ => ?_) (fun t _ => ?_)
        · rw [← eA c, e2]
        · rw [← eA v, e1]) (fun z1 z2 h3 c' v' F3 R3 X => by
        rw [if_pos z1, goL_big z2] at skip
        exact K1 (by rw [← skip]) (by rw [← skip]; exact z2) h3 c' v' F3 R3 X) (fun cc z hcc h3 F3 R3 => by
        rw [if_neg (by rw [z]; simp)] at skip
        exact K2 cc (by rw [← skip]; exact z) hcc h3 F3 R3) F2 R2
      repeat (first | (refine W1 rfl ?_; try refine Wp.norm (L' := [_, _, _, _, _, _]) rfl ?_) | ((first | change (_ → _) ∧ (_ → _) | change vp_in _ _ ∧ _ | change ¬ _ ∧ _); simp (disch := omega) only [nI_clamp, nI_leI, nI_ltI, nI_eq, nI_1, nI_add, nI_not_neg, nI_is_pos, nI_m1, nI_z]) | refine brT (by first | assumption | decide | omega) ?_ | refine brF (by first | assumption | decide | omega) ?_ | refine brTn (by first | assumption | decide | omega) ?_ | refine brFn (by first | assumption | decide | omega) ?_ | refine And.intro (vp_in_nI (by omega) (by decide)) ?_ | refine And.intro (vp_lit (by decide)) ?_ | refine divJ (by decide) ?_ | refine divI (by decide) ?_)
      try change _ ∧ _
      refine Cl.of r1 (by decide) ?_
      repeat (first | refine Wp.at ih rfl rfl ?_ rfl | (refine W1 rfl ?_; try refine Wp.norm (L' := [_, _, _, _, _, _]) rfl ?_) | ((first | change (_ → _) ∧ (_ → _) | change vp_in _ _ ∧ _ | change ¬ _ ∧ _); simp (disch := omega) only [nI_clamp, nI_leI, nI_ltI, nI_eq, nI_1, nI_add, nI_not_neg, nI_is_pos, nI_m1, nI_z]) | refine brT (by first | assumption | decide | omega) ?_ | refine brF (by first | assumption | decide | omega) ?_ | refine brTn (by first | assumption | decide | omega) ?_ | refine brFn (by first | assumption | decide | omega) ?_ | refine And.intro (vp_in_nI (by omega) (by decide)) ?_ | refine And.intro (vp_lit (by decide)) ?_ | refine divJ (by decide) ?_ | refine divI (by decide) ?_)
      try change _ ∧ _
      first | done | rfl | (simp (disch := omega) only [nI_1, nI_add, nI_clamp] <;> first | done | rfl)
theorem w_srM (o : OK s) (T : tOK s tt m v) (ro : RO s c v) (hx : x < zP s) (hN : hB.1 65 78 = nI m) (h7 : ∀ d, d < m → hB.1 117 d = nI (tt d)) (Q : QT) : ∀ r k ch, k + (r + 1) = m → (∀ d, d < k → ch d < zP s ∧ cnd s v tt x ch d (ch d) = true) → ∀ f p w res, p + f = zP s → w < 2000 → goL (cnd s v tt x ch k) (fun p w' => srD s c v tt m x bd r (k + 1) (upN ch k p) w') f p w = res → (res.1 = none → res.2 < 2000 → ∀ h', msF hB h' → RM s (asg tt c ch k) (asg tt v ch k) h' → Wp 5 j_M_searches 6 [.ref 65, .int (nI x), .long bd, .null, .int (nI k + (-1)), .int (nI res.2)] [] h' Q) → (res.1 = none → 2000 ≤ res.2 → ∀ h' c' v', msF hB h' → RM s c' v' h' → (∀ t, (∀ d, d < m → t ≠ tt d) → c' t = c t ∧ v' t = v t) → Q (some (.int (-3))) h') → (∀ cc, res.1 = some cc → (∀ d, d < m → cc d < zP s) → ∀ h', msF hB h' → RM s (asg tt c cc m) (asg tt v cc m) h' → Q (some (.int (nI m))) h') → ∀ h', msF hB h' → RM s (upd (asg tt c ch k) (tt k) (nI p - 1)) (upd (asg tt v ch k) (tt k) (nI p - 1)) h' → Wp 5 j_M_searches 6 [.ref 65, .int (nI x), .long bd, .null, .int (nI k), .int (nI w)] [] h' Q := by
  have hT := o.T; have hP := o.P; have hK := o.K; have hD := o.D; have hO := o.O; have hQ := o.Q; have hL := o.L
  have h6 := T.1
  intro r
  induction r with
  | zero =>
    intro k ch hk hc
    refine w_srS o T ro hx hN h7 Q hk (fun p1 w res h' hp1 hcn hw hres K0 K1 K2 F R' => ?_)
    have N' : h'.1 65 78 = nI m := by rw [F.2 78 (by decide) (by decide)]; exact hN
    have hc' : ∀ d, d < m → upN ch k p1 d < zP s ∧ cnd s v tt x (upN ch k p1) d (upN ch k p1 d) = true := fun d hd => by
      by_cases e : d = k
      · subst e
        rw [upN_k]
        exact ⟨hp1, by rw [← cnd_congr (fun d' hd' => (upN_o ch p1 (by omega)).symm)]; exact hcn⟩
      · rw [upN_o ch p1 e]
        have := hc d (by omega)
        exact ⟨this.1, by rw [← cnd_congr (fun d' hd' => (upN_o ch p1 (by omega)).symm)]; exact this.2⟩
    have hkm : k + 1 = m := hk
    rw [hkm] at R' K0
    have ro' : RO s (asg tt c (upN ch k p1) m) (asg tt v (upN ch k p1) m) := RO.asg (m := m) ro tt m (fun d hd => (hc' d hd).1)
    have rA := r_M_areLaid (tt := tt) (m := m) R' o ro' h6 N' (fun d hd => ⟨by rw [F.1.1 117 d (by decide)]; exact h7 d hd, (T.2.1 d hd).1⟩) (fun d hd => by
      have z := leaf o T hc' hd m (by omega) (Nat.le_refl _)
      have z2 := asg_at T v (upN ch k p1) m d hd (Nat.le_refl _)
      have z3 := (hc' d hd).1
      unfold bOf
      rw [z2, if_neg (fun w => (nI_m1 (by omega)).mp w), nI_clamp (by omega), if_pos z]
      split
      · exact Or.inr rfl
      · exact Or.inl rfl)
    obtain ⟨h2, rW, G⟩ := r_M_worst2 R' o
    have F2 := F.g G
    have R2 : RM s (asg tt c (upN ch k p1) m) (asg tt v (upN ch k p1) m) h2 := R'.same G.same
    have N2 : h2.1 65 78 = nI m := by rw [F2.2 78 (by decide) (by decide)]; exact hN
    have hm1 : (nI m - 1 : Int32) = nI k := by rw [← hkm]; exact nI_s1 k
    have hfit : fitB s c tt m bd (upN ch k p1) = decide (¬ bd < (wsk s (asg tt c (upN ch k p1) m) (zK s)).1) := rfl
    have hsr : res = if fitB s c tt m bd (upN ch k p1) = true then (some (upN ch k p1), w + 1) else (none, w + 1) := hres.symm
    rw [hfit] at hsr
    generalize hW : (wsk s (asg tt c (upN ch k p1) m) (zK s)).1 = W at *
    by_cases q : bd < W
    · rw [if_neg (by simp [q])] at hsr
      subst hsr
      by_cases q2 : w + 1 = 2000
      · repeat (first | (refine W1 rfl ?_; try refine Wp.norm (L' := [_, _, _, _, _, _]) rfl ?_) | ((first | change (_ → _) ∧ (_ → _) | change vp_in _ _ ∧ _ | change ¬ _ ∧ _); simp (disch := omega) only [nI_clamp, nI_leI, nI_ltI, nI_eq, nI_1, nI_add, nI_not_neg, nI_is_pos, nI_m1, nI_z, N', hm1]) | refine brT (by first | assumption | decide | omega) ?_ | refine brF (by first | assumption | decide | omega) ?_ | refine brTn (by first | assumption | decide | omega) ?_ | refine brFn (by first | assumption | decide | omega) ?_ | refine And.intro (vp_in_nI (by omega) (by decide)) ?_ | refine And.intro (vp_lit (by decide)) ?_ | refine divJ (by decide) ?_ | refine divI (by decide) ?_)
        try change _ ∧ _
        refine Cl.of rA (by decide) ?_
        repeat (first | (refine W1 rfl ?_; try refine Wp.norm (L' := [_, _, _, _, _, _]) rfl ?_) | ((first | change (_ → _) ∧ (_ → _) | change vp_in _ _ ∧ _ | change ¬ _ ∧ _); simp (disch := omega) only [nI_clamp, nI_leI, nI_ltI, nI_eq, nI_1, nI_add, nI_not_neg, nI_is_pos, nI_m1, nI_z]) | refine brT (by first | assumption | decide | omega) ?_ | refine brF (by first | assumption | decide | omega) ?_ | refine brTn (by first | assumption | decide | omega) ?_ | refine brFn (by first | assumption | decide | omega) ?_ | refine And.intro (vp_in_nI (by omega) (by decide)) ?_ | refine And.intro (vp_lit (by decide)) ?_ | refine divJ (by decide) ?_ | refine divI (by decide) ?_)
        try change _ ∧ _
        refine Cl.of rW (by decide) ?_
        repeat (first | (refine W1 rfl ?_; try refine Wp.norm (L' := [_, _, _, _, _, _]) rfl ?_) | ((first | change (_ → _) ∧ (_ → _) | change vp_in _ _ ∧ _ | change ¬ _ ∧ _); simp (disch := omega) only [nI_clamp, nI_leI, nI_ltI, nI_eq, nI_1, nI_add, nI_not_neg, nI_is_pos, nI_m1, nI_z]) | refine brT (by first | assumption | decide | omega) ?_ | refine brF (by first | assumption | decide | omega) ?_ | refine brTn (by first | assumption | decide | omega) ?_ | refine brFn (by first | assumption | decide | omega) ?_ | refine And.intro (vp_in_nI (by omega) (by decide)) ?_ | refine And.intro (vp_lit (by decide)) ?_ | refine divJ (by decide) ?_ | refine divI (by decide) ?_)
        try change _ ∧ _
        rw [lgc_gt]
        refine brT q ?_
        repeat (first | (refine W1 rfl ?_; try refine Wp.norm (L' := [_, _, _, _, _, _]) rfl ?_) | ((first | change (_ → _) ∧ (_ → _) | change vp_in _ _ ∧ _ | change ¬ _ ∧ _); simp (disch := omega) only [nI_clamp, nI_leI, nI_ltI, nI_eq, nI_1, nI_add, nI_not_neg, nI_is_pos, nI_m1, nI_z, show (2000 : Int32) = nI 2000 from rfl]) | refine brT (by first | assumption | decide | omega) ?_ | refine brF (by first | assumption | decide | omega) ?_ | refine brTn (by first | assumption | decide | omega) ?_ | refine brFn (by first | assumption | decide | omega) ?_ | refine And.intro (vp_in_nI (by omega) (by decide)) ?_ | refine And.intro (vp_lit (by decide)) ?_ | refine divJ (by decide) ?_ | refine divI (by decide) ?_)
        try change _ ∧ _
        exact K1 rfl (by show 2000 ≤ w + 1; omega) h2 _ _ F2 R2 (fun t ht => ⟨asg_o c _ m t ht, asg_o v _ m t ht⟩)
      · have ih : Wp 5 j_M_searches 6 [.ref 65, .int (nI x), .long bd, .null, .int (nI k), .int (nI (w + 1))] [] h2 Q := K0 rfl (by show w + 1 < 2000; omega) h2 F2 R2
        repeat (first | (refine W1 rfl ?_; try refine Wp.norm (L' := [_, _, _, _, _, _]) rfl ?_) | ((first | change (_ → _) ∧ (_ → _) | change vp_in _ _ ∧ _ | change ¬ _ ∧ _); simp (disch := omega) only [nI_clamp, nI_leI, nI_ltI, nI_eq, nI_1, nI_add, nI_not_neg, nI_is_pos, nI_m1, nI_z, N', hm1]) | refine brT (by first | assumption | decide | omega) ?_ | refine brF (by first | assumption | decide | omega) ?_ | refine brTn (by first | assumption | decide | omega) ?_ | refine brFn (by first | assumption | decide | omega) ?_ | refine And.intro (vp_in_nI (by omega) (by decide)) ?_ | refine And.intro (vp_lit (by decide)) ?_ | refine divJ (by decide) ?_ | refine divI (by decide) ?_)
        try change _ ∧ _
        refine Cl.of rA (by decide) ?_
        repeat (first | (refine W1 rfl ?_; try refine Wp.norm (L' := [_, _, _, _, _, _]) rfl ?_) | ((first | change (_ → _) ∧ (_ → _) | change vp_in _ _ ∧ _ | change ¬ _ ∧ _); simp (disch := omega) only [nI_clamp, nI_leI, nI_ltI, nI_eq, nI_1, nI_add, nI_not_neg, nI_is_pos, nI_m1, nI_z]) | refine brT (by first | assumption | decide | omega) ?_ | refine brF (by first | assumption | decide | omega) ?_ | refine brTn (by first | assumption | decide | omega) ?_ | refine brFn (by first | assumption | decide | omega) ?_ | refine And.intro (vp_in_nI (by omega) (by decide)) ?_ | refine And.intro (vp_lit (by decide)) ?_ | refine divJ (by decide) ?_ | refine divI (by decide) ?_)
        try change _ ∧ _
        refine Cl.of rW (by decide) ?_
        repeat (first | (refine W1 rfl ?_; try refine Wp.norm (L' := [_, _, _, _, _, _]) rfl ?_) | ((first | change (_ → _) ∧ (_ → _) | change vp_in _ _ ∧ _ | change ¬ _ ∧ _); simp (disch := omega) only [nI_clamp, nI_leI, nI_ltI, nI_eq, nI_1, nI_add, nI_not_neg, nI_is_pos, nI_m1, nI_z]) | refine brT (by first | assumption | decide | omega) ?_ | refine brF (by first | assumption | decide | omega) ?_ | refine brTn (by first | assumption | decide | omega) ?_ | refine brFn (by first | assumption | decide | omega) ?_ | refine And.intro (vp_in_nI (by omega) (by decide)) ?_ | refine And.intro (vp_lit (by decide)) ?_ | refine divJ (by decide) ?_ | refine divI (by decide) ?_)
        try change _ ∧ _
        rw [lgc_gt]
        refine brT q ?_
        repeat (first | refine Wp.at ih rfl rfl ?_ rfl | (refine W1 rfl ?_; try refine Wp.norm (L' := [_, _, _, _, _, _]) rfl ?_) | ((first | change (_ → _) ∧ (_ → _) | change vp_in _ _ ∧ _ | change ¬ _ ∧ _); simp (disch := omega) only [nI_clamp, nI_leI, nI_ltI, nI_eq, nI_1, nI_add, nI_not_neg, nI_is_pos, nI_m1, nI_z, show (2000 : Int32) = nI 2000 from rfl]) | refine brT (by first | assumption | decide | omega) ?_ | refine brF (by first | assumption | decide | omega) ?_ | refine brTn (by first | assumption | decide | omega) ?_ | refine brFn (by first | assumption | decide | omega) ?_ | refine And.intro (vp_in_nI (by omega) (by decide)) ?_ | refine And.intro (vp_lit (by decide)) ?_ | refine divJ (by decide) ?_ | refine divI (by decide) ?_)
        try change _ ∧ _
        first | done | rfl | (simp (disch := omega) only [nI_1, nI_add, nI_clamp] <;> first | done | rfl)
    · rw [if_pos (by simp [q])] at hsr
      subst hsr
      repeat (first | (refine W1 rfl ?_; try refine Wp.norm (L' := [_, _, _, _, _, _]) rfl ?_) | ((first | change (_ → _) ∧ (_ → _) | change vp_in _ _ ∧ _ | change ¬ _ ∧ _); simp (disch := omega) only [nI_clamp, nI_leI, nI_ltI, nI_eq, nI_1, nI_add, nI_not_neg, nI_is_pos, nI_m1, nI_z, N', hm1]) | refine brT (by first | assumption | decide | omega) ?_ | refine brF (by first | assumption | decide | omega) ?_ | refine brTn (by first | assumption | decide | omega) ?_ | refine brFn (by first | assumption | decide | omega) ?_ | refine And.intro (vp_in_nI (by omega) (by decide)) ?_ | refine And.intro (vp_lit (by decide)) ?_ | refine divJ (by decide) ?_ | refine divI (by decide) ?_)
      try change _ ∧ _
      refine Cl.of rA (by decide) ?_
      repeat (first | (refine W1 rfl ?_; try refine Wp.norm (L' := [_, _, _, _, _, _]) rfl ?_) | ((first | change (_ → _) ∧ (_ → _) | change vp_in _ _ ∧ _ | change ¬ _ ∧ _); simp (disch := omega) only [nI_clamp, nI_leI, nI_ltI, nI_eq, nI_1, nI_add, nI_not_neg, nI_is_pos, nI_m1, nI_z]) | refine brT (by first | assumption | decide | omega) ?_ | refine brF (by first | assumption | decide | omega) ?_ | refine brTn (by first | assumption | decide | omega) ?_ | refine brFn (by first | assumption | decide | omega) ?_ | refine And.intro (vp_in_nI (by omega) (by decide)) ?_ | refine And.intro (vp_lit (by decide)) ?_ | refine divJ (by decide) ?_ | refine divI (by decide) ?_)
      try change _ ∧ _
      refine Cl.of rW (by decide) ?_
      repeat (first | (refine W1 rfl ?_; try refine Wp.norm (L' := [_, _, _, _, _, _]) rfl ?_) | ((first | change (_ → _) ∧ (_ → _) | change vp_in _ _ ∧ _ | change ¬ _ ∧ _); simp (disch := omega) only [nI_clamp, nI_leI, nI_ltI, nI_eq, nI_1, nI_add, nI_not_neg, nI_is_pos, nI_m1, nI_z]) | refine brT (by first | assumption | decide | omega) ?_ | refine brF (by first | assumption | decide | omega) ?_ | refine brTn (by first | assumption | decide | omega) ?_ | refine brFn (by first | assumption | decide | omega) ?_ | refine And.intro (vp_in_nI (by omega) (by decide)) ?_ | refine And.intro (vp_lit (by decide)) ?_ | refine divJ (by decide) ?_ | refine divI (by decide) ?_)
      try change _ ∧ _
      rw [lgc_gt]
      refine brF q ?_
      repeat (first | (refine W1 rfl ?_; try refine Wp.norm (L' := [_, _, _, _, _, _]) rfl ?_) | ((first | change (_ → _) ∧ (_ → _) | change vp_in _ _ ∧ _ | change ¬ _ ∧ _); simp (disch := omega) only [nI_clamp, nI_leI, nI_ltI, nI_eq, nI_1, nI_add, nI_not_neg, nI_is_pos, nI_m1, nI_z]) | refine brT (by first | assumption | decide | omega) ?_ | refine brF (by first | assumption | decide | omega) ?_ | refine brTn (by first | assumption | decide | omega) ?_ | refine brFn (by first | assumption | decide | omega) ?_ | refine And.intro (vp_in_nI (by omega) (by decide)) ?_ | refine And.intro (vp_lit (by decide)) ?_ | refine divJ (by decide) ?_ | refine divI (by decide) ?_)
      try change _ ∧ _
      rw [N2]
      exact K2 _ rfl (fun d hd => (hc' d hd).1) h2 F2 R2
  | succ r ihr =>
    intro k ch hk hc
    refine w_srS o T ro hx hN h7 Q hk (fun p1 w res h' hp1 hcn hw hres K0 K1 K2 F R' => ?_)
    have N' : h'.1 65 78 = nI m := by rw [F.2 78 (by decide) (by decide)]; exact hN
    have hc' : ∀ d, d < k + 1 → upN ch k p1 d < zP s ∧ cnd s v tt x (upN ch k p1) d (upN ch k p1 d) = true := fun d hd => by
      by_cases e : d = k
      · subst e
        rw [upN_k]
        exact ⟨hp1, by rw [← cnd_congr (fun d' hd' => (upN_o ch p1 (by omega)).symm)]; exact hcn⟩
      · rw [upN_o ch p1 e]
        have := hc d (by omega)
        exact ⟨this.1, by rw [← cnd_congr (fun d' hd' => (upN_o ch p1 (by omega)).symm)]; exact this.2⟩
    have tk := T.2.1 (k + 1) (by omega)
    have hoo : ∀ g : RT, asg tt g (upN ch k p1) (k + 1) (tt (k + 1)) = g (tt (k + 1)) := fun g => asg_o g _ (k + 1) _ (fun d hd => by have := T.2.2 d (k + 1) hd (by omega); omega)
    have ck : c (tt (k + 1)) = -1 := by
      rcases ro _ tk.1 with z | ⟨p', q', _, hq', _, z⟩
      · exact z.1
      · rw [tk.2] at z
        exact absurd z (fun z => (nI_m1' (by omega)).mp z)
    have e0 : ∀ g : RT, g (tt (k + 1)) = -1 → ∀ t, asg tt g (upN ch k p1) (k + 1) t = upd (asg tt g (upN ch k p1) (k + 1)) (tt (k + 1)) (nI 0 - 1) t := fun g hg t => by
      by_cases e : t = tt (k + 1)
      · subst e; rw [pk_us, hoo, hg]; rfl
      · rw [pk_un e]
    have ih := ihr (k + 1) (upN ch k p1) (by omega) hc' (zP s) 0 w res (by omega) hw hres (fun z1 z2 h3 F3 R3 => by
      have e3 : (nI (k + 1) + (-1) : Int32) = nI k := by rw [show (-1 : Int32) = -(1 : Int32) from rfl, ← Int32.sub_eq_add_neg]; exact nI_s1 k
      rw [e3]
      exact K0 z1 z2 h3 F3 R3) K1 K2 h' F (R'.cg (fun t _ => e0 c ck t) (fun t _ => e0 v tk.2 t))
    have hm1 : (nI m - 1 : Int32) = nI (m - 1) := by rw [show m = m - 1 + 1 by omega]; exact nI_s1 _
    repeat (first | refine Wp.at ih rfl rfl ?_ rfl | (refine W1 rfl ?_; try refine Wp.norm (L' := [_, _, _, _, _, _]) rfl ?_) | ((first | change (_ → _) ∧ (_ → _) | change vp_in _ _ ∧ _ | change ¬ _ ∧ _); simp (disch := omega) only [nI_clamp, nI_leI, nI_ltI, nI_eq, nI_1, nI_add, nI_not_neg, nI_is_pos, nI_m1, nI_z, N', hm1]) | refine brT (by first | assumption | decide | omega) ?_ | refine brF (by first | assumption | decide | omega) ?_ | refine brTn (by first | assumption | decide | omega) ?_ | refine brFn (by first | assumption | decide | omega) ?_ | refine And.intro (vp_in_nI (by omega) (by decide)) ?_ | refine And.intro (vp_lit (by decide)) ?_ | refine divJ (by decide) ?_ | refine divI (by decide) ?_)
    try change _ ∧ _
    first | done | rfl | (simp (disch := omega) only [nI_1, nI_add, nI_clamp] <;> first | done | rfl)
end ILL9
