/-! ===== SWAPS: the search, the class's side ===== -/
def ebB (c : RT) (i j : Nat) : Bool := decide (¬ c i = -1) && decide (¬ c j = -1) && decide (¬ c j = c i)
/-- along j: 3 none, 0 stopped, 2 better; where; tries left -/
def pjS (s : ST) (c v : RT) (i : Nat) : Nat → Nat → Nat → Nat × Nat × Nat
  | 0, j, l => (3, j, l)
  | k + 1, j, l => if ebB c i j = true then (if l = 0 then (0, j, 0) else if btr s c v i j = true then (2, j, l - 1) else pjS s c v i k (j + 1) (l - 1)) else pjS s c v i k (j + 1) l
def piS (s : ST) (c v : RT) : Nat → Nat → Nat → Nat × Nat × Nat × Nat
  | 0, i, l => (1, i, 0, l)
  | k + 1, i, l => if (pjS s c v i k (i + 1) l).1 = 3 then piS s c v k (i + 1) (pjS s c v i k (i + 1) l).2.2 else ((pjS s c v i k (i + 1) l).1, i, (pjS s c v i k (i + 1) l).2.1, (pjS s c v i k (i + 1) l).2.2)
def rSw (r : Nat × Nat × Nat × Nat) (f : RT) : RT := if r.1 = 2 then swp f r.2.1 r.2.2.1 else f
section SW5
variable {s : ST} {c v : RT} {h : HP}
theorem pj_0 (i j l : Nat) : pjS s c v i 0 j l = (3, j, l) := rfl
theorem pj_no {i j l : Nat} (k : Nat) (h : ebB c i j = false) : pjS s c v i (k + 1) j l = pjS s c v i k (j + 1) l := if_neg (by rw [h]; decide)
theorem pj_st {i j : Nat} (k : Nat) (h : ebB c i j = true) : pjS s c v i (k + 1) j 0 = (0, j, 0) := by
  show (if _ then _ else _) = _
  rw [if_pos h]
  rfl
theorem pj_be {i j l : Nat} (k : Nat) (h : ebB c i j = true) (hl : ¬ l = 0) (hb : btr s c v i j = true) : pjS s c v i (k + 1) j l = (2, j, l - 1) := by
  show (if _ then _ else _) = _
  rw [if_pos h, if_neg hl, if_pos hb]
theorem pj_nb {i j l : Nat} (k : Nat) (h : ebB c i j = true) (hl : ¬ l = 0) (hb : btr s c v i j = false) : pjS s c v i (k + 1) j l = pjS s c v i k (j + 1) (l - 1) := by
  show (if _ then _ else _) = _
  rw [if_pos h, if_neg hl, if_neg (by rw [hb]; decide)]
theorem pj_open {i : Nat} (h : c i = -1) : ∀ k j l, (pjS s c v i k j l).1 = 3 ∧ (pjS s c v i k j l).2.2 = l
  | 0, _, _ => ⟨rfl, rfl⟩
  | k + 1, j, l => by
    rw [pj_no k (by unfold ebB; simp [h])]
    exact pj_open h k (j + 1) l
theorem pi_s (k i l : Nat) : piS s c v (k + 1) i l = if (pjS s c v i k (i + 1) l).1 = 3 then piS s c v k (i + 1) (pjS s c v i k (i + 1) l).2.2 else ((pjS s c v i k (i + 1) l).1, i, (pjS s c v i k (i + 1) l).2.1, (pjS s c v i k (i + 1) l).2.2) := rfl
theorem pj_bd : ∀ k i j l, (pjS s c v i k j l).2.2 ≤ l ∧ ((pjS s c v i k j l).1 = 2 → j ≤ (pjS s c v i k j l).2.1 ∧ (pjS s c v i k j l).2.1 < j + k ∧ (pjS s c v i k j l).2.2 < l) ∧ (pjS s c v i k j l).1 ≤ 3
  | 0, i, j, l => ⟨Nat.le_refl _, fun z => absurd z (by show ¬ 3 = 2; decide), Nat.le_refl _⟩
  | k + 1, i, j, l => by
    cases he : ebB c i j with
    | false =>
      rw [pj_no k he]
      have := pj_bd k i (j + 1) l
      exact ⟨this.1, fun z => by have := this.2.1 z; omega, this.2.2⟩
    | true =>
      by_cases hl : l = 0
      · subst hl
        rw [pj_st k he]
        exact ⟨Nat.le_refl _, fun z => absurd z (by show ¬ 0 = 2; decide), by show 0 ≤ 3; decide⟩
      · cases hb : btr s c v i j with
        | true =>
          rw [pj_be k he hl hb]
          exact ⟨by show l - 1 ≤ l; omega, fun _ => ⟨Nat.le_refl _, by show j < j + (k + 1); omega, by show l - 1 < l; omega⟩, by show 2 ≤ 3; decide⟩
        | false =>
          rw [pj_nb k he hl hb]
          have := pj_bd k i (j + 1) (l - 1)
          exact ⟨by omega, fun z => by have := this.2.1 z; omega, this.2.2⟩
theorem pi_bd : ∀ k i l, (piS s c v k i l).2.2.2 ≤ l ∧ ((piS s c v k i l).1 = 2 → (piS s c v k i l).2.1 < (piS s c v k i l).2.2.1 ∧ (piS s c v k i l).2.2.1 < i + k ∧ (piS s c v k i l).2.2.2 < l) ∧ (piS s c v k i l).1 ≤ 2
  | 0, i, l => ⟨Nat.le_refl _, fun z => absurd z (by show ¬ 1 = 2; decide), by show 1 ≤ 2; decide⟩
  | k + 1, i, l => by
    have hj := pj_bd (s := s) (c := c) (v := v) k i (i + 1) l
    rw [pi_s]
    by_cases h3 : (pjS s c v i k (i + 1) l).1 = 3
    · rw [if_pos h3]
      have := pi_bd k (i + 1) (pjS s c v i k (i + 1) l).2.2
      exact ⟨by omega, fun z => by have := this.2.1 z; omega, this.2.2⟩
    · rw [if_neg h3]
      refine ⟨hj.1, fun z => ?_, by show (pjS s c v i k (i + 1) l).1 ≤ 2; omega⟩
      have := hj.2.1 z
      exact ⟨by show i < (pjS s c v i k (i + 1) l).2.1; omega, by show (pjS s c v i k (i + 1) l).2.1 < _; omega, this.2.2⟩
/-- where the search writes -/
def swF (h h' : HP) : Prop := onlyJ [46, 47, 54] [] h h' ∧ ∀ i, i ≠ 7 → h'.1 54 i = h.1 54 i
theorem swF.rfl (h : HP) : swF h h := ⟨onlyJ.rfl _ _ h, fun _ _ => Eq.refl _⟩
theorem swF.trans {a b c : HP} (A : swF a b) (B : swF b c) : swF a c := ⟨A.1.trans B.1, fun i hi => (B.2 i hi).trans (A.2 i hi)⟩
theorem swF.left {h h' : HP} {x : Int32} (H : swF h h') : swF h (wI h' 54 7 x) := ⟨H.1.addI (by decide), fun i hi => by rw [wI_ne2 _ _ hi]; exact H.2 i hi⟩
theorem swF.ex {h h' : HP} (H : onlyJ [46, 47] [] h h') : swF h h' := ⟨H.mono (by intro k hk; simp at hk; rcases hk with hk | hk <;> (subst hk; decide)) (by simp), fun i _ => H.1 54 i (by decide)⟩
theorem msd.f {h h' : HP} (F : swF h h') (M : msd s c v h) : msd s c v h' := ⟨fun t ht => by rw [F.1.1 55 t (by decide)]; exact M.1 t ht, fun p k hp hk => by rw [F.1.2 56 _ (by simp)]; exact M.2.1 p k hp hk, by rw [F.1.2 54 6 (by simp)]; exact M.2.2⟩
theorem w_goOver (R : RC s c v h) (o : OK s) (ro : RO s c v) (M : msd s c v h) {l : Nat} (hl : l ≤ 1000) (hLf : h.1 54 7 = nI l) : ∃ w h', Run 5 j_Swapper_goOverPairs [.ref 54] h w h' ∧ (w = some (.int (nI (piS s c v (zT s) 0 l).1)) ∧ h'.1 54 7 = nI (piS s c v (zT s) 0 l).2.2.2 ∧ RC s (rSw (piS s c v (zT s) 0 l) c) (rSw (piS s c v (zT s) 0 l) v) h' ∧ swF h h') := by
  have hT := o.T; have hP := o.P; have hK := o.K; have hD := o.D; have hO := o.O; have hQ := o.Q; have hL := o.L
  refine Run.ofP rfl ?_
  refine Wp.norm (L' := [_, _, _, _, _]) rfl ?_
  obtain ⟨r, hr⟩ : ∃ r, piS s c v (zT s) 0 l = r := ⟨_, rfl⟩
  rw [hr]
  have lp : ∀ i, i ≤ zT s → ∀ l' h' x2 x3 x4, l' ≤ 1000 → piS s c v (zT s - i) i l' = r → RC s c v h' → swF h h' → h'.1 54 7 = nI l' → Wp 5 j_Swapper_goOverPairs 2 [.ref 54, .int (nI i), x2, x3, x4] [] h' (fun w h' => w = some (.int (nI r.1)) ∧ h'.1 54 7 = nI r.2.2.2 ∧ RC s (rSw r c) (rSw r v) h' ∧ swF h h') := by
    refine up_ind ?_ (fun i hi ih => ?_)
    · intro l' h' x2 x3 x4 hl' hr' R' F L
      rw [Nat.sub_self] at hr'
      repeat (first | (refine W1 rfl ?_; try refine Wp.norm (L' := [_, _, _, _, _]) rfl ?_) | ((first | change (_ → _) ∧ (_ → _) | change vp_in _ _ ∧ _ | change ¬ _ ∧ _); simp (disch := omega) only [nI_clamp, nI_leI, nI_ltI, nI_eq, nI_1, nI_add, nI_not_neg, nI_is_pos, nI_m1, nI_z, R'.T]) | refine brT (by first | assumption | decide | omega) ?_ | refine brF (by first | assumption | decide | omega) ?_ | refine brTn (by first | assumption | decide | omega) ?_ | refine brFn (by first | assumption | decide | omega) ?_ | refine And.intro (vp_in_nI (by omega) (by decide)) ?_ | refine And.intro (vp_lit (by decide)) ?_ | refine divJ (by decide) ?_ | refine divI (by decide) ?_)
      try change _ ∧ _
      rw [← hr']
      exact ⟨rfl, L, R', F⟩
    · intro l' h' x2 x3 x4 hl' hr' R' F L
      rw [show zT s - i = zT s - (i + 1) + 1 by omega, pi_s] at hr'
      by_cases hop : c i = -1
      · have ho := pj_open (s := s) (v := v) hop (zT s - (i + 1)) (i + 1) l'
        rw [if_pos ho.1, ho.2] at hr'
        have ih := ih l' h' (.int (c i)) (.int (nI (i + 1))) x4 hl' hr' R' F L
        (refine W1 rfl ?_; try refine Wp.norm (L' := [_, _, _, _, _]) rfl ?_)
        repeat (first | refine Wp.at ih rfl rfl ?_ rfl | (refine W1 rfl ?_; try refine Wp.norm (L' := [_, _, _, _, _]) rfl ?_) | ((first | change (_ → _) ∧ (_ → _) | change vp_in _ _ ∧ _ | change ¬ _ ∧ _); simp (disch := omega) only [nI_clamp, nI_leI, nI_ltI, nI_eq, nI_1, nI_add, nI_not_neg, nI_is_pos, nI_m1, nI_z, R'.T, R'.cts]) | refine brT (by first | assumption | decide | omega) ?_ | refine brF (by first | assumption | decide | omega) ?_ | refine brTn (by first | assumption | decide | omega) ?_ | refine brFn (by first | assumption | decide | omega) ?_ | refine And.intro (vp_in_nI (by omega) (by decide)) ?_ | refine And.intro (vp_lit (by decide)) ?_ | refine divJ (by decide) ?_ | refine divI (by decide) ?_)
        try change _ ∧ _
        first | done | rfl | (simp (disch := omega) only [nI_1, nI_add, nI_clamp, R'.cts] <;> first | done | rfl)
      · have inner : ∀ j, j ≤ zT s → i + 1 ≤ j → ∀ l' h' x4, l' ≤ 1000 → (if (pjS s c v i (zT s - j) j l').1 = 3 then piS s c v (zT s - (i + 1)) (i + 1) (pjS s c v i (zT s - j) j l').2.2 else ((pjS s c v i (zT s - j) j l').1, i, (pjS s c v i (zT s - j) j l').2.1, (pjS s c v i (zT s - j) j l').2.2)) = r → RC s c v h' → swF h h' → h'.1 54 7 = nI l' → Wp 5 j_Swapper_goOverPairs 27 [.ref 54, .int (nI i), .int (c i), .int (nI j), x4] [] h' (fun w h' => w = some (.int (nI r.1)) ∧ h'.1 54 7 = nI r.2.2.2 ∧ RC s (rSw r c) (rSw r v) h' ∧ swF h h') := by
          refine up_ind ?_ (fun j hj ih2 => ?_)
          · intro _ l' h' x4 hl' hr' R' F L
            rw [Nat.sub_self, pj_0, if_pos rfl] at hr'
            have ih := ih l' h' (.int (c i)) (.int (nI (zT s))) x4 hl' hr' R' F L
            (refine W1 rfl ?_; try refine Wp.norm (L' := [_, _, _, _, _]) rfl ?_)
            repeat (first | refine Wp.at ih rfl rfl ?_ rfl | (refine W1 rfl ?_; try refine Wp.norm (L' := [_, _, _, _, _]) rfl ?_) | ((first | change (_ → _) ∧ (_ → _) | change vp_in _ _ ∧ _ | change ¬ _ ∧ _); simp (disch := omega) only [nI_clamp, nI_leI, nI_ltI, nI_eq, nI_1, nI_add, nI_not_neg, nI_is_pos, nI_m1, nI_z, R'.T]) | refine brT (by first | assumption | decide | omega) ?_ | refine brF (by first | assumption | decide | omega) ?_ | refine brTn (by first | assumption | decide | omega) ?_ | refine brFn (by first | assumption | decide | omega) ?_ | refine And.intro (vp_in_nI (by omega) (by decide)) ?_ | refine And.intro (vp_lit (by decide)) ?_ | refine divJ (by decide) ?_ | refine divI (by decide) ?_)
            try change _ ∧ _
            first | done | rfl | (simp (disch := omega) only [nI_1, nI_add, nI_clamp] <;> first | done | rfl)
          · intro hij l' h' x4 hl' hr' R' F L
            have hij2 : i ≠ j := by omega
            rw [show zT s - j = zT s - (j + 1) + 1 by omega] at hr'
            obtain ⟨p, hp, hcp⟩ := (ro.cc hi).resolve_left hop
            by_cases e1 : c j = -1
            · rw [pj_no _ (by unfold ebB; simp [e1])] at hr'
              have ih := ih2 (by omega) l' h' (.int (c j)) hl' hr' R' F L
              (refine W1 rfl ?_; try refine Wp.norm (L' := [_, _, _, _, _]) rfl ?_)
              repeat (first | refine Wp.at ih rfl rfl ?_ rfl | (refine W1 rfl ?_; try refine Wp.norm (L' := [_, _, _, _, _]) rfl ?_) | ((first | change (_ → _) ∧ (_ → _) | change vp_in _ _ ∧ _ | change ¬ _ ∧ _); simp (disch := omega) only [nI_clamp, nI_leI, nI_ltI, nI_eq, nI_1, nI_add, nI_not_neg, nI_is_pos, nI_m1, nI_z, R'.T, R'.cts]) | refine brT (by first | assumption | decide | omega) ?_ | refine brF (by first | assumption | decide | omega) ?_ | refine brTn (by first | assumption | decide | omega) ?_ | refine brFn (by first | assumption | decide | omega) ?_ | refine And.intro (vp_in_nI (by omega) (by decide)) ?_ | refine And.intro (vp_lit (by decide)) ?_ | refine divJ (by decide) ?_ | refine divI (by decide) ?_)
              try change _ ∧ _
              first | done | rfl | (simp (disch := omega) only [nI_1, nI_add, nI_clamp, R'.cts] <;> first | done | rfl)
            · by_cases e2 : c j = c i
              · rw [pj_no _ (by unfold ebB; simp [e2])] at hr'
                have ih := ih2 (by omega) l' h' (.int (c j)) hl' hr' R' F L
                (refine W1 rfl ?_; try refine Wp.norm (L' := [_, _, _, _, _]) rfl ?_)
                repeat (first | refine Wp.at ih rfl rfl ?_ rfl | (refine W1 rfl ?_; try refine Wp.norm (L' := [_, _, _, _, _]) rfl ?_) | ((first | change (_ → _) ∧ (_ → _) | change vp_in _ _ ∧ _ | change ¬ _ ∧ _); simp (disch := omega) only [nI_clamp, nI_leI, nI_ltI, nI_eq, nI_1, nI_add, nI_not_neg, nI_is_pos, nI_m1, nI_z, R'.T, R'.cts]) | refine brT (by first | assumption | decide | omega) ?_ | refine brF (by first | assumption | decide | omega) ?_ | refine brTn (by first | assumption | decide | omega) ?_ | refine brFn (by first | assumption | decide | omega) ?_ | refine And.intro (vp_in_nI (by omega) (by decide)) ?_ | refine And.intro (vp_lit (by decide)) ?_ | refine divJ (by decide) ?_ | refine divI (by decide) ?_)
                try change _ ∧ _
                first | done | rfl | (simp (disch := omega) only [nI_1, nI_add, nI_clamp, R'.cts] <;> first | done | rfl)
              · have heb : ebB c i j = true := by unfold ebB; simp [hop, e1, e2]
                obtain ⟨q, hq, hcq⟩ := (ro.cc hj).resolve_left e1
                by_cases hl0 : l' = 0
                · subst hl0
                  rw [pj_st _ heb, if_neg (show ¬ (0 : Nat) = 3 by decide)] at hr'
                  repeat (first | (refine W1 rfl ?_; try refine Wp.norm (L' := [_, _, _, _, _]) rfl ?_) | ((first | change (_ → _) ∧ (_ → _) | change vp_in _ _ ∧ _ | change ¬ _ ∧ _); simp (disch := omega) only [nI_clamp, nI_leI, nI_ltI, nI_eq, nI_1, nI_add, nI_not_neg, nI_is_pos, nI_m1, nI_z, R'.T, R'.cts, L]) | refine brT (by first | assumption | decide | omega) ?_ | refine brF (by first | assumption | decide | omega) ?_ | refine brTn (by first | assumption | decide | omega) ?_ | refine brFn (by first | assumption | decide | omega) ?_ | refine And.intro (vp_in_nI (by omega) (by decide)) ?_ | refine And.intro (vp_lit (by decide)) ?_ | refine divJ (by decide) ?_ | refine divI (by decide) ?_)
                  try change _ ∧ _
                  rw [← hr']
                  exact ⟨rfl, L, R', F⟩
                · have L1 : (wI h' 54 7 (nI l' - 1)).1 54 7 = nI (l' - 1) := by
                    rw [wI_same, show l' = l' - 1 + 1 by omega, nI_pred]
                    rfl
                  have R1 : RC s c v (wI h' 54 7 (nI l' - 1)) := R'.sr (SameK.ofI h' _ rfl)
                  obtain ⟨h2, r2, O2, R2⟩ := r_exchange R1 o hi hj hij2
                  have F2 : swF h h2 := (F.left).trans (swF.ex O2)
                  have L2 : h2.1 54 7 = nI (l' - 1) := by rw [O2.1 54 7 (by decide)]; exact L1
                  have rb := r_isBetter R2 o ro hi hj (by omega) hp hq hcp hcq (M.f F2)
                  repeat (first | (refine W1 rfl ?_; try refine Wp.norm (L' := [_, _, _, _, _]) rfl ?_) | ((first | change (_ → _) ∧ (_ → _) | change vp_in _ _ ∧ _ | change ¬ _ ∧ _); simp (disch := omega) only [nI_clamp, nI_leI, nI_ltI, nI_eq, nI_1, nI_add, nI_not_neg, nI_is_pos, nI_m1, nI_z, R'.T, R'.cts, L]) | refine brT (by first | assumption | decide | omega) ?_ | refine brF (by first | assumption | decide | omega) ?_ | refine brTn (by first | assumption | decide | omega) ?_ | refine brFn (by first | assumption | decide | omega) ?_ | refine And.intro (vp_in_nI (by omega) (by decide)) ?_ | refine And.intro (vp_lit (by decide)) ?_ | refine divJ (by decide) ?_ | refine divI (by decide) ?_)
                  try change _ ∧ _
                  refine Cl.ofH r2 rfl (by rw [L]) (by decide) ?_
                  repeat (first | (refine W1 rfl ?_; try refine Wp.norm (L' := [_, _, _, _, _]) rfl ?_) | ((first | change (_ → _) ∧ (_ → _) | change vp_in _ _ ∧ _ | change ¬ _ ∧ _); simp (disch := omega) only [nI_clamp, nI_leI, nI_ltI, nI_eq, nI_1, nI_add, nI_not_neg, nI_is_pos, nI_m1, nI_z]) | refine brT (by first | assumption | decide | omega) ?_ | refine brF (by first | assumption | decide | omega) ?_ | refine brTn (by first | assumption | decide | omega) ?_ | refine brFn (by first | assumption | decide | omega) ?_ | refine And.intro (vp_in_nI (by omega) (by decide)) ?_ | refine And.intro (vp_lit (by decide)) ?_ | refine divJ (by decide) ?_ | refine divI (by decide) ?_)
                  try change _ ∧ _
                  refine Cl.of rb (by decide) ?_
                  cases hb : btr s c v i j with
                  | true =>
                    rw [pj_be _ heb hl0 hb, if_neg (show ¬ (2 : Nat) = 3 by decide)] at hr'
                    repeat (first | (refine W1 rfl ?_; try refine Wp.norm (L' := [_, _, _, _, _]) rfl ?_) | ((first | change (_ → _) ∧ (_ → _) | change vp_in _ _ ∧ _ | change ¬ _ ∧ _); simp (disch := omega) only [nI_clamp, nI_leI, nI_ltI, nI_eq, nI_1, nI_add, nI_not_neg, nI_is_pos, nI_m1, nI_z]) | refine brT (by first | assumption | decide | omega) ?_ | refine brF (by first | assumption | decide | omega) ?_ | refine brTn (by first | assumption | decide | omega) ?_ | refine brFn (by first | assumption | decide | omega) ?_ | refine And.intro (vp_in_nI (by omega) (by decide)) ?_ | refine And.intro (vp_lit (by decide)) ?_ | refine divJ (by decide) ?_ | refine divI (by decide) ?_)
                    try change _ ∧ _
                    rw [← hr']
                    exact ⟨rfl, L2, R2, F2⟩
                  | false =>
                    rw [pj_nb _ heb hl0 hb] at hr'
                    obtain ⟨h3, r3, O3, R3⟩ := r_exchange R2 o hi hj hij2
                    rw [swp_swp, swp_swp] at R3
                    repeat (first | (refine W1 rfl ?_; try refine Wp.norm (L' := [_, _, _, _, _]) rfl ?_) | ((first | change (_ → _) ∧ (_ → _) | change vp_in _ _ ∧ _ | change ¬ _ ∧ _); simp (disch := omega) only [nI_clamp, nI_leI, nI_ltI, nI_eq, nI_1, nI_add, nI_not_neg, nI_is_pos, nI_m1, nI_z]) | refine brT (by first | assumption | decide | omega) ?_ | refine brF (by first | assumption | decide | omega) ?_ | refine brTn (by first | assumption | decide | omega) ?_ | refine brFn (by first | assumption | decide | omega) ?_ | refine And.intro (vp_in_nI (by omega) (by decide)) ?_ | refine And.intro (vp_lit (by decide)) ?_ | refine divJ (by decide) ?_ | refine divI (by decide) ?_)
                    try change _ ∧ _
                    refine Cl.of r3 (by decide) ?_
                    have ih := ih2 (by omega) (l' - 1) h3 (.int (c j)) (by omega) hr' R3 (F2.trans (swF.ex O3)) (by rw [O3.1 54 7 (by decide)]; exact L2)
                    repeat (first | refine Wp.at ih rfl rfl ?_ rfl | (refine W1 rfl ?_; try refine Wp.norm (L' := [_, _, _, _, _]) rfl ?_) | ((first | change (_ → _) ∧ (_ → _) | change vp_in _ _ ∧ _ | change ¬ _ ∧ _); simp (disch := omega) only [nI_clamp, nI_leI, nI_ltI, nI_eq, nI_1, nI_add, nI_not_neg, nI_is_pos, nI_m1, nI_z]) | refine brT (by first | assumption | decide | omega) ?_ | refine brF (by first | assumption | decide | omega) ?_ | refine brTn (by first | assumption | decide | omega) ?_ | refine brFn (by first | assumption | decide | omega) ?_ | refine And.intro (vp_in_nI (by omega) (by decide)) ?_ | refine And.intro (vp_lit (by decide)) ?_ | refine divJ (by decide) ?_ | refine divI (by decide) ?_)
                    try change _ ∧ _
                    first | done | rfl | (simp (disch := omega) only [nI_1, nI_add, nI_clamp, R'.cts] <;> first | done | rfl)
        have ih := inner (i + 1) (by omega) (Nat.le_refl _) l' h' x4 hl' hr' R' F L
        (refine W1 rfl ?_; try refine Wp.norm (L' := [_, _, _, _, _]) rfl ?_)
        repeat (first | refine Wp.at ih rfl rfl ?_ rfl | (refine W1 rfl ?_; try refine Wp.norm (L' := [_, _, _, _, _]) rfl ?_) | ((first | change (_ → _) ∧ (_ → _) | change vp_in _ _ ∧ _ | change ¬ _ ∧ _); simp (disch := omega) only [nI_clamp, nI_leI, nI_ltI, nI_eq, nI_1, nI_add, nI_not_neg, nI_is_pos, nI_m1, nI_z, R'.T]) | refine brT (by first | assumption | decide | omega) ?_ | refine brF (by first | assumption | decide | omega) ?_ | refine brTn (by first | assumption | decide | omega) ?_ | refine brFn (by first | assumption | decide | omega) ?_ | refine And.intro (vp_in_nI (by omega) (by decide)) ?_ | refine And.intro (vp_lit (by decide)) ?_ | refine divJ (by decide) ?_ | refine divI (by decide) ?_)
        try change _ ∧ _
        first | done | rfl | (simp (disch := omega) only [nI_1, nI_add, nI_clamp, R'.cts] <;> first | done | rfl)
  have ih := lp 0 (Nat.zero_le _) l h .null .null .null hl hr R (swF.rfl h) hLf
  repeat (first | refine Wp.at ih rfl rfl ?_ rfl | (refine W1 rfl ?_; try refine Wp.norm (L' := [_, _, _, _, _]) rfl ?_) | ((first | change (_ → _) ∧ (_ → _) | change vp_in _ _ ∧ _ | change ¬ _ ∧ _); simp (disch := omega) only [nI_clamp, nI_leI, nI_ltI, nI_eq, nI_1, nI_add, nI_not_neg, nI_is_pos, nI_m1, nI_z]) | refine brT (by first | assumption | decide | omega) ?_ | refine brF (by first | assumption | decide | omega) ?_ | refine brTn (by first | assumption | decide | omega) ?_ | refine brFn (by first | assumption | decide | omega) ?_ | refine And.intro (vp_in_nI (by omega) (by decide)) ?_ | refine And.intro (vp_lit (by decide)) ?_ | refine divJ (by decide) ?_ | refine divI (by decide) ?_)
  try change _ ∧ _
  first | done | rfl | (simp (disch := omega) only [nI_1, nI_add, nI_clamp] <;> first | done | rfl)
/-- swaps on and on: the rota, how many, how it ended -/
def imF (s : ST) : Nat → RT → RT → Nat → Nat → RT × RT × Nat × Nat
  | 0, c, v, _, d => (c, v, d, 0)
  | f + 1, c, v, l, d => if (piS s c v (zT s) 0 l).1 = 2 then imF s f (rSw (piS s c v (zT s) 0 l) c) (rSw (piS s c v (zT s) 0 l) v) (piS s c v (zT s) 0 l).2.2.2 (d + 1) else (c, v, d, (piS s c v (zT s) 0 l).1)
theorem im_s (f : Nat) (c v : RT) (l d : Nat) : imF s (f + 1) c v l d = if (piS s c v (zT s) 0 l).1 = 2 then imF s f (rSw (piS s c v (zT s) 0 l) c) (rSw (piS s c v (zT s) 0 l) v) (piS s c v (zT s) 0 l).2.2.2 (d + 1) else (c, v, d, (piS s c v (zT s) 0 l).1) := rfl
theorem rSw_ro (ro : RO s c v) (l : Nat) : RO s (rSw (piS s c v (zT s) 0 l) c) (rSw (piS s c v (zT s) 0 l) v) := by
  have hb := pi_bd (s := s) (c := c) (v := v) (zT s) 0 l
  by_cases h2 : (piS s c v (zT s) 0 l).1 = 2
  · have := hb.2.1 h2
    have e : ∀ f, rSw (piS s c v (zT s) 0 l) f = swp f (piS s c v (zT s) 0 l).2.1 (piS s c v (zT s) 0 l).2.2.1 := fun f => if_pos h2
    rw [e, e]
    exact ro.swq (by omega) (by omega)
  · have e : ∀ f, rSw (piS s c v (zT s) 0 l) f = f := fun f => if_neg h2
    rw [e, e]
    exact ro
/-- where improve writes -/
def imX (h h' : HP) : Prop := onlyJ [46, 47, 54, 55] [54, 56] h h'
theorem w_improve (R : RC s c v h) (o : OK s) (ro : RO s c v) {m : Nat} (hm : m ≤ 1000) : ∃ w h', Run 6 j_Swapper_improve [.ref 54, .int (nI m)] h w h' ∧ (w = some (.int (nI (imF s (m + 1) c v m 0).2.2.1)) ∧ h'.1 54 8 = nI (imF s (m + 1) c v m 0).2.2.2 ∧ RC s (imF s (m + 1) c v m 0).1 (imF s (m + 1) c v m 0).2.1 h' ∧ RO s (imF s (m + 1) c v m 0).1 (imF s (m + 1) c v m 0).2.1 ∧ imX h h') := by
  have hT := o.T; have hP := o.P; have hK := o.K; have hD := o.D; have hO := o.O; have hQ := o.Q; have hL := o.L
  refine Run.ofP rfl ?_
  refine Wp.norm (L' := [_, _, _, _, _]) rfl ?_
  obtain ⟨r, hr⟩ : ∃ r, imF s (m + 1) c v m 0 = r := ⟨_, rfl⟩
  rw [hr]
  have lp : ∀ n, n ≤ m + 1 → ∀ (c v : RT) l h' x4, l ≤ 1000 → imF s (m + 1 - n) c v l n = r → RC s c v h' → RO s c v → imX h h' → h'.1 54 7 = nI l → h'.1 54 8 = 0 → Wp 6 j_Swapper_improve 14 [.ref 54, .int (nI m), .int (nI n), .int (nI n), x4] [] h' (fun w h' => w = some (.int (nI r.2.2.1)) ∧ h'.1 54 8 = nI r.2.2.2 ∧ RC s r.1 r.2.1 h' ∧ RO s r.1 r.2.1 ∧ imX h h') := by
    refine up_ind ?_ (fun n hn ih => ?_)
    · intro c v l h' x4 hl hr' R' ro' F L E
      rw [Nat.sub_self] at hr'
      repeat (first | (refine W1 rfl ?_; try refine Wp.norm (L' := [_, _, _, _, _]) rfl ?_) | ((first | change (_ → _) ∧ (_ → _) | change vp_in _ _ ∧ _ | change ¬ _ ∧ _); simp (disch := omega) only [nI_clamp, nI_leI, nI_ltI, nI_eq, nI_1, nI_add, nI_not_neg, nI_is_pos, nI_m1, nI_z]) | refine brT (by first | assumption | decide | omega) ?_ | refine brF (by first | assumption | decide | omega) ?_ | refine brTn (by first | assumption | decide | omega) ?_ | refine brFn (by first | assumption | decide | omega) ?_ | refine And.intro (vp_in_nI (by omega) (by decide)) ?_ | refine And.intro (vp_lit (by decide)) ?_ | refine divJ (by decide) ?_ | refine divI (by decide) ?_)
      try change _ ∧ _
      rw [← hr']
      exact ⟨rfl, E, R', ro', F⟩
    · intro c v l h' x4 hl hr' R' ro' F L E
      rw [show m + 1 - n = m + 1 - (n + 1) + 1 by omega, im_s] at hr'
      obtain ⟨h1, r1, O1, M1⟩ := w_measure R' o ro'
      have R1 : RC s c v h1 := R'.sr (O1.K (by intro k i hk z; simp at z; subst z; cases hk))
      obtain ⟨w, h2, r2, rfl, L2, R2, F2⟩ := w_goOver R1 o ro' M1 hl (by rw [O1.1 54 7 (by decide)]; exact L)
      have hb := pi_bd (s := s) (c := c) (v := v) (zT s) 0 l
      have ro2 := rSw_ro ro' l
      have FF : imX h h2 := (F.trans (O1.mono (by intro k hk; simp at hk; subst hk; decide) (fun k hk => hk))).trans (F2.1.mono (by intro k hk; simp at hk; rcases hk with hk | hk | hk <;> (subst hk; decide)) (by simp))
      have E2 : h2.1 54 8 = 0 := by rw [F2.2 8 (by decide), O1.1 54 8 (by decide)]; exact E
      repeat (first | (refine W1 rfl ?_; try refine Wp.norm (L' := [_, _, _, _, _]) rfl ?_) | ((first | change (_ → _) ∧ (_ → _) | change vp_in _ _ ∧ _ | change ¬ _ ∧ _); simp (disch := omega) only [nI_clamp, nI_leI, nI_ltI, nI_eq, nI_1, nI_add, nI_not_neg, nI_is_pos, nI_m1, nI_z]) | refine brT (by first | assumption | decide | omega) ?_ | refine brF (by first | assumption | decide | omega) ?_ | refine brTn (by first | assumption | decide | omega) ?_ | refine brFn (by first | assumption | decide | omega) ?_ | refine And.intro (vp_in_nI (by omega) (by decide)) ?_ | refine And.intro (vp_lit (by decide)) ?_ | refine divJ (by decide) ?_ | refine divI (by decide) ?_)
      try change _ ∧ _
      refine Cl.of r1 (by decide) ?_
      repeat (first | (refine W1 rfl ?_; try refine Wp.norm (L' := [_, _, _, _, _]) rfl ?_) | ((first | change (_ → _) ∧ (_ → _) | change vp_in _ _ ∧ _ | change ¬ _ ∧ _); simp (disch := omega) only [nI_clamp, nI_leI, nI_ltI, nI_eq, nI_1, nI_add, nI_not_neg, nI_is_pos, nI_m1, nI_z]) | refine brT (by first | assumption | decide | omega) ?_ | refine brF (by first | assumption | decide | omega) ?_ | refine brTn (by first | assumption | decide | omega) ?_ | refine brFn (by first | assumption | decide | omega) ?_ | refine And.intro (vp_in_nI (by omega) (by decide)) ?_ | refine And.intro (vp_lit (by decide)) ?_ | refine divJ (by decide) ?_ | refine divI (by decide) ?_)
      try change _ ∧ _
      refine Cl.of r2 (by decide) ?_
      generalize hq : piS s c v (zT s) 0 l = q at *
      by_cases q2 : q.1 = 2
      · rw [if_pos q2] at hr'
        have ih := ih _ _ q.2.2.2 h2 (.int (nI q.1)) (by omega) hr' R2 ro2 FF L2 E2
        rw [q2] at ih ⊢
        repeat (first | refine Wp.at ih rfl rfl ?_ rfl | (refine W1 rfl ?_; try refine Wp.norm (L' := [_, _, _, _, _]) rfl ?_) | ((first | change (_ → _) ∧ (_ → _) | change vp_in _ _ ∧ _ | change ¬ _ ∧ _); simp (disch := omega) only [nI_clamp, nI_leI, nI_ltI, nI_eq, nI_1, nI_add, nI_not_neg, nI_is_pos, nI_m1, nI_z]) | refine brT (by first | assumption | decide | omega) ?_ | refine brF (by first | assumption | decide | omega) ?_ | refine brTn (by first | assumption | decide | omega) ?_ | refine brFn (by first | assumption | decide | omega) ?_ | refine And.intro (vp_in_nI (by omega) (by decide)) ?_ | refine And.intro (vp_lit (by decide)) ?_ | refine divJ (by decide) ?_ | refine divI (by decide) ?_)
        try change _ ∧ _
        first | done | rfl | (simp (disch := omega) only [nI_1, nI_add, nI_clamp] <;> first | done | rfl)
      · rw [if_neg q2] at hr'
        have e : ∀ f, rSw q f = f := fun f => if_neg q2
        rw [e, e] at R2
        have hne : ¬ nI q.1 = 2 := fun z => by
          rw [show (2 : Int32) = nI 2 from rfl, nI_eq (by omega) (by decide)] at z
          exact q2 z
        repeat (first | (refine W1 rfl ?_; try refine Wp.norm (L' := [_, _, _, _, _]) rfl ?_) | ((first | change (_ → _) ∧ (_ → _) | change vp_in _ _ ∧ _ | change ¬ _ ∧ _); simp (disch := omega) only [nI_clamp, nI_leI, nI_ltI, nI_eq, nI_1, nI_add, nI_not_neg, nI_is_pos, nI_m1, nI_z]) | refine brT (by first | assumption | decide | omega) ?_ | refine brF (by first | assumption | decide | omega) ?_ | refine brTn (by first | assumption | decide | omega) ?_ | refine brFn (by first | assumption | decide | omega) ?_ | refine And.intro (vp_in_nI (by omega) (by decide)) ?_ | refine And.intro (vp_lit (by decide)) ?_ | refine divJ (by decide) ?_ | refine divI (by decide) ?_)
        try change _ ∧ _
        rw [← hr']
        exact ⟨rfl, wI_same _ _ _ _, R2.sr (SameK.ofI h2 _ rfl), ro', FF.addI (by decide)⟩
  have ih := lp 0 (Nat.zero_le _) c v m (wI (wI h 54 7 (nI m)) 54 8 0) .null hm hr (R.sr (((SameK.refl kRC h).addI (k := 54) (i := 7) rfl).addI (k := 54) (i := 8) rfl)) ro (((onlyJ.rfl _ _ h).addI (by decide)).addI (by decide)) (by rw [wI_ne2 _ _ (by decide), wI_same]) (wI_same _ _ _ _)
  repeat (first | refine Wp.at ih rfl rfl ?_ rfl | (refine W1 rfl ?_; try refine Wp.norm (L' := [_, _, _, _, _]) rfl ?_) | ((first | change (_ → _) ∧ (_ → _) | change vp_in _ _ ∧ _ | change ¬ _ ∧ _); simp (disch := omega) only [nI_clamp, nI_leI, nI_ltI, nI_eq, nI_1, nI_add, nI_not_neg, nI_is_pos, nI_m1, nI_z]) | refine brT (by first | assumption | decide | omega) ?_ | refine brF (by first | assumption | decide | omega) ?_ | refine brTn (by first | assumption | decide | omega) ?_ | refine brFn (by first | assumption | decide | omega) ?_ | refine And.intro (vp_in_nI (by omega) (by decide)) ?_ | refine And.intro (vp_lit (by decide)) ?_ | refine divJ (by decide) ?_ | refine divI (by decide) ?_)
  try change _ ∧ _
  first | done | rfl | (simp (disch := omega) only [nI_1, nI_add, nI_clamp] <;> first | done | rfl)
end SW5
