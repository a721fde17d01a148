/-! ===== ILL: the class's frame ===== -/
theorem r_fillJ_62 (h : HP) (x : Int64) : ∃ h', Run 0 j_Arrays_fillJ [.ref 62, .long x] h none h' ∧ onlyJ [] [62] h h' ∧ ∀ i, i < 16 → h'.2 62 i = x := by
  obtain ⟨w, h', r, e, O, A⟩ := Run.ofP (d := 0) (j := j_Arrays_fillJ) (as := [.ref 62, .long x]) (h := h) (P := fun w h' => w = none ∧ onlyJ [] [62] h h' ∧ ∀ i, i < 16 → h'.2 62 i = x) rfl (by
    have lp : ∀ n, n ≤ 16 → ∀ h', onlyJ [] [62] h h' → (∀ i, i < n → h'.2 62 i = x) → Wp 0 j_Arrays_fillJ 6 [.ref 62, .long x, .null, .int (nI n), .int (nI 16)] [] h' (fun w h' => w = none ∧ onlyJ [] [62] h h' ∧ ∀ i, i < 16 → h'.2 62 i = x) := by
      refine up_ind ?_ (fun n hn ih => ?_)
      · intro h' O A
        repeat (first | (refine W1 rfl ?_; try refine Wp.norm (L' := [_, _, _, _, _]) rfl ?_) | ((first | change (_ → _) ∧ (_ → _) | change vp_in _ _ ∧ _ | change ¬ _ ∧ _); simp (disch := omega) only [nI_clamp, nI_leI, nI_ltI, nI_eq, nI_1, nI_add, nI_not_neg, nI_is_pos, nI_m1, nI_z]) | refine brT (by first | assumption | decide | omega) ?_ | refine brF (by first | assumption | decide | omega) ?_ | refine brTn (by first | assumption | decide | omega) ?_ | refine brFn (by first | assumption | decide | omega) ?_ | refine And.intro (vp_in_nI (by omega) (by decide)) ?_ | refine And.intro (vp_lit (by decide)) ?_ | refine divJ (by decide) ?_ | refine divI (by decide) ?_)
        try change _ ∧ _
        exact ⟨rfl, O, A⟩
      · intro h' O A
        have ih := ih (wJ h' 62 n x) (O.addJ (by decide)) (fun i hi => by
          by_cases e : i = n
          · rw [e, wJ_same]
          · rw [wJ_ne2 _ _ e]; exact A i (by omega))
        (refine W1 rfl ?_; try refine Wp.norm (L' := [_, _, _, _, _]) rfl ?_)
        repeat (first | refine Wp.at ih rfl rfl ?_ ?_ | (refine W1 rfl ?_; try refine Wp.norm (L' := [_, _, _, _, _]) rfl ?_) | ((first | change (_ → _) ∧ (_ → _) | change vp_in _ _ ∧ _ | change ¬ _ ∧ _); simp (disch := omega) only [nI_clamp, nI_leI, nI_ltI, nI_eq, nI_1, nI_add, nI_not_neg, nI_is_pos, nI_m1, nI_z]) | refine brT (by first | assumption | decide | omega) ?_ | refine brF (by first | assumption | decide | omega) ?_ | refine brTn (by first | assumption | decide | omega) ?_ | refine brFn (by first | assumption | decide | omega) ?_ | refine And.intro (vp_in_nI (by omega) (by decide)) ?_ | refine And.intro (vp_lit (by decide)) ?_ | refine divJ (by decide) ?_ | refine divI (by decide) ?_)
        try change _ ∧ _
        · first | done | rfl | (simp (disch := omega) only [nI_1, nI_add, nI_clamp] <;> first | done | rfl)
        · first | done | rfl | (simp (disch := omega) only [nI_1, nI_add, nI_clamp] <;> first | done | rfl)
    have ih := lp 0 (Nat.zero_le _) h (onlyJ.rfl _ _ h) (fun i hi => absurd hi (by omega))
    refine Wp.norm (L' := [_, _, _, _, _]) rfl ?_
    repeat (first | refine Wp.at ih rfl rfl ?_ rfl | (refine W1 rfl ?_; try refine Wp.norm (L' := [_, _, _, _, _]) rfl ?_) | ((first | change (_ → _) ∧ (_ → _) | change vp_in _ _ ∧ _ | change ¬ _ ∧ _); simp (disch := omega) only [nI_clamp, nI_leI, nI_ltI, nI_eq, nI_1, nI_add, nI_not_neg, nI_is_pos, nI_m1, nI_z]) | refine brT (by first | assumption | decide | omega) ?_ | refine brF (by first | assumption | decide | omega) ?_ | refine brTn (by first | assumption | decide | omega) ?_ | refine brFn (by first | assumption | decide | omega) ?_ | refine And.intro (vp_in_nI (by omega) (by decide)) ?_ | refine And.intro (vp_lit (by decide)) ?_ | refine divJ (by decide) ?_ | refine divI (by decide) ?_)
    try change _ ∧ _
    first | done | rfl | (simp (disch := omega) only [nI_1, nI_add, nI_clamp] <;> first | done | rfl))
  subst e
  exact ⟨h', r, O, A⟩
theorem r_fillJ_63 (h : HP) (x : Int64) : ∃ h', Run 0 j_Arrays_fillJ [.ref 63, .long x] h none h' ∧ onlyJ [] [63] h h' ∧ ∀ i, i < 16 → h'.2 63 i = x := by
  obtain ⟨w, h', r, e, O, A⟩ := Run.ofP (d := 0) (j := j_Arrays_fillJ) (as := [.ref 63, .long x]) (h := h) (P := fun w h' => w = none ∧ onlyJ [] [63] h h' ∧ ∀ i, i < 16 → h'.2 63 i = x) rfl (by
    have lp : ∀ n, n ≤ 16 → ∀ h', onlyJ [] [63] h h' → (∀ i, i < n → h'.2 63 i = x) → Wp 0 j_Arrays_fillJ 6 [.ref 63, .long x, .null, .int (nI n), .int (nI 16)] [] h' (fun w h' => w = none ∧ onlyJ [] [63] h h' ∧ ∀ i, i < 16 → h'.2 63 i = x) := by
      refine up_ind ?_ (fun n hn ih => ?_)
      · intro h' O A
        repeat (first | (refine W1 rfl ?_; try refine Wp.norm (L' := [_, _, _, _, _]) rfl ?_) | ((first | change (_ → _) ∧ (_ → _) | change vp_in _ _ ∧ _ | change ¬ _ ∧ _); simp (disch := omega) only [nI_clamp, nI_leI, nI_ltI, nI_eq, nI_1, nI_add, nI_not_neg, nI_is_pos, nI_m1, nI_z]) | refine brT (by first | assumption | decide | omega) ?_ | refine brF (by first | assumption | decide | omega) ?_ | refine brTn (by first | assumption | decide | omega) ?_ | refine brFn (by first | assumption | decide | omega) ?_ | refine And.intro (vp_in_nI (by omega) (by decide)) ?_ | refine And.intro (vp_lit (by decide)) ?_ | refine divJ (by decide) ?_ | refine divI (by decide) ?_)
        try change _ ∧ _
        exact ⟨rfl, O, A⟩
      · intro h' O A
        have ih := ih (wJ h' 63 n x) (O.addJ (by decide)) (fun i hi => by
          by_cases e : i = n
          · rw [e, wJ_same]
          · rw [wJ_ne2 _ _ e]; exact A i (by omega))
        (refine W1 rfl ?_; try refine Wp.norm (L' := [_, _, _, _, _]) rfl ?_)
        repeat (first | refine Wp.at ih rfl rfl ?_ ?_ | (refine W1 rfl ?_; try refine Wp.norm (L' := [_, _, _, _, _]) rfl ?_) | ((first | change (_ → _) ∧ (_ → _) | change vp_in _ _ ∧ _ | change ¬ _ ∧ _); simp (disch := omega) only [nI_clamp, nI_leI, nI_ltI, nI_eq, nI_1, nI_add, nI_not_neg, nI_is_pos, nI_m1, nI_z]) | refine brT (by first | assumption | decide | omega) ?_ | refine brF (by first | assumption | decide | omega) ?_ | refine brTn (by first | assumption | decide | omega) ?_ | refine brFn (by first | assumption | decide | omega) ?_ | refine And.intro (vp_in_nI (by omega) (by decide)) ?_ | refine And.intro (vp_lit (by decide)) ?_ | refine divJ (by decide) ?_ | refine divI (by decide) ?_)
        try change _ ∧ _
        · first | done | rfl | (simp (disch := omega) only [nI_1, nI_add, nI_clamp] <;> first | done | rfl)
        · first | done | rfl | (simp (disch := omega) only [nI_1, nI_add, nI_clamp] <;> first | done | rfl)
    have ih := lp 0 (Nat.zero_le _) h (onlyJ.rfl _ _ h) (fun i hi => absurd hi (by omega))
    refine Wp.norm (L' := [_, _, _, _, _]) rfl ?_
    repeat (first | refine Wp.at ih rfl rfl ?_ rfl | (refine W1 rfl ?_; try refine Wp.norm (L' := [_, _, _, _, _]) rfl ?_) | ((first | change (_ → _) ∧ (_ → _) | change vp_in _ _ ∧ _ | change ¬ _ ∧ _); simp (disch := omega) only [nI_clamp, nI_leI, nI_ltI, nI_eq, nI_1, nI_add, nI_not_neg, nI_is_pos, nI_m1, nI_z]) | refine brT (by first | assumption | decide | omega) ?_ | refine brF (by first | assumption | decide | omega) ?_ | refine brTn (by first | assumption | decide | omega) ?_ | refine brFn (by first | assumption | decide | omega) ?_ | refine And.intro (vp_in_nI (by omega) (by decide)) ?_ | refine And.intro (vp_lit (by decide)) ?_ | refine divJ (by decide) ?_ | refine divI (by decide) ?_)
    try change _ ∧ _
    first | done | rfl | (simp (disch := omega) only [nI_1, nI_add, nI_clamp] <;> first | done | rfl))
  subst e
  exact ⟨h', r, O, A⟩
/-- the turns of the ill one -/
def IB (s : ST) (v : RT) (x a b t : Nat) : Bool := decide (a ≤ tD s t) && decide (tD s t ≤ b) && decide (v t = nI x)
def fnN (B : Nat → Bool) (j : Nat) : Nat → Nat
  | 0 => 0
  | i + 1 => if B i = true ∧ cB B i = j then i else fnN B j i
theorem fnN_at {B : Nat → Bool} {q j : Nat} : ∀ {n}, q < n → B q = true → cB B q = j → fnN B j n = q
  | 0, h, _, _ => absurd h (by omega)
  | n + 1, h, h1, h2 => by
    unfold fnN
    by_cases e : B n = true ∧ cB B n = j
    · rw [if_pos e, cB_inj h1 e.1 (by rw [h2, e.2])]
    · rw [if_neg e]
      by_cases e2 : q = n
      · subst e2; exact absurd ⟨h1, h2⟩ e
      · exact fnN_at (by omega) h1 h2
theorem fnN_ex {B : Nat → Bool} {j n : Nat} (h : j < cB B n) : ∃ q, q < n ∧ B q = true ∧ cB B q = j ∧ fnN B j n = q := by
  obtain ⟨q, h1, h2, h3⟩ := cnt_surj (p := fun q => B q = true) h
  exact ⟨q, h1, h2, h3, fnN_at h1 h2 h3⟩
def opA (tt : Nat → Nat) (f : RT) : Nat → RT
  | 0 => f
  | n + 1 => upd (opA tt f n) (tt n) (-1)
section ILL6
variable {s : ST} {c v : RT} {h : HP} {x a b : Nat}
abbrev tI (s : ST) (v : RT) (x a b : Nat) (d : Nat) : Nat := fnN (IB s v x a b) d (zT s)
abbrev mI (s : ST) (v : RT) (x a b : Nat) : Nat := cB (IB s v x a b) (zT s)
theorem tI_p {d : Nat} (hd : d < mI s v x a b) : tI s v x a b d < zT s ∧ IB s v x a b (tI s v x a b d) = true ∧ cB (IB s v x a b) (tI s v x a b d) = d := by
  obtain ⟨q, h1, h2, h3, h4⟩ := fnN_ex hd
  have e : tI s v x a b d = q := h4
  rw [e]
  exact ⟨h1, h2, h3⟩
theorem tI_mono {d e : Nat} (hde : d < e) (he : e < mI s v x a b) : tI s v x a b d < tI s v x a b e := by
  have h1 := tI_p (s := s) (v := v) (x := x) (a := a) (b := b) (show d < mI s v x a b by omega)
  have h2 := tI_p (s := s) (v := v) (x := x) (a := a) (b := b) he
  refine Nat.lt_of_not_le fun z => ?_
  have := cnt_mono (fun q => IB s v x a b q = true) z
  have e1 : cB (IB s v x a b) (tI s v x a b e) ≤ cB (IB s v x a b) (tI s v x a b d) := this
  omega
theorem opA_o (tt : Nat → Nat) (f : RT) : ∀ n t, (∀ d, d < n → t ≠ tt d) → opA tt f n t = f t
  | 0, _, _ => rfl
  | n + 1, t, h => by
    show upd _ _ _ t = _
    rw [pk_un (h n (by omega)), opA_o tt f n t (fun d hd => h d (by omega))]
theorem opA_at (tt : Nat → Nat) (f : RT) : ∀ n d, d < n → opA tt f n (tt d) = -1
  | 0, d, h => absurd h (by omega)
  | n + 1, d, h => by
    show upd _ _ _ _ = _
    by_cases e : tt d = tt n
    · rw [e]; exact pk_us
    · rw [pk_un e]
      by_cases e2 : d = n
      · rw [e2] at e; exact absurd rfl e
      · exact opA_at tt f n d (by omega)
theorem tI_ok (h6 : mI s v x a b ≤ 6) : tOK s (tI s v x a b) (mI s v x a b) (opA (tI s v x a b) v (mI s v x a b)) := ⟨h6, fun n hn => ⟨(tI_p hn).1, opA_at _ v _ n hn⟩, fun d e h1 h2 => tI_mono h1 h2⟩
theorem RO.opA (ro : RO s c v) (tt : Nat → Nat) : ∀ n, RO s (opA tt c n) (opA tt v n)
  | 0 => ro
  | n + 1 => RO.lay (RO.opA ro tt n) (Or.inl rfl) (tt n)
theorem RO.asg {m : Nat} (ro : RO s c v) (tt : Nat → Nat) {ch : Nat → Nat} : ∀ n, (∀ d, d < n → ch d < zP s) → RO s (asg tt c ch n) (asg tt v ch n)
  | 0, _ => ro
  | n + 1, h => RO.lay (RO.asg (m := m) ro tt n (fun d hd => h d (by omega))) (Or.inr ⟨ch n, h n (by omega), rfl⟩) (tt n)
theorem w_findTurns (R : RC s c v h) (o : OK s) (hx : x < zP s) (hab : a ≤ b) (hb : b < 200) : ∃ w h', Run 0 j_Illness_findTurns [.ref 57, .int (nI x), .int (nI a), .int (nI b)] h w h' ∧ (onlyJ [57, 58, 59] [] h h' ∧ (∀ i, i ≠ 10 → h'.1 57 i = h.1 57 i) ∧ ((w = some (.int 0) ∧ 6 < mI s v x a b) ∨ (w = some (.int 1) ∧ mI s v x a b ≤ 6 ∧ h'.1 57 10 = nI (mI s v x a b) ∧ ∀ d, d < mI s v x a b → h'.1 58 d = nI (tI s v x a b d) ∧ h'.1 59 d = c (tI s v x a b d)))) := by
  have hT := o.T; have hP := o.P; have hK := o.K; have hD := o.D; have hO := o.O; have hQ := o.Q; have hL := o.L
  have hda := dF_le o (show a < 201 by omega)
  have hdb := dF_le o (show b + 1 < 201 by omega)
  have hmono := dF_mono o (show a ≤ b + 1 by omega) (by omega)
  refine Run.ofP rfl ?_
  refine Wp.norm (L' := [_, _, _, _, _]) rfl ?_
  have hin : ∀ t, t < zT s → (IB s v x a b t = true ↔ (dF s a ≤ t ∧ t < dF s (b + 1)) ∧ v t = nI x) := by
    intro t ht
    have h1 := dF_lt o ht (show a < 201 by omega)
    have h2 := dF_lt o ht (show b + 1 < 201 by omega)
    unfold IB
    simp only [Bool.and_eq_true, decide_eq_true_eq]
    constructor
    · rintro ⟨⟨z1, z2⟩, z3⟩; exact ⟨⟨by omega, by omega⟩, z3⟩
    · rintro ⟨⟨z1, z2⟩, z3⟩; exact ⟨⟨by omega, by omega⟩, z3⟩
  have lp : ∀ t, t ≤ dF s (b + 1) → dF s a ≤ t → ∀ h', onlyJ [57, 58, 59] [] h h' → (∀ i, i ≠ 10 → h'.1 57 i = h.1 57 i) → cB (IB s v x a b) t ≤ 6 → h'.1 57 10 = nI (cB (IB s v x a b) t) → (∀ d, d < cB (IB s v x a b) t → h'.1 58 d = nI (tI s v x a b d) ∧ h'.1 59 d = c (tI s v x a b d)) → Wp 0 j_Illness_findTurns 16 [.ref 57, .int (nI x), .int (nI a), .int (nI b), .int (nI t)] [] h' (fun w h' => onlyJ [57, 58, 59] [] h h' ∧ (∀ i, i ≠ 10 → h'.1 57 i = h.1 57 i) ∧ ((w = some (.int 0) ∧ 6 < mI s v x a b) ∨ (w = some (.int 1) ∧ mI s v x a b ≤ 6 ∧ h'.1 57 10 = nI (mI s v x a b) ∧ ∀ d, d < mI s v x a b → h'.1 58 d = nI (tI s v x a b d) ∧ h'.1 59 d = c (tI s v x a b d)))) := by
    refine up_ind ?_ (fun t ht ih => ?_)
    · intro _ h' O X N6 N A
      have R' := R.sr (O.K (P := kRC) (by intro k i hk z; simp at z; rcases z with z | z | z <;> (subst z; cases hk)))
      have em : cB (IB s v x a b) (dF s (b + 1)) = mI s v x a b := by
        have : ∀ k, dF s (b + 1) + k ≤ zT s → cB (IB s v x a b) (dF s (b + 1) + k) = cB (IB s v x a b) (dF s (b + 1)) := by
          intro k
          induction k with
          | zero => intro _; rfl
          | succ k ihk =>
            intro hk
            rw [← Nat.add_assoc, cB_same (by
              cases e : IB s v x a b (dF s (b + 1) + k) with
              | false => rfl
              | true => have := (hin _ (by omega)).mp e; omega), ihk (by omega)]
        have e := this (zT s - dF s (b + 1)) (by omega)
        rw [show dF s (b + 1) + (zT s - dF s (b + 1)) = zT s by omega] at e
        exact e.symm
      rw [em] at N6 N A
      repeat (first | (refine W1 rfl ?_; try refine Wp.norm (L' := [_, _, _, _, _]) rfl ?_) | ((first | change (_ → _) ∧ (_ → _) | change vp_in _ _ ∧ _ | change ¬ _ ∧ _); simp (disch := omega) only [nI_clamp, nI_leI, nI_ltI, nI_eq, nI_1, nI_add, nI_not_neg, nI_is_pos, nI_m1, nI_z, R'.dfs]) | refine brT (by first | assumption | decide | omega) ?_ | refine brF (by first | assumption | decide | omega) ?_ | refine brTn (by first | assumption | decide | omega) ?_ | refine brFn (by first | assumption | decide | omega) ?_ | refine And.intro (vp_in_nI (by omega) (by decide)) ?_ | refine And.intro (vp_lit (by decide)) ?_ | refine divJ (by decide) ?_ | refine divI (by decide) ?_)
      try change _ ∧ _
      exact ⟨Or.inr rfl, O, X, Or.inr ⟨rfl, N6, N, A⟩⟩
    · intro hlo h' O X N6 N A
      have R' := R.sr (O.K (P := kRC) (by intro k i hk z; simp at z; rcases z with z | z | z <;> (subst z; cases hk)))
      have htT : t < zT s := by omega
      have es := cB_s (IB s v x a b) t
      have hi := hin t htT
      by_cases hvx : v t = nI x
      · have hIB : IB s v x a b t = true := hi.mpr ⟨⟨hlo, ht⟩, hvx⟩
        rw [if_pos hIB] at es
        by_cases h6 : cB (IB s v x a b) t = 6
        · have hm : 6 < mI s v x a b := by
            have := cB_lt htT hIB
            show 6 < cB (IB s v x a b) (zT s)
            omega
          repeat (first | (refine W1 rfl ?_; try refine Wp.norm (L' := [_, _, _, _, _]) rfl ?_) | ((first | change (_ → _) ∧ (_ → _) | change vp_in _ _ ∧ _ | change ¬ _ ∧ _); simp (disch := omega) only [nI_clamp, nI_leI, nI_ltI, nI_eq, nI_1, nI_add, nI_not_neg, nI_is_pos, nI_m1, nI_z, R'.dfs, R'.srv, N, show (6 : Int32) = nI 6 from rfl]) | refine brT (by first | assumption | decide | omega) ?_ | refine brF (by first | assumption | decide | omega) ?_ | refine brTn (by first | assumption | decide | omega) ?_ | refine brFn (by first | assumption | decide | omega) ?_ | refine And.intro (vp_in_nI (by omega) (by decide)) ?_ | refine And.intro (vp_lit (by decide)) ?_ | refine divJ (by decide) ?_ | refine divI (by decide) ?_)
          try change _ ∧ _
          exact ⟨Or.inl rfl, O, X, Or.inl ⟨rfl, hm⟩⟩
        · obtain ⟨n, hn⟩ : ∃ n, cB (IB s v x a b) t = n := ⟨_, rfl⟩
          rw [hn] at es N6 N A h6
          rw [es] at ih
          have htt : tI s v x a b n = t := fnN_at htT hIB hn
          have ih := ih (by omega) (wI (wI (wI h' 58 n (nI t)) 59 n (c t)) 57 10 (nI (n + 1))) (((O.addI (by decide)).addI (by decide)).addI (by decide)) (fun i hi => by rw [wI_ne2 _ _ hi, wI_ne _ _ _ (by decide), wI_ne _ _ _ (by decide)]; exact X i hi) (by omega) (wI_same _ _ _ _) (fun d hd => by
            rw [wI_ne _ _ _ (by decide : (58 : Nat) ≠ 57), wI_ne _ _ _ (by decide : (58 : Nat) ≠ 59), wI_ne _ _ _ (by decide : (59 : Nat) ≠ 57)]
            by_cases e : d = n
            · rw [e, wI_same, wI_same, htt]; exact ⟨rfl, rfl⟩
            · rw [wI_ne2 _ _ e, wI_ne2 _ _ e, wI_ne _ _ _ (by decide : (59 : Nat) ≠ 58)]
              exact A d (by omega))
          have n1 : ∀ z, (wI h' 58 n z).1 57 10 = nI n := fun z => by rw [wI_ne _ _ _ (by decide)]; exact N
          have n2 : ∀ z y, (wI (wI h' 58 n z) 59 n y).1 57 10 = nI n := fun z y => by rw [wI_ne _ _ _ (by decide), wI_ne _ _ _ (by decide)]; exact N
          have c1 : ∀ z, (wI h' 58 n z).1 46 t = c t := fun z => by rw [wI_ne _ _ _ (by decide)]; exact R'.cts htT
          (refine W1 rfl ?_; try refine Wp.norm (L' := [_, _, _, _, _]) rfl ?_)
          repeat (first | refine Wp.at ih rfl rfl ?_ ?_ | (refine W1 rfl ?_; try refine Wp.norm (L' := [_, _, _, _, _]) rfl ?_) | ((first | change (_ → _) ∧ (_ → _) | change vp_in _ _ ∧ _ | change ¬ _ ∧ _); simp (disch := omega) only [nI_clamp, nI_leI, nI_ltI, nI_eq, nI_1, nI_add, nI_not_neg, nI_is_pos, nI_m1, nI_z, R'.dfs, R'.srv, N, show (6 : Int32) = nI 6 from rfl, n1, c1]) | refine brT (by first | assumption | decide | omega) ?_ | refine brF (by first | assumption | decide | omega) ?_ | refine brTn (by first | assumption | decide | omega) ?_ | refine brFn (by first | assumption | decide | omega) ?_ | refine And.intro (vp_in_nI (by omega) (by decide)) ?_ | refine And.intro (vp_lit (by decide)) ?_ | refine divJ (by decide) ?_ | refine divI (by decide) ?_)
          try change _ ∧ _
          · first | done | rfl | (simp (disch := omega) only [nI_1, nI_add, nI_clamp] <;> first | done | rfl)
          · first | done | rfl | (simp (disch := omega) only [nI_1, nI_add, nI_clamp, N, n1, n2, c1] <;> first | done | rfl)
      · have hIB : IB s v x a b t = false := by
          cases e : IB s v x a b t with
          | false => rfl
          | true => exact absurd (hi.mp e).2 hvx
        rw [hIB, if_neg (by decide), Nat.add_zero] at es
        rw [es] at ih
        have ih := ih (by omega) h' O X N6 N A
        (refine W1 rfl ?_; try refine Wp.norm (L' := [_, _, _, _, _]) rfl ?_)
        repeat (first | refine Wp.at ih rfl rfl ?_ rfl | (refine W1 rfl ?_; try refine Wp.norm (L' := [_, _, _, _, _]) rfl ?_) | ((first | change (_ → _) ∧ (_ → _) | change vp_in _ _ ∧ _ | change ¬ _ ∧ _); simp (disch := omega) only [nI_clamp, nI_leI, nI_ltI, nI_eq, nI_1, nI_add, nI_not_neg, nI_is_pos, nI_m1, nI_z, R'.dfs, R'.srv]) | refine brT (by first | assumption | decide | omega) ?_ | refine brF (by first | assumption | decide | omega) ?_ | refine brTn (by first | assumption | decide | omega) ?_ | refine brFn (by first | assumption | decide | omega) ?_ | refine And.intro (vp_in_nI (by omega) (by decide)) ?_ | refine And.intro (vp_lit (by decide)) ?_ | refine divJ (by decide) ?_ | refine divI (by decide) ?_)
        try change _ ∧ _
        first | done | rfl | (simp (disch := omega) only [nI_1, nI_add, nI_clamp] <;> first | done | rfl)
  have z0 : cB (IB s v x a b) (dF s a) = 0 := cB_0 (fun q hq => by
    cases e : IB s v x a b q with
    | false => rfl
    | true => have := (hin q (by omega)).mp e; omega)
  have ih := lp (dF s a) hmono (Nat.le_refl _) (wI h 57 10 0) ((onlyJ.rfl _ _ h).addI (by decide)) (fun i hi => wI_ne2 _ _ hi) (by omega) (by rw [wI_same, z0]; rfl) (fun d hd => absurd hd (by omega))
  have e44 := R.dfs (show a < 201 by omega)
  repeat (first | refine Wp.at ih rfl rfl ?_ rfl | (refine W1 rfl ?_; try refine Wp.norm (L' := [_, _, _, _, _]) rfl ?_) | ((first | change (_ → _) ∧ (_ → _) | change vp_in _ _ ∧ _ | change ¬ _ ∧ _); simp (disch := omega) only [nI_clamp, nI_leI, nI_ltI, nI_eq, nI_1, nI_add, nI_not_neg, nI_is_pos, nI_m1, nI_z]) | refine brT (by first | assumption | decide | omega) ?_ | refine brF (by first | assumption | decide | omega) ?_ | refine brTn (by first | assumption | decide | omega) ?_ | refine brFn (by first | assumption | decide | omega) ?_ | refine And.intro (vp_in_nI (by omega) (by decide)) ?_ | refine And.intro (vp_lit (by decide)) ?_ | refine divJ (by decide) ?_ | refine divI (by decide) ?_)
  try change _ ∧ _
  first | done | rfl | (simp (disch := omega) only [nI_1, nI_add, nI_clamp, wI_ne, e44] <;> first | done | rfl)
end ILL6
