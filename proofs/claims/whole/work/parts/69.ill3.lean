/-! ===== ILL: the class's search ===== -/
def srD (s : ST) (c v : RT) (tt : Nat → Nat) (m x : Nat) (bd : Int64) : Nat → Nat → (Nat → Nat) → Nat → RS
  | 0, _, ch, w => if fitB s c tt m bd ch = true then (some ch, w + 1) else (none, w + 1)
  | r + 1, k, ch, w => goL (cnd s v tt x ch k) (fun p w' => srD s c v tt m x bd r (k + 1) (upN ch k p) w') (zP s) 0 w
section ILL4
variable {s : ST} {c v : RT} {h : HP} {tt : Nat → Nat} {m x : Nat} {bd : Int64} {ch : Nat → Nat}
theorem goL_s (cn : Nat → Bool) (nx : Nat → Nat → RS) (f p w : Nat) : goL cn nx (f + 1) p w = if 2000 ≤ w then (none, w) else if cn p = true then (if (nx p w).1 = none then goL cn nx f (p + 1) (nx p w).2 else nx p w) else goL cn nx f (p + 1) w := rfl
theorem upN_k (ch : Nat → Nat) (k p : Nat) : upN ch k p k = p := if_pos rfl
theorem upN_o (ch : Nat → Nat) {k i : Nat} (p : Nat) (h : i ≠ k) : upN ch k p i = ch i := if_neg h
theorem goL_le {cn : Nat → Bool} {nx : Nat → Nat → RS} (H : ∀ p w, w < 2000 → (nx p w).2 ≤ 2000) : ∀ f p w, w ≤ 2000 → (goL cn nx f p w).2 ≤ 2000
  | 0, _, _, hw => hw
  | f + 1, p, w, hw => by
    rw [goL_s]
    by_cases h1 : 2000 ≤ w
    · rw [if_pos h1]; exact hw
    · rw [if_neg h1]
      by_cases h2 : cn p = true
      · rw [if_pos h2]
        by_cases h3 : (nx p w).1 = none
        · rw [if_pos h3]; exact goL_le H f (p + 1) _ (H p w (by omega))
        · rw [if_neg h3]; exact H p w (by omega)
      · rw [if_neg h2]; exact goL_le H f (p + 1) w hw
theorem srD_le : ∀ r k ch w, w < 2000 → (srD s c v tt m x bd r k ch w).2 ≤ 2000
  | 0, k, ch, w, hw => by
    unfold srD
    split
    · show w + 1 ≤ 2000; omega
    · show w + 1 ≤ 2000; omega
  | r + 1, k, ch, w, hw => goL_le (fun p w' h' => srD_le r (k + 1) (upN ch k p) w' h') (zP s) 0 w (by omega)
theorem lft_less {k n p p' : Nat} (h : lft s v tt x ch k n p' = false) : lft s v tt x (upN ch k p) (k + 1) n p' = false := by
  unfold lft at *
  cases h1 : ablB s v (tt n) p' && decide (p' ≠ x) with
  | false => rfl
  | true =>
    rw [h1, Bool.true_and] at h
    rw [Bool.true_and]
    have h2 : anyB (fun d => brd s (tt d) (tt n) (ch d) p') k = true := by simpa using h
    obtain ⟨d, hd, hb⟩ := (anyB_iff _ _).mp h2
    rw [(anyB_iff _ _).mpr ⟨d, by omega, by
      show brd s (tt d) (tt n) (upN ch k p d) p' = true
      rw [upN_o ch p (by omega)]; exact hb⟩]
    rfl
/-- nobody left for a turn: no way -/
theorem dead (o : OK s) (T : tOK s tt m v) : ∀ r k ch w, k + r = m → (∀ d, d < k → ch d < zP s) → (∃ n, k ≤ n ∧ n < m ∧ ∀ p, lft s v tt x ch k n p = false) → srD s c v tt m x bd r k ch w = (none, w)
  | 0, k, ch, w, hk, _, ⟨n, h1, h2, _⟩ => absurd h2 (by omega)
  | r + 1, k, ch, w, hk, hc, ⟨n, h1, h2, h3⟩ => by
    show goL _ _ _ _ _ = _
    have key : ∀ f p, goL (cnd s v tt x ch k) (fun p w' => srD s c v tt m x bd r (k + 1) (upN ch k p) w') f p w = (none, w) := by
      intro f
      induction f with
      | zero => intro p; rfl
      | succ f ih =>
        intro p
        rw [goL_s]
        by_cases a1 : 2000 ≤ w
        · rw [if_pos a1]
        · rw [if_neg a1]
          by_cases a2 : cnd s v tt x ch k p = true
          · have hnk : n ≠ k := by
              rintro rfl
              rw [cnd_lft o T h2 hc, h3 p] at a2
              cases a2
            have hpP : p < zP s := by
              unfold cnd at a2
              simp only [Bool.and_eq_true, decide_eq_true_eq] at a2
              exact a2.1.1
            have := dead o T r (k + 1) (upN ch k p) w (by omega) (fun d hd => by
              by_cases e : d = k
              · rw [e, upN_k]; exact hpP
              · rw [upN_o ch p e]; exact hc d (by omega)) ⟨n, by omega, h2, fun p' => lft_less (h3 p')⟩
            rw [if_pos a2, this, if_pos rfl]
            exact ih (p + 1)
          · rw [if_neg a2]
            exact ih (p + 1)
    exact key _ _
theorem r_barredBehind (R : RC s c v h) (o : OK s) {u t q : Nat} (hu : u < zT s) (ht : t < zT s) (hut : u < t) (hq : q < zP s) : ∃ y, Run 1 j_Illness_barredBehind [.ref 57, .int (nI u), .int (nI t), .int (nI q)] h (some (.int y)) h ∧ ∀ p, p < 32 → bt y p = brd s u t q p := by
  have hT := o.T; have hP := o.P; have hK := o.K; have hD := o.D; have hO := o.O; have hQ := o.Q; have hL := o.L
  have d1 := o.day hu
  have d2 := o.day ht
  have hd := o.up (Nat.le_of_lt hut) ht
  have hA := p16 hP (o.apt hq)
  by_cases e : tD s u = tD s t
  · refine ⟨(1 <<< (nI q &&& 31)) ||| nI (pA s q), ?_, fun p hp => ?_⟩
    · refine Run.of rfl ?_
      refine Wp.norm (L' := [_, _, _, _]) rfl ?_
      repeat (first | (refine W1 rfl ?_; try refine Wp.norm (L' := [_, _, _, _]) rfl ?_) | ((first | change (_ → _) ∧ (_ → _) | change vp_in _ _ ∧ _ | change ¬ _ ∧ _); simp (disch := omega) only [nI_clamp, nI_leI, nI_ltI, nI_eq, nI_1, nI_add, nI_not_neg, nI_is_pos, nI_m1, nI_z, R.day]) | refine brT (by first | assumption | decide | omega) ?_ | refine brF (by first | assumption | decide | omega) ?_ | refine brTn (by first | assumption | decide | omega) ?_ | refine brFn (by first | assumption | decide | omega) ?_ | refine And.intro (vp_in_nI (by omega) (by decide)) ?_ | refine And.intro (vp_lit (by decide)) ?_ | refine divJ (by decide) ?_ | refine divI (by decide) ?_)
      try change _ ∧ _
      simp (disch := omega) only [nI_clamp, R.apt]
      exact ⟨trivial, trivial⟩
    · unfold brd
      rw [if_pos e, bt_or, bt_shl (by omega) hp, bt_nI (by omega)]
  · cases ha : asks s u t with
    | true =>
      refine ⟨1 <<< (nI q &&& 31), ?_, fun p hp => ?_⟩
      · refine Run.of rfl ?_
        refine Wp.norm (L' := [_, _, _, _]) rfl ?_
        repeat (first | (refine W1 rfl ?_; try refine Wp.norm (L' := [_, _, _, _]) rfl ?_) | ((first | change (_ → _) ∧ (_ → _) | change vp_in _ _ ∧ _ | change ¬ _ ∧ _); simp (disch := omega) only [nI_clamp, nI_leI, nI_ltI, nI_eq, nI_1, nI_add, nI_not_neg, nI_is_pos, nI_m1, nI_z, R.day]) | refine brT (by first | assumption | decide | omega) ?_ | refine brF (by first | assumption | decide | omega) ?_ | refine brTn (by first | assumption | decide | omega) ?_ | refine brFn (by first | assumption | decide | omega) ?_ | refine And.intro (vp_in_nI (by omega) (by decide)) ?_ | refine And.intro (vp_lit (by decide)) ?_ | refine divJ (by decide) ?_ | refine divI (by decide) ?_)
        try change _ ∧ _
        refine Cl.of (r_Rota_asksRest R o hu ht hd) (by decide) ?_
        rw [ha]
        repeat (first | (refine W1 rfl ?_; try refine Wp.norm (L' := [_, _, _, _]) rfl ?_) | ((first | change (_ → _) ∧ (_ → _) | change vp_in _ _ ∧ _ | change ¬ _ ∧ _); simp (disch := omega) only [nI_clamp, nI_leI, nI_ltI, nI_eq, nI_1, nI_add, nI_not_neg, nI_is_pos, nI_m1, nI_z]) | refine brT (by first | assumption | decide | omega) ?_ | refine brF (by first | assumption | decide | omega) ?_ | refine brTn (by first | assumption | decide | omega) ?_ | refine brFn (by first | assumption | decide | omega) ?_ | refine And.intro (vp_in_nI (by omega) (by decide)) ?_ | refine And.intro (vp_lit (by decide)) ?_ | refine divJ (by decide) ?_ | refine divI (by decide) ?_)
        try change _ ∧ _
        try first | exact ⟨rfl, rfl⟩ | exact ⟨Or.inr rfl, rfl, rfl⟩ | exact ⟨Or.inl rfl, rfl, rfl⟩ | exact ⟨trivial, trivial⟩ | exact ⟨rfl, trivial⟩ | exact ⟨Or.inr rfl, rfl, trivial⟩ | exact ⟨Or.inl rfl, rfl, trivial⟩
      · unfold brd
        rw [if_neg e, ha, bt_shl (by omega) hp, Bool.true_and]
    | false =>
      refine ⟨0, ?_, fun p hp => ?_⟩
      · refine Run.of rfl ?_
        refine Wp.norm (L' := [_, _, _, _]) rfl ?_
        repeat (first | (refine W1 rfl ?_; try refine Wp.norm (L' := [_, _, _, _]) rfl ?_) | ((first | change (_ → _) ∧ (_ → _) | change vp_in _ _ ∧ _ | change ¬ _ ∧ _); simp (disch := omega) only [nI_clamp, nI_leI, nI_ltI, nI_eq, nI_1, nI_add, nI_not_neg, nI_is_pos, nI_m1, nI_z, R.day]) | refine brT (by first | assumption | decide | omega) ?_ | refine brF (by first | assumption | decide | omega) ?_ | refine brTn (by first | assumption | decide | omega) ?_ | refine brFn (by first | assumption | decide | omega) ?_ | refine And.intro (vp_in_nI (by omega) (by decide)) ?_ | refine And.intro (vp_lit (by decide)) ?_ | refine divJ (by decide) ?_ | refine divI (by decide) ?_)
        try change _ ∧ _
        refine Cl.of (r_Rota_asksRest R o hu ht hd) (by decide) ?_
        rw [ha]
        repeat (first | (refine W1 rfl ?_; try refine Wp.norm (L' := [_, _, _, _]) rfl ?_) | ((first | change (_ → _) ∧ (_ → _) | change vp_in _ _ ∧ _ | change ¬ _ ∧ _); simp (disch := omega) only [nI_clamp, nI_leI, nI_ltI, nI_eq, nI_1, nI_add, nI_not_neg, nI_is_pos, nI_m1, nI_z]) | refine brT (by first | assumption | decide | omega) ?_ | refine brF (by first | assumption | decide | omega) ?_ | refine brTn (by first | assumption | decide | omega) ?_ | refine brFn (by first | assumption | decide | omega) ?_ | refine And.intro (vp_in_nI (by omega) (by decide)) ?_ | refine And.intro (vp_lit (by decide)) ?_ | refine divJ (by decide) ?_ | refine divI (by decide) ?_)
        try change _ ∧ _
        try first | exact ⟨rfl, rfl⟩ | exact ⟨Or.inr rfl, rfl, rfl⟩ | exact ⟨Or.inl rfl, rfl, rfl⟩ | exact ⟨trivial, trivial⟩ | exact ⟨rfl, trivial⟩ | exact ⟨Or.inr rfl, rfl, trivial⟩ | exact ⟨Or.inl rfl, rfl, trivial⟩
      · unfold brd
        rw [if_neg e, ha, bt_zero, Bool.false_and]
/-- row k of the left ones -/
def rowK (s : ST) (v : RT) (tt : Nat → Nat) (m x : Nat) (ch : Nat → Nat) (k : Nat) (h : HP) : Prop := ∀ n, k ≤ n → n < m → ∀ q, q < 32 → bt (h.1 61 (k * 6 + n)) q = lft s v tt x ch k n q
theorem lft_s {k n p : Nat} (q : Nat) : lft s v tt x (upN ch k q) (k + 1) n p = (lft s v tt x ch k n p && !brd s (tt k) (tt n) q p) := by
  unfold lft
  have e : anyB (fun d => brd s (tt d) (tt n) (upN ch k q d) p) (k + 1) = (anyB (fun d => brd s (tt d) (tt n) (ch d) p) k || brd s (tt k) (tt n) q p) := by
    show (anyB _ k || brd s (tt k) (tt n) (upN ch k q k) p) = _
    rw [upN_k]
    congr 1
    have : ∀ j, j ≤ k → anyB (fun d => brd s (tt d) (tt n) (upN ch k q d) p) j = anyB (fun d => brd s (tt d) (tt n) (ch d) p) j := by
      intro j
      induction j with
      | zero => intro _; rfl
      | succ j ih =>
        intro hj
        show (anyB _ j || brd s (tt j) (tt n) (upN ch k q j) p) = (anyB _ j || brd s (tt j) (tt n) (ch j) p)
        rw [ih (by omega), upN_o ch q (by omega)]
    exact this k (Nat.le_refl _)
  rw [e]
  cases ablB s v (tt n) p && decide (p ≠ x) <;> cases anyB (fun d => brd s (tt d) (tt n) (ch d) p) k <;> cases brd s (tt k) (tt n) q p <;> rfl
theorem w_leaveOthers {hB : HP} (B : ilB s c v tt m bd hB) (o : OK s) (T : tOK s tt m v) (F : ilF s c tt m hB h) {k q : Nat} (hk : k < m) (hq : q < zP s) (L : rowK s v tt m x ch k h) : ∃ w h', Run 2 j_Illness_leaveOthers [.ref 57, .int (nI k), .int (nI q)] h w h' ∧ (ilF s c tt m hB h' ∧ (∀ a i, (a ≠ 61 ∨ i < (k + 1) * 6) → h'.1 a i = h.1 a i) ∧ h'.2 = h.2 ∧ ((w = some (.int 1) ∧ rowK s v tt m x (upN ch k q) (k + 1) h') ∨ (w = some (.int 0) ∧ ∃ n, k + 1 ≤ n ∧ n < m ∧ ∀ p, lft s v tt x (upN ch k q) (k + 1) n p = false))) := by
  have hT := o.T; have hP := o.P; have hK := o.K; have hD := o.D; have hO := o.O; have hQ := o.Q; have hL := o.L
  have h6 := T.1
  refine Run.ofP rfl ?_
  refine Wp.norm (L' := [_, _, _, _, _, _]) rfl ?_
  have e6 : nI k * 6 = nI (k * 6) := by rw [show (6 : Int32) = nI 6 from rfl, pk_mul]
  have lp : ∀ n, n ≤ m → k + 1 ≤ n → ∀ h', ilF s c tt m hB h' → (∀ a i, (a ≠ 61 ∨ i < (k + 1) * 6) → h'.1 a i = h.1 a i) → h'.2 = h.2 → (∀ n', k + 1 ≤ n' → n' < n → ∀ p, p < 32 → bt (h'.1 61 ((k + 1) * 6 + n')) p = lft s v tt x (upN ch k q) (k + 1) n' p) → Wp 2 j_Illness_leaveOthers 16 [.ref 57, .int (nI k), .int (nI q), .int (nI (k * 6)), .int (nI (k * 6 + 6)), .int (nI n)] [] h' (fun w h' => ilF s c tt m hB h' ∧ (∀ a i, (a ≠ 61 ∨ i < (k + 1) * 6) → h'.1 a i = h.1 a i) ∧ h'.2 = h.2 ∧ ((w = some (.int 1) ∧ rowK s v tt m x (upN ch k q) (k + 1) h') ∨ (w = some (.int 0) ∧ ∃ n, k + 1 ≤ n ∧ n < m ∧ ∀ p, lft s v tt x (upN ch k q) (k + 1) n p = false))) := by
    refine up_ind ?_ (fun n hn ih => ?_)
    · intro _ h' F' G J A
      have hc := F'.cnt B
      repeat (first | (refine W1 rfl ?_; try refine Wp.norm (L' := [_, _, _, _, _, _]) rfl ?_) | ((first | change (_ → _) ∧ (_ → _) | change vp_in _ _ ∧ _ | change ¬ _ ∧ _); simp (disch := omega) only [nI_clamp, nI_leI, nI_ltI, nI_eq, nI_1, nI_add, nI_not_neg, nI_is_pos, nI_m1, nI_z, hc]) | refine brT (by first | assumption | decide | omega) ?_ | refine brF (by first | assumption | decide | omega) ?_ | refine brTn (by first | assumption | decide | omega) ?_ | refine brFn (by first | assumption | decide | omega) ?_ | refine And.intro (vp_in_nI (by omega) (by decide)) ?_ | refine And.intro (vp_lit (by decide)) ?_ | refine divJ (by decide) ?_ | refine divI (by decide) ?_)
      try change _ ∧ _
      exact ⟨Or.inr rfl, F', G, J, Or.inl ⟨rfl, A⟩⟩
    · intro hkn h' F' G J A
      have hc := F'.cnt B
      have ht1 := F'.trn B hk
      have ht2 := F'.trn B hn
      have R' := F'.RC B
      have htk := (T.2.1 k hk).1
      have htn := (T.2.1 n hn).1
      have hlt := T.2.2 k n (by omega) hn
      obtain ⟨y, ry, By⟩ := r_barredBehind R' o htk htn hlt hq
      have hrow : ∀ p, p < 32 → bt (h'.1 61 (k * 6 + n)) p = lft s v tt x ch k n p := fun p hp => by
        rw [G 61 (k * 6 + n) (Or.inr (by omega))]
        exact L n (by omega) hn p hp
      have hbits : ∀ p, p < 32 → bt (h'.1 61 (k * 6 + n) &&& (y ^^^ (-1))) p = lft s v tt x (upN ch k q) (k + 1) n p := fun p hp => by
        rw [bt_and, bt_not _ hp, hrow p hp, By p hp, lft_s]
      repeat (first | (refine W1 rfl ?_; try refine Wp.norm (L' := [_, _, _, _, _, _]) rfl ?_) | ((first | change (_ → _) ∧ (_ → _) | change vp_in _ _ ∧ _ | change ¬ _ ∧ _); simp (disch := omega) only [nI_clamp, nI_leI, nI_ltI, nI_eq, nI_1, nI_add, nI_not_neg, nI_is_pos, nI_m1, nI_z, hc, e6]) | refine brT (by first | assumption | decide | omega) ?_ | refine brF (by first | assumption | decide | omega) ?_ | refine brTn (by first | assumption | decide | omega) ?_ | refine brFn (by first | assumption | decide | omega) ?_ | refine And.intro (vp_in_nI (by omega) (by decide)) ?_ | refine And.intro (vp_lit (by decide)) ?_ | refine divJ (by decide) ?_ | refine divI (by decide) ?_)
      try change _ ∧ _
      refine Cl.ofA ry (by first | done | rfl | (simp (disch := omega) only [nI_1, nI_add, nI_clamp, ht1, ht2] <;> first | done | rfl)) (by decide) ?_
      have eZ : ∀ z, (wI h' 61 (k * 6 + 6 + n) z).1 61 (k * 6 + 6 + n) = z := fun z => wI_same _ _ _ _
      repeat (first | (refine W1 rfl ?_; try refine Wp.norm (L' := [_, _, _, _, _, _]) rfl ?_) | ((first | change (_ → _) ∧ (_ → _) | change vp_in _ _ ∧ _ | change ¬ _ ∧ _); simp (disch := omega) only [nI_clamp, nI_leI, nI_ltI, nI_eq, nI_1, nI_add, nI_not_neg, nI_is_pos, nI_m1, nI_z, eZ]) | refine brT (by first | assumption | decide | omega) ?_ | refine brF (by first | assumption | decide | omega) ?_ | refine brTn (by first | assumption | decide | omega) ?_ | refine brFn (by first | assumption | decide | omega) ?_ | refine And.intro (vp_in_nI (by omega) (by decide)) ?_ | refine And.intro (vp_lit (by decide)) ?_ | refine divJ (by decide) ?_ | refine divI (by decide) ?_)
      try change _ ∧ _
      refine ⟨fun hz => ?_, fun hz => ?_⟩
      · have ih := ih (by omega) (wI h' 61 (k * 6 + 6 + n) (h'.1 61 (k * 6 + n) &&& (y ^^^ (-1)))) (F'.a60 (Or.inr rfl)) (fun a i hai => by
          by_cases ea : a = 61
          · subst ea
            rw [wI_ne2 _ _ (by omega)]; exact G 61 i hai
          · rw [wI_ne _ _ _ ea]; exact G a i hai) J (fun n' h1 h2 p hp => by
          by_cases en : n' = n
          · subst en
            rw [show (k + 1) * 6 + n' = k * 6 + 6 + n' by omega, wI_same]
            exact hbits p hp
          · rw [wI_ne2 _ _ (by omega)]
            exact A n' h1 (by omega) p hp)
        repeat (first | refine Wp.at ih rfl rfl ?_ ?_ | (refine W1 rfl ?_; try refine Wp.norm (L' := [_, _, _, _, _, _]) rfl ?_) | ((first | change (_ → _) ∧ (_ → _) | change vp_in _ _ ∧ _ | change ¬ _ ∧ _); simp (disch := omega) only [nI_clamp, nI_leI, nI_ltI, nI_eq, nI_1, nI_add, nI_not_neg, nI_is_pos, nI_m1, nI_z]) | refine brT (by first | assumption | decide | omega) ?_ | refine brF (by first | assumption | decide | omega) ?_ | refine brTn (by first | assumption | decide | omega) ?_ | refine brFn (by first | assumption | decide | omega) ?_ | refine And.intro (vp_in_nI (by omega) (by decide)) ?_ | refine And.intro (vp_lit (by decide)) ?_ | refine divJ (by decide) ?_ | refine divI (by decide) ?_)
        try change _ ∧ _
        · first | done | rfl | (simp (disch := omega) only [nI_1, nI_add, nI_clamp] <;> first | done | rfl)
        · first | done | rfl | (simp (disch := omega) only [nI_1, nI_add, nI_clamp] <;> first | done | rfl)
      · repeat (first | (refine W1 rfl ?_; try refine Wp.norm (L' := [_, _, _, _, _, _]) rfl ?_) | ((first | change (_ → _) ∧ (_ → _) | change vp_in _ _ ∧ _ | change ¬ _ ∧ _); simp (disch := omega) only [nI_clamp, nI_leI, nI_ltI, nI_eq, nI_1, nI_add, nI_not_neg, nI_is_pos, nI_m1, nI_z]) | refine brT (by first | assumption | decide | omega) ?_ | refine brF (by first | assumption | decide | omega) ?_ | refine brTn (by first | assumption | decide | omega) ?_ | refine brFn (by first | assumption | decide | omega) ?_ | refine And.intro (vp_in_nI (by omega) (by decide)) ?_ | refine And.intro (vp_lit (by decide)) ?_ | refine divJ (by decide) ?_ | refine divI (by decide) ?_)
        try change _ ∧ _
        refine ⟨Or.inl rfl, F'.a60 (Or.inr rfl), fun a i hai => ?_, J, Or.inr ⟨rfl, n, hkn, hn, fun p => ?_⟩⟩
        · by_cases ea : a = 61
          · subst ea
            rw [wI_ne2 _ _ (by omega)]; exact G 61 i hai
          · rw [wI_ne _ _ _ ea]; exact G a i hai
        · by_cases hp : p < 32
          · rw [← hbits p hp, hz, bt_zero]
          · unfold lft ablB
            simp [show ¬ p < zP s by omega]
  have ih := lp (k + 1) (by omega) (Nat.le_refl _) h F (fun _ _ _ => rfl) rfl (fun n' h1 h2 => absurd h2 (by omega))
  repeat (first | refine Wp.at ih rfl rfl ?_ rfl | (refine W1 rfl ?_; try refine Wp.norm (L' := [_, _, _, _, _, _]) rfl ?_) | ((first | change (_ → _) ∧ (_ → _) | change vp_in _ _ ∧ _ | change ¬ _ ∧ _); simp (disch := omega) only [nI_clamp, nI_leI, nI_ltI, nI_eq, nI_1, nI_add, nI_not_neg, nI_is_pos, nI_m1, nI_z, e6, show (6 : Int32) = nI 6 from rfl, pk_mul]) | refine brT (by first | assumption | decide | omega) ?_ | refine brF (by first | assumption | decide | omega) ?_ | refine brTn (by first | assumption | decide | omega) ?_ | refine brFn (by first | assumption | decide | omega) ?_ | refine And.intro (vp_in_nI (by omega) (by decide)) ?_ | refine And.intro (vp_lit (by decide)) ?_ | refine divJ (by decide) ?_ | refine divI (by decide) ?_)
  try change _ ∧ _
  rw [e6, show (6 : Int32) = nI 6 from rfl, nI_add, nI_1]
theorem wsk_le (s : ST) (c : RT) : (¬ bd < (wsk s c (zK s)).1) ↔ (¬ bd < (-1 : Int64)) ∧ ∀ k p, k < zK s → p < zP s → ¬ bd < gapV s c p (some k) := by
  have h1 : ∀ k a n, (¬ bd < (wsp s c k a n).1) ↔ (¬ bd < a.1) ∧ ∀ p, p < n → ¬ bd < gapV s c p (some k) := by
    intro k a n
    induction n with
    | zero => exact ⟨fun z => ⟨z, fun p hp => absurd hp (by omega)⟩, fun z => z.1⟩
    | succ n ih =>
      unfold wsp
      split
      · rename_i hlt
        constructor
        · intro z
          have := ih.mp (fun w => z (Int64.lt_trans w hlt))
          refine ⟨this.1, fun p hp => ?_⟩
          by_cases e : p = n
          · subst e; exact z
          · exact this.2 p (by omega)
        · rintro ⟨z1, z2⟩; exact z2 n (by omega)
      · rename_i hlt
        rw [ih]
        constructor
        · rintro ⟨z1, z2⟩
          refine ⟨z1, fun p hp => ?_⟩
          by_cases e : p = n
          · subst e
            have := ih.mpr ⟨z1, z2⟩
            rw [Int64.lt_iff_toInt_lt] at *
            omega
          · exact z2 p (by omega)
        · rintro ⟨z1, z2⟩; exact ⟨z1, fun p hp => z2 p (by omega)⟩
  have h2 : ∀ n, (¬ bd < (wsk s c n).1) ↔ (¬ bd < (-1 : Int64)) ∧ ∀ k p, k < n → p < zP s → ¬ bd < gapV s c p (some k) := by
    intro n
    induction n with
    | zero => exact ⟨fun z => ⟨z, fun k p hk => absurd hk (by omega)⟩, fun z => z.1⟩
    | succ n ih =>
      unfold wsk
      rw [h1, ih]
      constructor
      · rintro ⟨⟨z1, z2⟩, z3⟩
        refine ⟨z1, fun k p hk hp => ?_⟩
        by_cases e : k = n
        · subst e; exact z3 p hp
        · exact z2 k p (by omega) hp
      · rintro ⟨z1, z2⟩
        exact ⟨⟨z1, fun k p hk hp => z2 k p (by omega) hp⟩, fun p hp => z2 n p (by omega) hp⟩
  exact h2 _
/-- the turns taken by p -/
def tkB (ch : Nat → Nat) (p n : Nat) : Bool := decide (ch n = p)
theorem okF_all (o : OK s) (T : tOK s tt m v) (hbd : ¬ bd < 0) (hc : ∀ d, d < m → ch d < zP s) : fitB s c tt m bd ch = true ↔ ∀ p, p < zP s → okF s c tt m bd p (tkN (tkB ch p) m) = true := by
  have hP := o.P
  unfold fitB
  rw [decide_eq_true_eq, wsk_le]
  have hg : ∀ k p, p < zP s → gapV s (asg tt c ch m) p (some k) = gapV s (tkA tt c p (tkN (tkB ch p) m) m) p (some k) := fun k p hp => gap_congr (fun t ht _ => by
    by_cases e : ∃ n, n < m ∧ t = tt n
    · obtain ⟨n, hn, rfl⟩ := e
      have h1 := hc n hn
      rw [asg_at T c ch m n hn (Nat.le_refl _), tkA_at T p _ m n hn (Nat.le_refl _), tkN_bit _ m n hn, nI_eq (by omega) (by omega)]
      unfold tkB
      by_cases e2 : ch n = p
      · simp [e2]
      · simp only [e2, decide_false, Bool.false_eq_true, if_false, false_iff]
        exact fun z => (nI_m1' (by omega)).mp z
    · have e' : ∀ n, n < m → t ≠ tt n := fun n hn z => e ⟨n, hn, z⟩
      rw [asg_o c ch m t e', tkA_o p _ m t e'])
  have hb1 : ¬ bd < (-1 : Int64) := by
    rw [Int64.lt_iff_toInt_lt] at *
    rw [show (0 : Int64).toInt = 0 from rfl] at hbd
    rw [show (-1 : Int64).toInt = -1 from rfl]
    omega
  have f1 : ∀ p, okF s c tt m bd p (tkN (tkB ch p) m) = true ↔ ∀ k, k < zK s → ¬ bd < gapV s (tkA tt c p (tkN (tkB ch p) m) m) p (some k) := by
    intro p
    unfold okF
    rw [Bool.not_eq_true', ← Bool.not_eq_true, anyB_iff]
    simp only [decide_eq_true_eq]
    exact ⟨fun z k hk hh => z ⟨k, hk, hh⟩, fun z ⟨k, hk, hh⟩ => z k hk hh⟩
  constructor
  · rintro ⟨_, z⟩ p hp
    rw [f1]
    intro k hk
    rw [← hg k p hp]
    exact z k p hk hp
  · intro z
    refine ⟨hb1, fun k p hk hp => ?_⟩
    rw [hg k p hp]
    exact (f1 p).mp (z p hp) k hk
theorem w_doAllFit {hB : HP} (B : ilB s c v tt m bd hB) (o : OK s) (T : tOK s tt m v) (hbd : ¬ bd < 0) (F : ilF s c tt m hB h) (M : MV s c tt m bd h) (hc : ∀ d, d < m → ch d < zP s) (hch : ∀ d, d < m → h.1 60 d = nI (ch d)) : ∃ w h', Run 4 j_Illness_doAllFit [.ref 57] h w h' ∧ (w = some (.int (bI (fitB s c tt m bd ch))) ∧ ilF s c tt m hB h' ∧ MV s c tt m bd h' ∧ (∀ k i, k ≠ 46 → h'.1 k i = h.1 k i)) := by
  have hT := o.T; have hP := o.P; have hK := o.K; have hD := o.D; have hO := o.O; have hQ := o.Q; have hL := o.L
  have h6 := T.1
  refine Run.ofP rfl ?_
  refine Wp.norm (L' := [_, _, _, _]) rfl ?_
  have lp : ∀ p, p ≤ zP s → ∀ h' x2 x3, ilF s c tt m hB h' → MV s c tt m bd h' → (∀ k i, k ≠ 46 → h'.1 k i = h.1 k i) → (∀ p', p' < p → okF s c tt m bd p' (tkN (tkB ch p') m) = true) → Wp 4 j_Illness_doAllFit 2 [.ref 57, .int (nI p), x2, x3] [] h' (fun w h' => w = some (.int (bI (fitB s c tt m bd ch))) ∧ ilF s c tt m hB h' ∧ MV s c tt m bd h' ∧ (∀ k i, k ≠ 46 → h'.1 k i = h.1 k i)) := by
    refine up_ind ?_ (fun p hp ih => ?_)
    · intro h' x2 x3 F' M' G A
      have R' := F'.RC B
      repeat (first | (refine W1 rfl ?_; try refine Wp.norm (L' := [_, _, _, _]) rfl ?_) | ((first | change (_ → _) ∧ (_ → _) | change vp_in _ _ ∧ _ | change ¬ _ ∧ _); simp (disch := omega) only [nI_clamp, nI_leI, nI_ltI, nI_eq, nI_1, nI_add, nI_not_neg, nI_is_pos, nI_m1, nI_z, R'.P]) | refine brT (by first | assumption | decide | omega) ?_ | refine brF (by first | assumption | decide | omega) ?_ | refine brTn (by first | assumption | decide | omega) ?_ | refine brFn (by first | assumption | decide | omega) ?_ | refine And.intro (vp_in_nI (by omega) (by decide)) ?_ | refine And.intro (vp_lit (by decide)) ?_ | refine divJ (by decide) ?_ | refine divI (by decide) ?_)
      try change _ ∧ _
      rw [(okF_all o T hbd hc).mpr A]
      exact ⟨Or.inr rfl, rfl, F', M', G⟩
    · intro h' x2 x3 F' M' G A
      have R' := F'.RC B
      have hcn := F'.cnt B
      have inner : ∀ n, n ≤ m → Wp 4 j_Illness_doAllFit 17 [.ref 57, .int (nI p), .int (mkM (tkB ch p) n), .int (nI n)] [] h' (fun w h' => w = some (.int (bI (fitB s c tt m bd ch))) ∧ ilF s c tt m hB h' ∧ MV s c tt m bd h' ∧ (∀ k i, k ≠ 46 → h'.1 k i = h.1 k i)) := by
        refine up_ind ?_ (fun n hn ih2 => ?_)
        · have hq : tkN (tkB ch p) m < 64 := Nat.lt_of_lt_of_le (tkN_lt _ m) (Nat.pow_le_pow_right (by decide) h6 : 2 ^ m ≤ 2 ^ 6)
          obtain ⟨_, h2, r2, rfl, F2, M2, G2⟩ := w_doesFit B o T F' M' hp hq
          rw [tkN_mk _ (by omega)]
          repeat (first | (refine W1 rfl ?_; try refine Wp.norm (L' := [_, _, _, _]) rfl ?_) | ((first | change (_ → _) ∧ (_ → _) | change vp_in _ _ ∧ _ | change ¬ _ ∧ _); simp (disch := omega) only [nI_clamp, nI_leI, nI_ltI, nI_eq, nI_1, nI_add, nI_not_neg, nI_is_pos, nI_m1, nI_z, hcn]) | refine brT (by first | assumption | decide | omega) ?_ | refine brF (by first | assumption | decide | omega) ?_ | refine brTn (by first | assumption | decide | omega) ?_ | refine brFn (by first | assumption | decide | omega) ?_ | refine And.intro (vp_in_nI (by omega) (by decide)) ?_ | refine And.intro (vp_lit (by decide)) ?_ | refine divJ (by decide) ?_ | refine divI (by decide) ?_)
          try change _ ∧ _
          refine Cl.of r2 (by decide) ?_
          cases hf : okF s c tt m bd p (tkN (tkB ch p) m) with
          | true =>
            have ih := ih h2 (.int (nI (tkN (tkB ch p) m))) (.int (nI m)) F2 M2 (fun k i hk => by rw [G2 k i hk]; exact G k i hk) (fun p' hp' => by
              by_cases e : p' = p
              · rw [e]; exact hf
              · exact A p' (by omega))
            repeat (first | refine Wp.at ih rfl rfl ?_ rfl | (refine W1 rfl ?_; try refine Wp.norm (L' := [_, _, _, _]) rfl ?_) | ((first | change (_ → _) ∧ (_ → _) | change vp_in _ _ ∧ _ | change ¬ _ ∧ _); simp (disch := omega) only [nI_clamp, nI_leI, nI_ltI, nI_eq, nI_1, nI_add, nI_not_neg, nI_is_pos, nI_m1, nI_z]) | refine brT (by first | assumption | decide | omega) ?_ | refine brF (by first | assumption | decide | omega) ?_ | refine brTn (by first | assumption | decide | omega) ?_ | refine brFn (by first | assumption | decide | omega) ?_ | refine And.intro (vp_in_nI (by omega) (by decide)) ?_ | refine And.intro (vp_lit (by decide)) ?_ | refine divJ (by decide) ?_ | refine divI (by decide) ?_)
            try change _ ∧ _
            first | done | rfl | (simp (disch := omega) only [nI_1, nI_add, nI_clamp] <;> first | done | rfl)
          | false =>
            repeat (first | (refine W1 rfl ?_; try refine Wp.norm (L' := [_, _, _, _]) rfl ?_) | ((first | change (_ → _) ∧ (_ → _) | change vp_in _ _ ∧ _ | change ¬ _ ∧ _); simp (disch := omega) only [nI_clamp, nI_leI, nI_ltI, nI_eq, nI_1, nI_add, nI_not_neg, nI_is_pos, nI_m1, nI_z]) | refine brT (by first | assumption | decide | omega) ?_ | refine brF (by first | assumption | decide | omega) ?_ | refine brTn (by first | assumption | decide | omega) ?_ | refine brFn (by first | assumption | decide | omega) ?_ | refine And.intro (vp_in_nI (by omega) (by decide)) ?_ | refine And.intro (vp_lit (by decide)) ?_ | refine divJ (by decide) ?_ | refine divI (by decide) ?_)
            try change _ ∧ _
            have : fitB s c tt m bd ch = false := by
              cases e : fitB s c tt m bd ch with
              | false => rfl
              | true => rw [(okF_all o T hbd hc).mp e p hp] at hf; cases hf
            rw [this]
            exact ⟨Or.inl rfl, rfl, F2, M2, fun k i hk => by rw [G2 k i hk]; exact G k i hk⟩
        · have e : mkM (tkB ch p) (n + 1) = if tkB ch p n = true then mkM (tkB ch p) n ||| (1 <<< (nI n &&& 31)) else mkM (tkB ch p) n := rfl
          rw [e] at ih2
          have ih := ih2
          have hcd : h'.1 60 n = nI (ch n) := by rw [G 60 n (by decide)]; exact hch n hn
          have hcl := hc n hn
          unfold tkB at ih
          repeat (first | (refine W1 rfl ?_; try refine Wp.norm (L' := [_, _, _, _]) rfl ?_) | ((first | change (_ → _) ∧ (_ → _) | change vp_in _ _ ∧ _ | change ¬ _ ∧ _); simp (disch := omega) only [nI_clamp, nI_leI, nI_ltI, nI_eq, nI_1, nI_add, nI_not_neg, nI_is_pos, nI_m1, nI_z, hcn, hcd]) | refine brT (by first | assumption | decide | omega) ?_ | refine brF (by first | assumption | decide | omega) ?_ | refine brTn (by first | assumption | decide | omega) ?_ | refine brFn (by first | assumption | decide | omega) ?_ | refine And.intro (vp_in_nI (by omega) (by decide)) ?_ | refine And.intro (vp_lit (by decide)) ?_ | refine divJ (by decide) ?_ | refine divI (by decide) ?_)
          try change _ ∧ _
          refine ⟨fun z => ?_, fun z => ?_⟩
          · rw [if_neg (by simpa using z)] at ih
            repeat (first | refine Wp.at ih rfl rfl ?_ rfl | (refine W1 rfl ?_; try refine Wp.norm (L' := [_, _, _, _]) rfl ?_) | ((first | change (_ → _) ∧ (_ → _) | change vp_in _ _ ∧ _ | change ¬ _ ∧ _); simp (disch := omega) only [nI_clamp, nI_leI, nI_ltI, nI_eq, nI_1, nI_add, nI_not_neg, nI_is_pos, nI_m1, nI_z]) | refine brT (by first | assumption | decide | omega) ?_ | refine brF (by first | assumption | decide | omega) ?_ | refine brTn (by first | assumption | decide | omega) ?_ | refine brFn (by first | assumption | decide | omega) ?_ | refine And.intro (vp_in_nI (by omega) (by decide)) ?_ | refine And.intro (vp_lit (by decide)) ?_ | refine divJ (by decide) ?_ | refine divI (by decide) ?_)
            try change _ ∧ _
            first | done | rfl | (simp (disch := omega) only [nI_1, nI_add, nI_clamp] <;> first | done | rfl)
          · rw [if_pos (by simpa using z)] at ih
            repeat (first | refine Wp.at ih rfl rfl ?_ rfl | (refine W1 rfl ?_; try refine Wp.norm (L' := [_, _, _, _]) rfl ?_) | ((first | change (_ → _) ∧ (_ → _) | change vp_in _ _ ∧ _ | change ¬ _ ∧ _); simp (disch := omega) only [nI_clamp, nI_leI, nI_ltI, nI_eq, nI_1, nI_add, nI_not_neg, nI_is_pos, nI_m1, nI_z]) | refine brT (by first | assumption | decide | omega) ?_ | refine brF (by first | assumption | decide | omega) ?_ | refine brTn (by first | assumption | decide | omega) ?_ | refine brFn (by first | assumption | decide | omega) ?_ | refine And.intro (vp_in_nI (by omega) (by decide)) ?_ | refine And.intro (vp_lit (by decide)) ?_ | refine divJ (by decide) ?_ | refine divI (by decide) ?_)
            try change _ ∧ _
            first | done | rfl | (simp (disch := omega) only [nI_1, nI_add, nI_clamp] <;> first | done | rfl)
      have ih := inner 0 (Nat.zero_le _)
      (refine W1 rfl ?_; try refine Wp.norm (L' := [_, _, _, _]) rfl ?_)
      repeat (first | refine Wp.at ih rfl rfl ?_ rfl | (refine W1 rfl ?_; try refine Wp.norm (L' := [_, _, _, _]) rfl ?_) | ((first | change (_ → _) ∧ (_ → _) | change vp_in _ _ ∧ _ | change ¬ _ ∧ _); simp (disch := omega) only [nI_clamp, nI_leI, nI_ltI, nI_eq, nI_1, nI_add, nI_not_neg, nI_is_pos, nI_m1, nI_z, R'.P]) | refine brT (by first | assumption | decide | omega) ?_ | refine brF (by first | assumption | decide | omega) ?_ | refine brTn (by first | assumption | decide | omega) ?_ | refine brFn (by first | assumption | decide | omega) ?_ | refine And.intro (vp_in_nI (by omega) (by decide)) ?_ | refine And.intro (vp_lit (by decide)) ?_ | refine divJ (by decide) ?_ | refine divI (by decide) ?_)
      try change _ ∧ _
      first | done | rfl | (simp (disch := omega) only [nI_1, nI_add, nI_clamp] <;> first | done | rfl)
  have ih := lp 0 (Nat.zero_le _) h .null .null F M (fun _ _ _ => rfl) (fun p' hp' => absurd hp' (by omega))
  repeat (first | refine Wp.at ih rfl rfl ?_ rfl | (refine W1 rfl ?_; try refine Wp.norm (L' := [_, _, _, _]) rfl ?_) | ((first | change (_ → _) ∧ (_ → _) | change vp_in _ _ ∧ _ | change ¬ _ ∧ _); simp (disch := omega) only [nI_clamp, nI_leI, nI_ltI, nI_eq, nI_1, nI_add, nI_not_neg, nI_is_pos, nI_m1, nI_z]) | refine brT (by first | assumption | decide | omega) ?_ | refine brF (by first | assumption | decide | omega) ?_ | refine brTn (by first | assumption | decide | omega) ?_ | refine brFn (by first | assumption | decide | omega) ?_ | refine And.intro (vp_in_nI (by omega) (by decide)) ?_ | refine And.intro (vp_lit (by decide)) ?_ | refine divJ (by decide) ?_ | refine divI (by decide) ?_)
  try change _ ∧ _
  first | done | rfl | (simp (disch := omega) only [nI_1, nI_add, nI_clamp] <;> first | done | rfl)
end ILL4
