/-! ===== LEAST, CYCLE ===== -/
def okN (s : ST) (n a b : Nat) : Bool := !anyB (stk s n a b) n
def bsr (ok : Nat → Bool) : Nat → Nat → Nat → Nat
  | 0, _, hi => hi
  | k + 1, lo, hi => if lo < hi then (if ok ((lo + hi) / 2) = true then bsr ok k lo ((lo + hi) / 2) else bsr ok k ((lo + hi) / 2 + 1) hi) else hi
def lstV (s : ST) (n : Nat) : Int32 := if okN s n 720720 720720 = true then nI (bsr (fun m => okN s n m m) 20 0 720720) else -1
section LEAST
variable {s : ST} {c v : RT} {h : HP} {n a b : Nat}
theorem okN_t (H : ∀ t, t < n → stk s n a b t = false) : okN s n a b = true := by
  unfold okN
  cases e : anyB (stk s n a b) n with
  | false => rfl
  | true =>
    obtain ⟨t, h1, h2⟩ := (anyB_iff _ _).mp e
    rw [H t h1] at h2
    cases h2
theorem okN_f {t : Nat} (ht : t < n) (H : stk s n a b t = true) : okN s n a b = false := by
  unfold okN
  rw [(anyB_iff _ _).mpr ⟨t, ht, H⟩]
  rfl
theorem cbP_w {w : Option Value} {h' : HP} (H : cbP s n a b h w h') : w = some (.int (bI (okN s n a b))) := by
  rcases H.2 with ⟨e, A, _⟩ | ⟨e, t, ht, st, _⟩
  · rw [okN_t A]; exact e
  · rw [okN_f ht st]; exact e
theorem cbM_w {w : Option Value} {h' : HP} (H : cbM s n a b h w h') : w = some (.int (bI (okN s n a b))) := by
  rcases H.2 with ⟨e, A, _⟩ | ⟨e, t, ht, st, _⟩
  · rw [okN_t A]; exact e
  · rw [okN_f ht st]; exact e
theorem w_Evener_leastOf (R : RC s c v h) (o : OK s) (hn : n ≤ 200) : ∃ w h', Run 3 j_Evener_leastOf [.ref 50, .int (nI n)] h w h' ∧ (w = some (.int (lstV s n)) ∧ evF h h') := by
  refine Run.ofP rfl ?_
  refine Wp.norm (L' := [_, _, _, _, _, _]) rfl ?_
  obtain ⟨_, h1, r1, C1⟩ := w_Evener_canBe (a := 720720) (b := 720720) R o hn (Nat.le_refl _) (Nat.le_refl _)
  have hw := cbP_w C1
  subst hw
  by_cases ok0 : okN s n 720720 720720 = true
  · have lp : ∀ k j lo hi h' x5, hi - lo < 2 ^ k → lo ≤ hi → hi ≤ 720720 → j + k ≤ 32 → evF h h' → Wp 3 j_Evener_leastOf 22 [.ref 50, .int (nI n), .int (nI lo), .int (nI hi), .int (nI j), x5] [] h' (fun w h' => w = some (.int (nI (bsr (fun m => okN s n m m) k lo hi))) ∧ evF h h') := by
      intro k
      induction k with
      | zero =>
        intro j lo hi h' x5 g1 g2 g3 g4 E
        have : lo = hi := by omega
        subst this
        repeat (first | (refine W1 rfl ?_; try refine Wp.norm (L' := [_, _, _, _, _, _]) rfl ?_) | ((first | change (_ → _) ∧ (_ → _) | change vp_in _ _ ∧ _ | change ¬ _ ∧ _); simp (disch := omega) only [nI_clamp, nI_leI, nI_ltI, nI_eq, nI_1, nI_add, nI_not_neg, nI_is_pos, nI_m1, nI_z, show (32 : Int32) = nI 32 from rfl]) | refine brT (by first | assumption | decide | omega) ?_ | refine brF (by first | assumption | decide | omega) ?_ | refine brTn (by first | assumption | decide | omega) ?_ | refine brFn (by first | assumption | decide | omega) ?_ | refine And.intro (vp_in_nI (by omega) (by decide)) ?_ | refine And.intro (vp_lit (by decide)) ?_ | refine divJ (by decide) ?_ | refine divI (by decide) ?_)
        try change _ ∧ _
        refine ⟨fun q => ?_, fun q => ?_⟩
        · repeat (first | (refine W1 rfl ?_; try refine Wp.norm (L' := [_, _, _, _, _, _]) rfl ?_) | ((first | change (_ → _) ∧ (_ → _) | change vp_in _ _ ∧ _ | change ¬ _ ∧ _); simp (disch := omega) only [nI_clamp, nI_leI, nI_ltI, nI_eq, nI_1, nI_add, nI_not_neg, nI_is_pos, nI_m1, nI_z]) | refine brT (by first | assumption | decide | omega) ?_ | refine brF (by first | assumption | decide | omega) ?_ | refine brTn (by first | assumption | decide | omega) ?_ | refine brFn (by first | assumption | decide | omega) ?_ | refine And.intro (vp_in_nI (by omega) (by decide)) ?_ | refine And.intro (vp_lit (by decide)) ?_ | refine divJ (by decide) ?_ | refine divI (by decide) ?_)
          try change _ ∧ _
          exact ⟨rfl, E⟩
        · repeat (first | (refine W1 rfl ?_; try refine Wp.norm (L' := [_, _, _, _, _, _]) rfl ?_) | ((first | change (_ → _) ∧ (_ → _) | change vp_in _ _ ∧ _ | change ¬ _ ∧ _); simp (disch := omega) only [nI_clamp, nI_leI, nI_ltI, nI_eq, nI_1, nI_add, nI_not_neg, nI_is_pos, nI_m1, nI_z]) | refine brT (by first | assumption | decide | omega) ?_ | refine brF (by first | assumption | decide | omega) ?_ | refine brTn (by first | assumption | decide | omega) ?_ | refine brFn (by first | assumption | decide | omega) ?_ | refine And.intro (vp_in_nI (by omega) (by decide)) ?_ | refine And.intro (vp_lit (by decide)) ?_ | refine divJ (by decide) ?_ | refine divI (by decide) ?_)
          try change _ ∧ _
          exact ⟨rfl, E⟩
      | succ k ihk =>
        intro j lo hi h' x5 g1 g2 g3 g4 E
        have R' := R.same E.same
        unfold bsr
        by_cases hlt : lo < hi
        · rw [if_pos hlt]
          have hm : (lo + hi) / 2 ≤ 720720 := by omega
          obtain ⟨_, h2, r2, C2⟩ := w_Evener_canBe (a := (lo + hi) / 2) (b := (lo + hi) / 2) R' o hn hm hm
          have hw := cbP_w C2
          subst hw
          have E2 := E.trans C2.1
          have p2 : 2 ^ (k + 1) = 2 * 2 ^ k := by rw [Nat.pow_succ]; omega
          repeat (first | (refine W1 rfl ?_; try refine Wp.norm (L' := [_, _, _, _, _, _]) rfl ?_) | ((first | change (_ → _) ∧ (_ → _) | change vp_in _ _ ∧ _ | change ¬ _ ∧ _); simp (disch := omega) only [nI_clamp, nI_leI, nI_ltI, nI_eq, nI_1, nI_add, nI_not_neg, nI_is_pos, nI_m1, nI_z, show (32 : Int32) = nI 32 from rfl]) | refine brT (by first | assumption | decide | omega) ?_ | refine brF (by first | assumption | decide | omega) ?_ | refine brTn (by first | assumption | decide | omega) ?_ | refine brFn (by first | assumption | decide | omega) ?_ | refine And.intro (vp_in_nI (by omega) (by decide)) ?_ | refine And.intro (vp_lit (by decide)) ?_ | refine divJ (by decide) ?_ | refine divI (by decide) ?_)
          try change _ ∧ _
          refine Cl.ofA r2 (by rw [show (2 : Int32) = nI 2 from rfl, pk_div (by omega) (by decide) (by decide)]; rfl) (by decide) ?_
          cases e : okN s n ((lo + hi) / 2) ((lo + hi) / 2) with
          | true =>
            rw [if_pos rfl]
            have ih := ihk (j + 1) lo ((lo + hi) / 2) h2 (.int (nI ((lo + hi) / 2))) (by omega) (by omega) (by omega) (by omega) E2
            repeat (first | refine Wp.at ih rfl rfl ?_ rfl | (refine W1 rfl ?_; try refine Wp.norm (L' := [_, _, _, _, _, _]) rfl ?_) | ((first | change (_ → _) ∧ (_ → _) | change vp_in _ _ ∧ _ | change ¬ _ ∧ _); simp (disch := omega) only [nI_clamp, nI_leI, nI_ltI, nI_eq, nI_1, nI_add, nI_not_neg, nI_is_pos, nI_m1, nI_z]) | refine brT (by first | assumption | decide | omega) ?_ | refine brF (by first | assumption | decide | omega) ?_ | refine brTn (by first | assumption | decide | omega) ?_ | refine brFn (by first | assumption | decide | omega) ?_ | refine And.intro (vp_in_nI (by omega) (by decide)) ?_ | refine And.intro (vp_lit (by decide)) ?_ | refine divJ (by decide) ?_ | refine divI (by decide) ?_)
            try change _ ∧ _
            rw [show (2 : Int32) = nI 2 from rfl, pk_div (by omega) (by decide) (by decide)]
            first | done | rfl | (simp (disch := omega) only [nI_1, nI_add, nI_clamp] <;> first | done | rfl)
          | false =>
            rw [if_neg (by decide)]
            have ih := ihk (j + 1) ((lo + hi) / 2 + 1) hi h2 (.int (nI ((lo + hi) / 2))) (by omega) (by omega) (by omega) (by omega) E2
            repeat (first | refine Wp.at ih rfl rfl ?_ rfl | (refine W1 rfl ?_; try refine Wp.norm (L' := [_, _, _, _, _, _]) rfl ?_) | ((first | change (_ → _) ∧ (_ → _) | change vp_in _ _ ∧ _ | change ¬ _ ∧ _); simp (disch := omega) only [nI_clamp, nI_leI, nI_ltI, nI_eq, nI_1, nI_add, nI_not_neg, nI_is_pos, nI_m1, nI_z]) | refine brT (by first | assumption | decide | omega) ?_ | refine brF (by first | assumption | decide | omega) ?_ | refine brTn (by first | assumption | decide | omega) ?_ | refine brFn (by first | assumption | decide | omega) ?_ | refine And.intro (vp_in_nI (by omega) (by decide)) ?_ | refine And.intro (vp_lit (by decide)) ?_ | refine divJ (by decide) ?_ | refine divI (by decide) ?_)
            try change _ ∧ _
            rw [show (2 : Int32) = nI 2 from rfl, pk_div (by omega) (by decide) (by decide)]
            first | done | rfl | (simp (disch := omega) only [nI_1, nI_add, nI_clamp] <;> first | done | rfl)
        · rw [if_neg hlt]
          repeat (first | (refine W1 rfl ?_; try refine Wp.norm (L' := [_, _, _, _, _, _]) rfl ?_) | ((first | change (_ → _) ∧ (_ → _) | change vp_in _ _ ∧ _ | change ¬ _ ∧ _); simp (disch := omega) only [nI_clamp, nI_leI, nI_ltI, nI_eq, nI_1, nI_add, nI_not_neg, nI_is_pos, nI_m1, nI_z, show (32 : Int32) = nI 32 from rfl]) | refine brT (by first | assumption | decide | omega) ?_ | refine brF (by first | assumption | decide | omega) ?_ | refine brTn (by first | assumption | decide | omega) ?_ | refine brFn (by first | assumption | decide | omega) ?_ | refine And.intro (vp_in_nI (by omega) (by decide)) ?_ | refine And.intro (vp_lit (by decide)) ?_ | refine divJ (by decide) ?_ | refine divI (by decide) ?_)
          try change _ ∧ _
          exact ⟨rfl, E⟩
    have ih := lp 20 0 0 720720 h1 .null (by decide) (by decide) (by decide) (by decide) C1.1
    unfold lstV
    rw [if_pos ok0]
    repeat (first | (refine W1 rfl ?_; try refine Wp.norm (L' := [_, _, _, _, _, _]) rfl ?_) | ((first | change (_ → _) ∧ (_ → _) | change vp_in _ _ ∧ _ | change ¬ _ ∧ _); simp (disch := omega) only [nI_clamp, nI_leI, nI_ltI, nI_eq, nI_1, nI_add, nI_not_neg, nI_is_pos, nI_m1, nI_z]) | refine brT (by first | assumption | decide | omega) ?_ | refine brF (by first | assumption | decide | omega) ?_ | refine brTn (by first | assumption | decide | omega) ?_ | refine brFn (by first | assumption | decide | omega) ?_ | refine And.intro (vp_in_nI (by omega) (by decide)) ?_ | refine And.intro (vp_lit (by decide)) ?_ | refine divJ (by decide) ?_ | refine divI (by decide) ?_)
    try change _ ∧ _
    refine Cl.ofA r1 rfl (by decide) ?_
    rw [ok0]
    repeat (first | refine Wp.at ih rfl rfl ?_ rfl | (refine W1 rfl ?_; try refine Wp.norm (L' := [_, _, _, _, _, _]) rfl ?_) | ((first | change (_ → _) ∧ (_ → _) | change vp_in _ _ ∧ _ | change ¬ _ ∧ _); simp (disch := omega) only [nI_clamp, nI_leI, nI_ltI, nI_eq, nI_1, nI_add, nI_not_neg, nI_is_pos, nI_m1, nI_z]) | refine brT (by first | assumption | decide | omega) ?_ | refine brF (by first | assumption | decide | omega) ?_ | refine brTn (by first | assumption | decide | omega) ?_ | refine brFn (by first | assumption | decide | omega) ?_ | refine And.intro (vp_in_nI (by omega) (by decide)) ?_ | refine And.intro (vp_lit (by decide)) ?_ | refine divJ (by decide) ?_ | refine divI (by decide) ?_)
    try change _ ∧ _
    first | done | rfl | (simp (disch := omega) only [nI_1, nI_add, nI_clamp] <;> first | done | rfl)
  · unfold lstV
    rw [if_neg ok0]
    repeat (first | (refine W1 rfl ?_; try refine Wp.norm (L' := [_, _, _, _, _, _]) rfl ?_) | ((first | change (_ → _) ∧ (_ → _) | change vp_in _ _ ∧ _ | change ¬ _ ∧ _); simp (disch := omega) only [nI_clamp, nI_leI, nI_ltI, nI_eq, nI_1, nI_add, nI_not_neg, nI_is_pos, nI_m1, nI_z]) | refine brT (by first | assumption | decide | omega) ?_ | refine brF (by first | assumption | decide | omega) ?_ | refine brTn (by first | assumption | decide | omega) ?_ | refine brFn (by first | assumption | decide | omega) ?_ | refine And.intro (vp_in_nI (by omega) (by decide)) ?_ | refine And.intro (vp_lit (by decide)) ?_ | refine divJ (by decide) ?_ | refine divI (by decide) ?_)
    try change _ ∧ _
    refine Cl.ofA r1 rfl (by decide) ?_
    rw [show okN s n 720720 720720 = false by simpa using ok0]
    repeat (first | (refine W1 rfl ?_; try refine Wp.norm (L' := [_, _, _, _, _, _]) rfl ?_) | ((first | change (_ → _) ∧ (_ → _) | change vp_in _ _ ∧ _ | change ¬ _ ∧ _); simp (disch := omega) only [nI_clamp, nI_leI, nI_ltI, nI_eq, nI_1, nI_add, nI_not_neg, nI_is_pos, nI_m1, nI_z]) | refine brT (by first | assumption | decide | omega) ?_ | refine brF (by first | assumption | decide | omega) ?_ | refine brTn (by first | assumption | decide | omega) ?_ | refine brFn (by first | assumption | decide | omega) ?_ | refine And.intro (vp_in_nI (by omega) (by decide)) ?_ | refine And.intro (vp_lit (by decide)) ?_ | refine divJ (by decide) ?_ | refine divI (by decide) ?_)
    try change _ ∧ _
    exact ⟨rfl, C1.1⟩
theorem w_M_leastOf (R : RM s c v h) (o : OK s) (hn : n ≤ 200) : ∃ w h', Run 2 j_M_leastOf [.ref 65, .int (nI n)] h w h' ∧ (w = some (.int (lstV s n)) ∧ cmF h h') := by
  refine Run.ofP rfl ?_
  refine Wp.norm (L' := [_, _, _, _, _]) rfl ?_
  obtain ⟨_, h1, r1, C1⟩ := w_M_evens (a := 720720) (b := 720720) R o hn (Nat.le_refl _) (Nat.le_refl _)
  have hw := cbM_w C1
  subst hw
  by_cases ok0 : okN s n 720720 720720 = true
  · have lp : ∀ k lo hi h' x4, hi - lo < 2 ^ k → lo ≤ hi → hi ≤ 720720 → cmF h h' → Wp 2 j_M_leastOf 22 [.ref 65, .int (nI n), .int (nI lo), .int (nI hi), x4] [] h' (fun w h' => w = some (.int (nI (bsr (fun m => okN s n m m) k lo hi))) ∧ cmF h h') := by
      intro k
      induction k with
      | zero =>
        intro lo hi h' x4 g1 g2 g3 E
        have : lo = hi := by omega
        subst this
        repeat (first | (refine W1 rfl ?_; try refine Wp.norm (L' := [_, _, _, _, _]) rfl ?_) | ((first | change (_ → _) ∧ (_ → _) | change vp_in _ _ ∧ _ | change ¬ _ ∧ _); simp (disch := omega) only [nI_clamp, nI_leI, nI_ltI, nI_eq, nI_1, nI_add, nI_not_neg, nI_is_pos, nI_m1, nI_z]) | refine brT (by first | assumption | decide | omega) ?_ | refine brF (by first | assumption | decide | omega) ?_ | refine brTn (by first | assumption | decide | omega) ?_ | refine brFn (by first | assumption | decide | omega) ?_ | refine And.intro (vp_in_nI (by omega) (by decide)) ?_ | refine And.intro (vp_lit (by decide)) ?_ | refine divJ (by decide) ?_ | refine divI (by decide) ?_)
        try change _ ∧ _
        exact ⟨rfl, E⟩
      | succ k ihk =>
        intro lo hi h' x4 g1 g2 g3 E
        have R' := R.same E.same
        unfold bsr
        by_cases hlt : lo < hi
        · rw [if_pos hlt]
          have hm : (lo + hi) / 2 ≤ 720720 := by omega
          obtain ⟨_, h2, r2, C2⟩ := w_M_evens (a := (lo + hi) / 2) (b := (lo + hi) / 2) R' o hn hm hm
          have hw := cbM_w C2
          subst hw
          have E2 := E.trans C2.1
          have p2 : 2 ^ (k + 1) = 2 * 2 ^ k := by rw [Nat.pow_succ]; omega
          repeat (first | (refine W1 rfl ?_; try refine Wp.norm (L' := [_, _, _, _, _]) rfl ?_) | ((first | change (_ → _) ∧ (_ → _) | change vp_in _ _ ∧ _ | change ¬ _ ∧ _); simp (disch := omega) only [nI_clamp, nI_leI, nI_ltI, nI_eq, nI_1, nI_add, nI_not_neg, nI_is_pos, nI_m1, nI_z]) | refine brT (by first | assumption | decide | omega) ?_ | refine brF (by first | assumption | decide | omega) ?_ | refine brTn (by first | assumption | decide | omega) ?_ | refine brFn (by first | assumption | decide | omega) ?_ | refine And.intro (vp_in_nI (by omega) (by decide)) ?_ | refine And.intro (vp_lit (by decide)) ?_ | refine divJ (by decide) ?_ | refine divI (by decide) ?_)
          try change _ ∧ _
          refine Cl.ofA r2 (by rw [show (2 : Int32) = nI 2 from rfl, pk_div (by omega) (by decide) (by decide), nI_l (by omega)]; rfl) (by decide) ?_
          cases e : okN s n ((lo + hi) / 2) ((lo + hi) / 2) with
          | true =>
            rw [if_pos rfl]
            have ih := ihk lo ((lo + hi) / 2) h2 (.int (nI ((lo + hi) / 2))) (by omega) (by omega) (by omega) E2
            repeat (first | refine Wp.at ih rfl rfl ?_ rfl | (refine W1 rfl ?_; try refine Wp.norm (L' := [_, _, _, _, _]) rfl ?_) | ((first | change (_ → _) ∧ (_ → _) | change vp_in _ _ ∧ _ | change ¬ _ ∧ _); simp (disch := omega) only [nI_clamp, nI_leI, nI_ltI, nI_eq, nI_1, nI_add, nI_not_neg, nI_is_pos, nI_m1, nI_z]) | refine brT (by first | assumption | decide | omega) ?_ | refine brF (by first | assumption | decide | omega) ?_ | refine brTn (by first | assumption | decide | omega) ?_ | refine brFn (by first | assumption | decide | omega) ?_ | refine And.intro (vp_in_nI (by omega) (by decide)) ?_ | refine And.intro (vp_lit (by decide)) ?_ | refine divJ (by decide) ?_ | refine divI (by decide) ?_)
            try change _ ∧ _
            rw [show (2 : Int32) = nI 2 from rfl, pk_div (by omega) (by decide) (by decide)]
            first | done | rfl | (simp (disch := omega) only [nI_1, nI_add, nI_clamp] <;> first | done | rfl)
          | false =>
            rw [if_neg (by decide)]
            have ih := ihk ((lo + hi) / 2 + 1) hi h2 (.int (nI ((lo + hi) / 2))) (by omega) (by omega) (by omega) E2
            repeat (first | refine Wp.at ih rfl rfl ?_ rfl | (refine W1 rfl ?_; try refine Wp.norm (L' := [_, _, _, _, _]) rfl ?_) | ((first | change (_ → _) ∧ (_ → _) | change vp_in _ _ ∧ _ | change ¬ _ ∧ _); simp (disch := omega) only [nI_clamp, nI_leI, nI_ltI, nI_eq, nI_1, nI_add, nI_not_neg, nI_is_pos, nI_m1, nI_z]) | refine brT (by first | assumption | decide | omega) ?_ | refine brF (by first | assumption | decide | omega) ?_ | refine brTn (by first | assumption | decide | omega) ?_ | refine brFn (by first | assumption | decide | omega) ?_ | refine And.intro (vp_in_nI (by omega) (by decide)) ?_ | refine And.intro (vp_lit (by decide)) ?_ | refine divJ (by decide) ?_ | refine divI (by decide) ?_)
            try change _ ∧ _
            rw [show (2 : Int32) = nI 2 from rfl, pk_div (by omega) (by decide) (by decide)]
            first | done | rfl | (simp (disch := omega) only [nI_1, nI_add, nI_clamp] <;> first | done | rfl)
        · rw [if_neg hlt]
          repeat (first | (refine W1 rfl ?_; try refine Wp.norm (L' := [_, _, _, _, _]) rfl ?_) | ((first | change (_ → _) ∧ (_ → _) | change vp_in _ _ ∧ _ | change ¬ _ ∧ _); simp (disch := omega) only [nI_clamp, nI_leI, nI_ltI, nI_eq, nI_1, nI_add, nI_not_neg, nI_is_pos, nI_m1, nI_z]) | refine brT (by first | assumption | decide | omega) ?_ | refine brF (by first | assumption | decide | omega) ?_ | refine brTn (by first | assumption | decide | omega) ?_ | refine brFn (by first | assumption | decide | omega) ?_ | refine And.intro (vp_in_nI (by omega) (by decide)) ?_ | refine And.intro (vp_lit (by decide)) ?_ | refine divJ (by decide) ?_ | refine divI (by decide) ?_)
          try change _ ∧ _
          refine ⟨?_, E⟩
          rw [show lo = hi by omega]
    have ih := lp 20 0 720720 h1 .null (by decide) (by decide) (by decide) C1.1
    unfold lstV
    rw [if_pos ok0]
    repeat (first | (refine W1 rfl ?_; try refine Wp.norm (L' := [_, _, _, _, _]) rfl ?_) | ((first | change (_ → _) ∧ (_ → _) | change vp_in _ _ ∧ _ | change ¬ _ ∧ _); simp (disch := omega) only [nI_clamp, nI_leI, nI_ltI, nI_eq, nI_1, nI_add, nI_not_neg, nI_is_pos, nI_m1, nI_z]) | refine brT (by first | assumption | decide | omega) ?_ | refine brF (by first | assumption | decide | omega) ?_ | refine brTn (by first | assumption | decide | omega) ?_ | refine brFn (by first | assumption | decide | omega) ?_ | refine And.intro (vp_in_nI (by omega) (by decide)) ?_ | refine And.intro (vp_lit (by decide)) ?_ | refine divJ (by decide) ?_ | refine divI (by decide) ?_)
    try change _ ∧ _
    refine Cl.ofA r1 rfl (by decide) ?_
    rw [ok0]
    repeat (first | refine Wp.at ih rfl rfl ?_ rfl | (refine W1 rfl ?_; try refine Wp.norm (L' := [_, _, _, _, _]) rfl ?_) | ((first | change (_ → _) ∧ (_ → _) | change vp_in _ _ ∧ _ | change ¬ _ ∧ _); simp (disch := omega) only [nI_clamp, nI_leI, nI_ltI, nI_eq, nI_1, nI_add, nI_not_neg, nI_is_pos, nI_m1, nI_z]) | refine brT (by first | assumption | decide | omega) ?_ | refine brF (by first | assumption | decide | omega) ?_ | refine brTn (by first | assumption | decide | omega) ?_ | refine brFn (by first | assumption | decide | omega) ?_ | refine And.intro (vp_in_nI (by omega) (by decide)) ?_ | refine And.intro (vp_lit (by decide)) ?_ | refine divJ (by decide) ?_ | refine divI (by decide) ?_)
    try change _ ∧ _
    first | done | rfl | (simp (disch := omega) only [nI_1, nI_add, nI_clamp] <;> first | done | rfl)
  · unfold lstV
    rw [if_neg ok0]
    repeat (first | (refine W1 rfl ?_; try refine Wp.norm (L' := [_, _, _, _, _]) rfl ?_) | ((first | change (_ → _) ∧ (_ → _) | change vp_in _ _ ∧ _ | change ¬ _ ∧ _); simp (disch := omega) only [nI_clamp, nI_leI, nI_ltI, nI_eq, nI_1, nI_add, nI_not_neg, nI_is_pos, nI_m1, nI_z]) | refine brT (by first | assumption | decide | omega) ?_ | refine brF (by first | assumption | decide | omega) ?_ | refine brTn (by first | assumption | decide | omega) ?_ | refine brFn (by first | assumption | decide | omega) ?_ | refine And.intro (vp_in_nI (by omega) (by decide)) ?_ | refine And.intro (vp_lit (by decide)) ?_ | refine divJ (by decide) ?_ | refine divI (by decide) ?_)
    try change _ ∧ _
    refine Cl.ofA r1 rfl (by decide) ?_
    rw [show okN s n 720720 720720 = false by simpa using ok0]
    repeat (first | (refine W1 rfl ?_; try refine Wp.norm (L' := [_, _, _, _, _]) rfl ?_) | ((first | change (_ → _) ∧ (_ → _) | change vp_in _ _ ∧ _ | change ¬ _ ∧ _); simp (disch := omega) only [nI_clamp, nI_leI, nI_ltI, nI_eq, nI_1, nI_add, nI_not_neg, nI_is_pos, nI_m1, nI_z]) | refine brT (by first | assumption | decide | omega) ?_ | refine brF (by first | assumption | decide | omega) ?_ | refine brTn (by first | assumption | decide | omega) ?_ | refine brFn (by first | assumption | decide | omega) ?_ | refine And.intro (vp_in_nI (by omega) (by decide)) ?_ | refine And.intro (vp_lit (by decide)) ?_ | refine divJ (by decide) ?_ | refine divI (by decide) ?_)
    try change _ ∧ _
    exact ⟨rfl, C1.1⟩
/-! may all -/
def allM (s : ST) : Int32 := 1 <<< (nI (zP s) &&& 31) - 1
def amB (s : ST) (k : Nat) : Bool := !anyB (fun t => decide (tK s t = k) && decide (¬ nI (tM s t) = allM s)) (zT s)
theorem amB_f {k t : Nat} (ht : t < zT s) (hk : tK s t = k) (hm : ¬ nI (tM s t) = allM s) : amB s k = false := by
  unfold amB
  rw [(anyB_iff _ _).mpr ⟨t, ht, by simp [hk, hm]⟩]
  rfl
theorem amB_t {k : Nat} (H : ∀ t, t < zT s → tK s t = k → nI (tM s t) = allM s) : amB s k = true := by
  unfold amB
  cases e : anyB (fun t => decide (tK s t = k) && decide (¬ nI (tM s t) = allM s)) (zT s) with
  | false => rfl
  | true =>
    obtain ⟨t, h1, h2⟩ := (anyB_iff _ _).mp e
    simp only [Bool.and_eq_true, decide_eq_true_eq] at h2
    exact absurd (H t h1 h2.1) h2.2
theorem r_Calendar_allMay (R : RC s c v h) (o : OK s) {k : Nat} (hk : k < zK s) : Run 1 j_Calendar_allMay [.ref 36, .int (nI k)] h (some (.int (bI (amB s k)))) h := by
  have hT := o.T; have hP := o.P; have hK := o.K; have hD := o.D; have hO := o.O; have hQ := o.Q; have hL := o.L
  have hk1 : kOK s (some k) := fun k' e => by cases e; exact hk
  have hc := cO_le s (some k) (zT s)
  have lp : ∀ i, i ≤ cO s (some k) (zT s) → (∀ j, j < i → nI (tM s (tA s (some k) j)) = allM s) → Wp 1 j_Calendar_allMay 21 [.ref 36, .int (nI k), .int (allM s), .int (nI (cO s (some k) (zT s))), .int (nI i)] [] h (fun v' h2 => v' = some (.int (bI (amB s k))) ∧ h2 = h) := by
    refine up_ind ?_ (fun i hi ih => ?_)
    · intro A
      repeat (first | (refine W1 rfl ?_; try refine Wp.norm (L' := [_, _, _, _, _]) rfl ?_) | ((first | change (_ → _) ∧ (_ → _) | change vp_in _ _ ∧ _ | change ¬ _ ∧ _); simp (disch := omega) only [nI_clamp, nI_leI, nI_ltI, nI_eq, nI_1, nI_add, nI_not_neg, nI_is_pos, nI_m1, nI_z]) | refine brT (by first | assumption | decide | omega) ?_ | refine brF (by first | assumption | decide | omega) ?_ | refine brTn (by first | assumption | decide | omega) ?_ | refine brFn (by first | assumption | decide | omega) ?_ | refine And.intro (vp_in_nI (by omega) (by decide)) ?_ | refine And.intro (vp_lit (by decide)) ?_ | refine divJ (by decide) ?_ | refine divI (by decide) ?_)
      try change _ ∧ _
      refine ⟨Or.inr rfl, ?_, rfl⟩
      rw [amB_t (fun t ht e => by
        have hi : isO s (some k) t = true := by simp [isO, e]
        have hlt : cO s (some k) t < cO s (some k) (zT s) := by
          have := cnt_mono (fun u => isO s (some k) u = true) (show t + 1 ≤ zT s by omega)
          have e2 := cO_succ s (some k) t
          rw [if_pos hi] at e2
          unfold cO at *
          omega
        have := A _ hlt
        rwa [tA_of o ht hi] at this)]
      rfl
    · intro A
      obtain ⟨t, t1, t2, t3, t4⟩ := tA_spec o hi
      have hkt : tK s t = k := by simpa [isO] using t2
      repeat (first | (refine W1 rfl ?_; try refine Wp.norm (L' := [_, _, _, _, _]) rfl ?_) | ((first | change (_ → _) ∧ (_ → _) | change vp_in _ _ ∧ _ | change ¬ _ ∧ _); simp (disch := omega) only [nI_clamp, nI_leI, nI_ltI, nI_eq, nI_1, nI_add, nI_not_neg, nI_is_pos, nI_m1, nI_z]) | refine brT (by first | assumption | decide | omega) ?_ | refine brF (by first | assumption | decide | omega) ?_ | refine brTn (by first | assumption | decide | omega) ?_ | refine brFn (by first | assumption | decide | omega) ?_ | refine And.intro (vp_in_nI (by omega) (by decide)) ?_ | refine And.intro (vp_lit (by decide)) ?_ | refine divJ (by decide) ?_ | refine divI (by decide) ?_)
      try change _ ∧ _
      refine Cl.of (r_Calendar_turnAt (k := some k) R o hk1 hi) (by decide) ?_
      rw [t4]
      repeat (first | (refine W1 rfl ?_; try refine Wp.norm (L' := [_, _, _, _, _]) rfl ?_) | ((first | change (_ → _) ∧ (_ → _) | change vp_in _ _ ∧ _ | change ¬ _ ∧ _); simp (disch := omega) only [nI_clamp, nI_leI, nI_ltI, nI_eq, nI_1, nI_add, nI_not_neg, nI_is_pos, nI_m1, nI_z, R.msk]) | refine brT (by first | assumption | decide | omega) ?_ | refine brF (by first | assumption | decide | omega) ?_ | refine brTn (by first | assumption | decide | omega) ?_ | refine brFn (by first | assumption | decide | omega) ?_ | refine And.intro (vp_in_nI (by omega) (by decide)) ?_ | refine And.intro (vp_lit (by decide)) ?_ | refine divJ (by decide) ?_ | refine divI (by decide) ?_)
      try change _ ∧ _
      refine ⟨fun q => ?_, fun q => ?_⟩
      · have ih := ih (fun j hj => by
          by_cases e : j = i
          · rw [e, t4]; exact q
          · exact A j (by omega))
        repeat (first | refine Wp.at ih rfl rfl ?_ rfl | (refine W1 rfl ?_; try refine Wp.norm (L' := [_, _, _, _, _]) rfl ?_) | ((first | change (_ → _) ∧ (_ → _) | change vp_in _ _ ∧ _ | change ¬ _ ∧ _); simp (disch := omega) only [nI_clamp, nI_leI, nI_ltI, nI_eq, nI_1, nI_add, nI_not_neg, nI_is_pos, nI_m1, nI_z]) | refine brT (by first | assumption | decide | omega) ?_ | refine brF (by first | assumption | decide | omega) ?_ | refine brTn (by first | assumption | decide | omega) ?_ | refine brFn (by first | assumption | decide | omega) ?_ | refine And.intro (vp_in_nI (by omega) (by decide)) ?_ | refine And.intro (vp_lit (by decide)) ?_ | refine divJ (by decide) ?_ | refine divI (by decide) ?_)
        try change _ ∧ _
        first | done | rfl | (simp (disch := omega) only [nI_1, nI_add, nI_clamp] <;> first | done | rfl)
      · repeat (first | (refine W1 rfl ?_; try refine Wp.norm (L' := [_, _, _, _, _]) rfl ?_) | ((first | change (_ → _) ∧ (_ → _) | change vp_in _ _ ∧ _ | change ¬ _ ∧ _); simp (disch := omega) only [nI_clamp, nI_leI, nI_ltI, nI_eq, nI_1, nI_add, nI_not_neg, nI_is_pos, nI_m1, nI_z]) | refine brT (by first | assumption | decide | omega) ?_ | refine brF (by first | assumption | decide | omega) ?_ | refine brTn (by first | assumption | decide | omega) ?_ | refine brFn (by first | assumption | decide | omega) ?_ | refine And.intro (vp_in_nI (by omega) (by decide)) ?_ | refine And.intro (vp_lit (by decide)) ?_ | refine divJ (by decide) ?_ | refine divI (by decide) ?_)
        try change _ ∧ _
        refine ⟨Or.inl rfl, ?_, rfl⟩
        rw [amB_f t1 hkt q]
        rfl
  refine Run.of rfl ?_
  refine Wp.norm (L' := [_, _, _, _, _]) rfl ?_
  repeat (first | (refine W1 rfl ?_; try refine Wp.norm (L' := [_, _, _, _, _]) rfl ?_) | ((first | change (_ → _) ∧ (_ → _) | change vp_in _ _ ∧ _ | change ¬ _ ∧ _); simp (disch := omega) only [nI_clamp, nI_leI, nI_ltI, nI_eq, nI_1, nI_add, nI_not_neg, nI_is_pos, nI_m1, nI_z]) | refine brT (by first | assumption | decide | omega) ?_ | refine brF (by first | assumption | decide | omega) ?_ | refine brTn (by first | assumption | decide | omega) ?_ | refine brFn (by first | assumption | decide | omega) ?_ | refine And.intro (vp_in_nI (by omega) (by decide)) ?_ | refine And.intro (vp_lit (by decide)) ?_ | refine divJ (by decide) ?_ | refine divI (by decide) ?_)
  try change _ ∧ _
  refine Cl.of (r_Calendar_countOf (k := some k) R o hk1) (by decide) ?_
  have ih := lp 0 (Nat.zero_le _) (fun j hj => absurd hj (by omega))
  repeat (first | refine Wp.at ih rfl rfl ?_ rfl | (refine W1 rfl ?_; try refine Wp.norm (L' := [_, _, _, _, _]) rfl ?_) | ((first | change (_ → _) ∧ (_ → _) | change vp_in _ _ ∧ _ | change ¬ _ ∧ _); simp (disch := omega) only [nI_clamp, nI_leI, nI_ltI, nI_eq, nI_1, nI_add, nI_not_neg, nI_is_pos, nI_m1, nI_z]) | refine brT (by first | assumption | decide | omega) ?_ | refine brF (by first | assumption | decide | omega) ?_ | refine brTn (by first | assumption | decide | omega) ?_ | refine brFn (by first | assumption | decide | omega) ?_ | refine And.intro (vp_in_nI (by omega) (by decide)) ?_ | refine And.intro (vp_lit (by decide)) ?_ | refine divJ (by decide) ?_ | refine divI (by decide) ?_)
  try change _ ∧ _
  rw [R.P]
  rfl
theorem r_M_mayAll (R : RM s c v h) (o : OK s) {k : Nat} (hk : k < zK s) : Run 0 j_M_mayAll [.ref 65, .int (nI k)] h (some (.int (bI (amB s k)))) h := by
  have hT := o.T; have hP := o.P; have hK := o.K; have hD := o.D; have hO := o.O; have hQ := o.Q; have hL := o.L
  have lp : ∀ i, i ≤ zT s → (∀ t, t < i → tK s t = k → nI (tM s t) = allM s) → Wp 0 j_M_mayAll 13 [.ref 65, .int (nI k), .int (allM s), .int (nI i)] [] h (fun v' h2 => v' = some (.int (bI (amB s k))) ∧ h2 = h) := by
    refine up_ind ?_ (fun i hi ih => ?_)
    · intro A
      repeat (first | (refine W1 rfl ?_; try refine Wp.norm (L' := [_, _, _, _]) rfl ?_) | ((first | change (_ → _) ∧ (_ → _) | change vp_in _ _ ∧ _ | change ¬ _ ∧ _); simp (disch := omega) only [nI_clamp, nI_leI, nI_ltI, nI_eq, nI_1, nI_add, nI_not_neg, nI_is_pos, nI_m1, nI_z, R.T]) | refine brT (by first | assumption | decide | omega) ?_ | refine brF (by first | assumption | decide | omega) ?_ | refine brTn (by first | assumption | decide | omega) ?_ | refine brFn (by first | assumption | decide | omega) ?_ | refine And.intro (vp_in_nI (by omega) (by decide)) ?_ | refine And.intro (vp_lit (by decide)) ?_ | refine divJ (by decide) ?_ | refine divI (by decide) ?_)
      try change _ ∧ _
      refine ⟨Or.inr rfl, ?_, rfl⟩
      rw [amB_t A]
      rfl
    · intro A
      have hki := o.knd hi
      repeat (first | (refine W1 rfl ?_; try refine Wp.norm (L' := [_, _, _, _]) rfl ?_) | ((first | change (_ → _) ∧ (_ → _) | change vp_in _ _ ∧ _ | change ¬ _ ∧ _); simp (disch := omega) only [nI_clamp, nI_leI, nI_ltI, nI_eq, nI_1, nI_add, nI_not_neg, nI_is_pos, nI_m1, nI_z, R.T, R.knd]) | refine brT (by first | assumption | decide | omega) ?_ | refine brF (by first | assumption | decide | omega) ?_ | refine brTn (by first | assumption | decide | omega) ?_ | refine brFn (by first | assumption | decide | omega) ?_ | refine And.intro (vp_in_nI (by omega) (by decide)) ?_ | refine And.intro (vp_lit (by decide)) ?_ | refine divJ (by decide) ?_ | refine divI (by decide) ?_)
      try change _ ∧ _
      refine ⟨fun q => ?_, fun q => ?_⟩
      · have ih := ih (fun t ht e => by
          by_cases e2 : t = i
          · subst e2; exact absurd e q
          · exact A t (by omega) e)
        repeat (first | refine Wp.at ih rfl rfl ?_ rfl | (refine W1 rfl ?_; try refine Wp.norm (L' := [_, _, _, _]) rfl ?_) | ((first | change (_ → _) ∧ (_ → _) | change vp_in _ _ ∧ _ | change ¬ _ ∧ _); simp (disch := omega) only [nI_clamp, nI_leI, nI_ltI, nI_eq, nI_1, nI_add, nI_not_neg, nI_is_pos, nI_m1, nI_z]) | refine brT (by first | assumption | decide | omega) ?_ | refine brF (by first | assumption | decide | omega) ?_ | refine brTn (by first | assumption | decide | omega) ?_ | refine brFn (by first | assumption | decide | omega) ?_ | refine And.intro (vp_in_nI (by omega) (by decide)) ?_ | refine And.intro (vp_lit (by decide)) ?_ | refine divJ (by decide) ?_ | refine divI (by decide) ?_)
        try change _ ∧ _
        first | done | rfl | (simp (disch := omega) only [nI_1, nI_add, nI_clamp] <;> first | done | rfl)
      · repeat (first | (refine W1 rfl ?_; try refine Wp.norm (L' := [_, _, _, _]) rfl ?_) | ((first | change (_ → _) ∧ (_ → _) | change vp_in _ _ ∧ _ | change ¬ _ ∧ _); simp (disch := omega) only [nI_clamp, nI_leI, nI_ltI, nI_eq, nI_1, nI_add, nI_not_neg, nI_is_pos, nI_m1, nI_z, R.msk]) | refine brT (by first | assumption | decide | omega) ?_ | refine brF (by first | assumption | decide | omega) ?_ | refine brTn (by first | assumption | decide | omega) ?_ | refine brFn (by first | assumption | decide | omega) ?_ | refine And.intro (vp_in_nI (by omega) (by decide)) ?_ | refine And.intro (vp_lit (by decide)) ?_ | refine divJ (by decide) ?_ | refine divI (by decide) ?_)
        try change _ ∧ _
        refine ⟨fun q2 => ?_, fun q2 => ?_⟩
        · have ih := ih (fun t ht e => by
            by_cases e2 : t = i
            · subst e2; exact q2
            · exact A t (by omega) e)
          repeat (first | refine Wp.at ih rfl rfl ?_ rfl | (refine W1 rfl ?_; try refine Wp.norm (L' := [_, _, _, _]) rfl ?_) | ((first | change (_ → _) ∧ (_ → _) | change vp_in _ _ ∧ _ | change ¬ _ ∧ _); simp (disch := omega) only [nI_clamp, nI_leI, nI_ltI, nI_eq, nI_1, nI_add, nI_not_neg, nI_is_pos, nI_m1, nI_z]) | refine brT (by first | assumption | decide | omega) ?_ | refine brF (by first | assumption | decide | omega) ?_ | refine brTn (by first | assumption | decide | omega) ?_ | refine brFn (by first | assumption | decide | omega) ?_ | refine And.intro (vp_in_nI (by omega) (by decide)) ?_ | refine And.intro (vp_lit (by decide)) ?_ | refine divJ (by decide) ?_ | refine divI (by decide) ?_)
          try change _ ∧ _
          first | done | rfl | (simp (disch := omega) only [nI_1, nI_add, nI_clamp] <;> first | done | rfl)
        · repeat (first | (refine W1 rfl ?_; try refine Wp.norm (L' := [_, _, _, _]) rfl ?_) | ((first | change (_ → _) ∧ (_ → _) | change vp_in _ _ ∧ _ | change ¬ _ ∧ _); simp (disch := omega) only [nI_clamp, nI_leI, nI_ltI, nI_eq, nI_1, nI_add, nI_not_neg, nI_is_pos, nI_m1, nI_z]) | refine brT (by first | assumption | decide | omega) ?_ | refine brF (by first | assumption | decide | omega) ?_ | refine brTn (by first | assumption | decide | omega) ?_ | refine brFn (by first | assumption | decide | omega) ?_ | refine And.intro (vp_in_nI (by omega) (by decide)) ?_ | refine And.intro (vp_lit (by decide)) ?_ | refine divJ (by decide) ?_ | refine divI (by decide) ?_)
          try change _ ∧ _
          refine ⟨Or.inl rfl, ?_, rfl⟩
          rw [amB_f hi q q2]
          rfl
  refine Run.of rfl ?_
  refine Wp.norm (L' := [_, _, _, _]) rfl ?_
  have ih := lp 0 (Nat.zero_le _) (fun j hj => absurd hj (by omega))
  repeat (first | refine Wp.at ih rfl rfl ?_ rfl | (refine W1 rfl ?_; try refine Wp.norm (L' := [_, _, _, _]) rfl ?_) | ((first | change (_ → _) ∧ (_ → _) | change vp_in _ _ ∧ _ | change ¬ _ ∧ _); simp (disch := omega) only [nI_clamp, nI_leI, nI_ltI, nI_eq, nI_1, nI_add, nI_not_neg, nI_is_pos, nI_m1, nI_z]) | refine brT (by first | assumption | decide | omega) ?_ | refine brF (by first | assumption | decide | omega) ?_ | refine brTn (by first | assumption | decide | omega) ?_ | refine brFn (by first | assumption | decide | omega) ?_ | refine And.intro (vp_in_nI (by omega) (by decide)) ?_ | refine And.intro (vp_lit (by decide)) ?_ | refine divJ (by decide) ?_ | refine divI (by decide) ?_)
  try change _ ∧ _
  rw [show Int32.toNatClampNeg 1 = 1 from rfl, R.P]
  rfl
theorem r_M_turnsOfKind (R : RM s c v h) (o : OK s) {k : Nat} (hk : k < zK s) : Run 0 j_M_turnsOfKind [.ref 65, .int (nI k)] h (some (.int (nI (cO s (some k) (zT s))))) h := by
  have hT := o.T; have hP := o.P; have hK := o.K; have hD := o.D; have hO := o.O; have hQ := o.Q; have hL := o.L
  rw [cO_some]
  have lp : ∀ i, i ≤ zT s → Wp 0 j_M_turnsOfKind 4 [.ref 65, .int (nI k), .int (nI (cnt (fun u => tK s u = k) i)), .int (nI i)] [] h (fun v' h2 => v' = some (.int (nI (cnt (fun u => tK s u = k) (zT s)))) ∧ h2 = h) := by
    refine up_ind ?_ (fun i hi ih => ?_)
    · repeat (first | (refine W1 rfl ?_; try refine Wp.norm (L' := [_, _, _, _]) rfl ?_) | ((first | change (_ → _) ∧ (_ → _) | change vp_in _ _ ∧ _ | change ¬ _ ∧ _); simp (disch := omega) only [nI_clamp, nI_leI, nI_ltI, nI_eq, nI_1, nI_add, nI_not_neg, nI_is_pos, nI_m1, nI_z, R.T]) | refine brT (by first | assumption | decide | omega) ?_ | refine brF (by first | assumption | decide | omega) ?_ | refine brTn (by first | assumption | decide | omega) ?_ | refine brFn (by first | assumption | decide | omega) ?_ | refine And.intro (vp_in_nI (by omega) (by decide)) ?_ | refine And.intro (vp_lit (by decide)) ?_ | refine divJ (by decide) ?_ | refine divI (by decide) ?_)
      try change _ ∧ _
      try first | exact ⟨rfl, rfl⟩ | exact ⟨Or.inr rfl, rfl, rfl⟩ | exact ⟨Or.inl rfl, rfl, rfl⟩ | exact ⟨trivial, trivial⟩ | exact ⟨rfl, trivial⟩ | exact ⟨Or.inr rfl, rfl, trivial⟩ | exact ⟨Or.inl rfl, rfl, trivial⟩
    · rw [cnt] at ih
      have hki := o.knd hi
      repeat (first | (refine W1 rfl ?_; try refine Wp.norm (L' := [_, _, _, _]) rfl ?_) | ((first | change (_ → _) ∧ (_ → _) | change vp_in _ _ ∧ _ | change ¬ _ ∧ _); simp (disch := omega) only [nI_clamp, nI_leI, nI_ltI, nI_eq, nI_1, nI_add, nI_not_neg, nI_is_pos, nI_m1, nI_z, R.T, R.knd]) | refine brT (by first | assumption | decide | omega) ?_ | refine brF (by first | assumption | decide | omega) ?_ | refine brTn (by first | assumption | decide | omega) ?_ | refine brFn (by first | assumption | decide | omega) ?_ | refine And.intro (vp_in_nI (by omega) (by decide)) ?_ | refine And.intro (vp_lit (by decide)) ?_ | refine divJ (by decide) ?_ | refine divI (by decide) ?_)
      try change _ ∧ _
      refine ⟨fun q => ?_, fun q => ?_⟩
      · rw [if_neg q] at ih
        repeat (first | refine Wp.at ih rfl rfl ?_ rfl | (refine W1 rfl ?_; try refine Wp.norm (L' := [_, _, _, _]) rfl ?_) | ((first | change (_ → _) ∧ (_ → _) | change vp_in _ _ ∧ _ | change ¬ _ ∧ _); simp (disch := omega) only [nI_clamp, nI_leI, nI_ltI, nI_eq, nI_1, nI_add, nI_not_neg, nI_is_pos, nI_m1, nI_z]) | refine brT (by first | assumption | decide | omega) ?_ | refine brF (by first | assumption | decide | omega) ?_ | refine brTn (by first | assumption | decide | omega) ?_ | refine brFn (by first | assumption | decide | omega) ?_ | refine And.intro (vp_in_nI (by omega) (by decide)) ?_ | refine And.intro (vp_lit (by decide)) ?_ | refine divJ (by decide) ?_ | refine divI (by decide) ?_)
        try change _ ∧ _
        first | done | rfl | (simp (disch := omega) only [nI_1, nI_add, nI_clamp] <;> first | done | rfl)
      · rw [if_pos q] at ih
        repeat (first | refine Wp.at ih rfl rfl ?_ rfl | (refine W1 rfl ?_; try refine Wp.norm (L' := [_, _, _, _]) rfl ?_) | ((first | change (_ → _) ∧ (_ → _) | change vp_in _ _ ∧ _ | change ¬ _ ∧ _); simp (disch := omega) only [nI_clamp, nI_leI, nI_ltI, nI_eq, nI_1, nI_add, nI_not_neg, nI_is_pos, nI_m1, nI_z]) | refine brT (by first | assumption | decide | omega) ?_ | refine brF (by first | assumption | decide | omega) ?_ | refine brTn (by first | assumption | decide | omega) ?_ | refine brFn (by first | assumption | decide | omega) ?_ | refine And.intro (vp_in_nI (by omega) (by decide)) ?_ | refine And.intro (vp_lit (by decide)) ?_ | refine divJ (by decide) ?_ | refine divI (by decide) ?_)
        try change _ ∧ _
        first | done | rfl | (simp (disch := omega) only [nI_1, nI_add, nI_clamp] <;> first | done | rfl)
  refine Run.of rfl ?_
  refine Wp.norm (L' := [_, _, _, _]) rfl ?_
  have ih := lp 0 (Nat.zero_le _)
  repeat (first | refine Wp.at ih rfl rfl ?_ rfl | (refine W1 rfl ?_; try refine Wp.norm (L' := [_, _, _, _]) rfl ?_) | ((first | change (_ → _) ∧ (_ → _) | change vp_in _ _ ∧ _ | change ¬ _ ∧ _); simp (disch := omega) only [nI_clamp, nI_leI, nI_ltI, nI_eq, nI_1, nI_add, nI_not_neg, nI_is_pos, nI_m1, nI_z]) | refine brT (by first | assumption | decide | omega) ?_ | refine brF (by first | assumption | decide | omega) ?_ | refine brTn (by first | assumption | decide | omega) ?_ | refine brFn (by first | assumption | decide | omega) ?_ | refine And.intro (vp_in_nI (by omega) (by decide)) ?_ | refine And.intro (vp_lit (by decide)) ?_ | refine divJ (by decide) ?_ | refine divI (by decide) ?_)
  try change _ ∧ _
  first | done | rfl | (simp (disch := omega) only [nI_1, nI_add, nI_clamp] <;> first | done | rfl)
end LEAST
