/-! ===== WHAT THE CLASS ASKS OF THE WORDS; ROWS OF NAMES ===== -/
theorem re_congr {P P' : Nat → Bool} {n a : Nat} (h : a ≤ n) (e : ∀ k, a ≤ k → k < n → P k = P' k) : re P n a = re P' n a := by
  have l := re_le (P := P') h
  exact re_uq (re_ge h) l (fun k z1 z2 => by rw [e k z1 (by omega)]; exact re_in h z1 z2) (fun z => by rw [e _ (re_ge h) z]; exact re_out h z)
/-- the first below n for which B, or n -/
def fI (B : Nat → Bool) (n : Nat) : Nat := re (fun p => !B p) n 0
def fV (B : Nat → Bool) (n : Nat) : Int32 := if fI B n < n then nI (fI B n) else -1
theorem fI_le (B : Nat → Bool) (n : Nat) : fI B n ≤ n := re_le (Nat.zero_le _)
theorem fI_no {B : Nat → Bool} {n k : Nat} (h : k < fI B n) : B k = false := by
  have := re_in (P := fun p => !B p) (n := n) (Nat.zero_le _) (Nat.zero_le k) h
  simpa using this
theorem fI_yes {B : Nat → Bool} {n : Nat} (h : fI B n < n) : B (fI B n) = true := by
  have := re_out (P := fun p => !B p) (n := n) (Nat.zero_le _) h
  have z : (!B (fI B n)) = false := this
  simpa using z
theorem fI_congr {B B' : Nat → Bool} {n : Nat} (h : ∀ k, k < n → B k = B' k) : fI B n = fI B' n := re_congr (Nat.zero_le _) (fun k _ hk => by rw [h k hk])
theorem fV_congr {B B' : Nat → Bool} {n : Nat} (h : ∀ k, k < n → B k = B' k) : fV B n = fV B' n := by unfold fV; rw [fI_congr h]
section ACC
variable {b : Nat → Nat} {n : Nat} {h : HP}
theorem tS_le (i : Nat) : tS b n i ≤ 7 := by
  unfold tS sP
  repeat' (first | (split; omega) | omega | split)
theorem tV_lt (hb : ∀ k, k < n → b k < 256) (i : Nat) : tV b n i < 1073741824 := by
  unfold tV vP
  split
  · decide
  · rename_i hp
    have hp : ps b n i < n := by omega
    split
    · rename_i hl
      split
      · decide
      · split
        · have := ox_le (wd b (ps b n i) (tl b n (ps b n i))); omega
        · split
          · decide
          · exact p32_6 (wd_isW (tl_pos hp) (by omega) (fun j hj => lt_all hp hl hj))
    · split
      · rename_i hd
        split
        · decide
        · split
          · decide
          · have h1 := dc_lt (b := b) (p := ps b n i) (tl b n (ps b n i)) (fun j hj => dg_all hp hd hj)
            have h2 : 10 ^ tl b n (ps b n i) ≤ 10 ^ 4 := Nat.pow_le_pow_right (by decide) (by omega)
            omega
      · have := hb _ hp; omega
theorem r_sortAt (K : TK b n h) {k : Nat} (hk : k < 2000) : Run 0 j_Tokens_sortAt [.ref 3, .int (nI k)] h (some (.int (nI (tS b n k)))) h := by
  obtain ⟨m, hm, hpm, hlt, hc, A⟩ := K
  by_cases c : k ≤ m
  · have e := (A k c).1
    refine Run.of rfl ?_
    refine Wp.norm (L' := [_, _]) rfl ?_
    repeat (first | (refine W1 rfl ?_; try refine Wp.norm (L' := [_, _]) rfl ?_) | ((first | change (_ → _) ∧ (_ → _) | change vp_in _ _ ∧ _ | change ¬ _ ∧ _); simp (disch := omega) only [nI_clamp, nI_leI, nI_ltI, nI_eq, nI_1, nI_add, nI_not_neg, nI_is_pos, nI_m1, nI_z, hc, e]) | refine brT (by first | assumption | decide | omega) ?_ | refine brF (by first | assumption | decide | omega) ?_ | refine brTn (by first | assumption | decide | omega) ?_ | refine brFn (by first | assumption | decide | omega) ?_ | refine And.intro (vp_in_nI (by omega) (by decide)) ?_ | refine And.intro (vp_lit (by decide)) ?_ | refine divJ (by decide) ?_ | refine divI (by decide) ?_)
    try change _ ∧ _
    try simp (disch := omega) only [nI_clamp, nI_leI, nI_ltI, nI_eq, nI_1, nI_add, nI_not_neg, nI_is_pos, nI_m1, nI_z, e]
    try first | exact ⟨rfl, rfl⟩ | exact ⟨Or.inr rfl, rfl, rfl⟩ | exact ⟨Or.inl rfl, rfl, rfl⟩ | exact ⟨trivial, trivial⟩ | exact ⟨rfl, trivial⟩ | exact ⟨Or.inr rfl, rfl, trivial⟩ | exact ⟨Or.inl rfl, rfl, trivial⟩
  · have e : tS b n k = 0 := by
      have := ps_end hpm (k - m)
      rw [show m + (k - m) = k by omega] at this
      unfold tS sP
      rw [this, if_pos (Nat.le_refl _)]
    rw [e]
    refine Run.of rfl ?_
    refine Wp.norm (L' := [_, _]) rfl ?_
    repeat (first | (refine W1 rfl ?_; try refine Wp.norm (L' := [_, _]) rfl ?_) | ((first | change (_ → _) ∧ (_ → _) | change vp_in _ _ ∧ _ | change ¬ _ ∧ _); simp (disch := omega) only [nI_clamp, nI_leI, nI_ltI, nI_eq, nI_1, nI_add, nI_not_neg, nI_is_pos, nI_m1, nI_z, hc]) | refine brT (by first | assumption | decide | omega) ?_ | refine brF (by first | assumption | decide | omega) ?_ | refine brTn (by first | assumption | decide | omega) ?_ | refine brFn (by first | assumption | decide | omega) ?_ | refine And.intro (vp_in_nI (by omega) (by decide)) ?_ | refine And.intro (vp_lit (by decide)) ?_ | refine divJ (by decide) ?_ | refine divI (by decide) ?_)
    try change _ ∧ _
    try first | exact ⟨rfl, rfl⟩ | exact ⟨Or.inr rfl, rfl, rfl⟩ | exact ⟨Or.inl rfl, rfl, rfl⟩ | exact ⟨trivial, trivial⟩ | exact ⟨rfl, trivial⟩ | exact ⟨Or.inr rfl, rfl, trivial⟩ | exact ⟨Or.inl rfl, rfl, trivial⟩
theorem r_valueAt (K : TK b n h) {k : Nat} (hk : k < 2000) : Run 0 j_Tokens_valueAt [.ref 3, .int (nI k)] h (some (.int (nI (tV b n k)))) h := by
  obtain ⟨m, hm, hpm, hlt, hc, A⟩ := K
  by_cases c : k ≤ m
  · have e := (A k c).2.2
    refine Run.of rfl ?_
    refine Wp.norm (L' := [_, _]) rfl ?_
    repeat (first | (refine W1 rfl ?_; try refine Wp.norm (L' := [_, _]) rfl ?_) | ((first | change (_ → _) ∧ (_ → _) | change vp_in _ _ ∧ _ | change ¬ _ ∧ _); simp (disch := omega) only [nI_clamp, nI_leI, nI_ltI, nI_eq, nI_1, nI_add, nI_not_neg, nI_is_pos, nI_m1, nI_z, hc, e]) | refine brT (by first | assumption | decide | omega) ?_ | refine brF (by first | assumption | decide | omega) ?_ | refine brTn (by first | assumption | decide | omega) ?_ | refine brFn (by first | assumption | decide | omega) ?_ | refine And.intro (vp_in_nI (by omega) (by decide)) ?_ | refine And.intro (vp_lit (by decide)) ?_ | refine divJ (by decide) ?_ | refine divI (by decide) ?_)
    try change _ ∧ _
    try simp (disch := omega) only [nI_clamp, nI_leI, nI_ltI, nI_eq, nI_1, nI_add, nI_not_neg, nI_is_pos, nI_m1, nI_z, e]
    try first | exact ⟨rfl, rfl⟩ | exact ⟨Or.inr rfl, rfl, rfl⟩ | exact ⟨Or.inl rfl, rfl, rfl⟩ | exact ⟨trivial, trivial⟩ | exact ⟨rfl, trivial⟩ | exact ⟨Or.inr rfl, rfl, trivial⟩ | exact ⟨Or.inl rfl, rfl, trivial⟩
  · have e : tV b n k = 0 := by
      have := ps_end hpm (k - m)
      rw [show m + (k - m) = k by omega] at this
      unfold tV vP
      rw [this, if_pos (Nat.le_refl _)]
    rw [e]
    refine Run.of rfl ?_
    refine Wp.norm (L' := [_, _]) rfl ?_
    repeat (first | (refine W1 rfl ?_; try refine Wp.norm (L' := [_, _]) rfl ?_) | ((first | change (_ → _) ∧ (_ → _) | change vp_in _ _ ∧ _ | change ¬ _ ∧ _); simp (disch := omega) only [nI_clamp, nI_leI, nI_ltI, nI_eq, nI_1, nI_add, nI_not_neg, nI_is_pos, nI_m1, nI_z, hc]) | refine brT (by first | assumption | decide | omega) ?_ | refine brF (by first | assumption | decide | omega) ?_ | refine brTn (by first | assumption | decide | omega) ?_ | refine brFn (by first | assumption | decide | omega) ?_ | refine And.intro (vp_in_nI (by omega) (by decide)) ?_ | refine And.intro (vp_lit (by decide)) ?_ | refine divJ (by decide) ?_ | refine divI (by decide) ?_)
    try change _ ∧ _
    try first | exact ⟨rfl, rfl⟩ | exact ⟨Or.inr rfl, rfl, rfl⟩ | exact ⟨Or.inl rfl, rfl, rfl⟩ | exact ⟨trivial, trivial⟩ | exact ⟨rfl, trivial⟩ | exact ⟨Or.inr rfl, rfl, trivial⟩ | exact ⟨Or.inl rfl, rfl, trivial⟩
theorem r_personCalled7 {P : Nat} (hP : P ≤ 16) (e : h.1 7 1 = nI P) (x : Int32) : Run 0 j_House_personCalled [.ref 7, .int x] h (some (.int (fV (fun p => decide (h.1 8 p = x)) P))) h := by
  have hle := fI_le (fun p => decide (h.1 8 p = x)) P
  have hno : ∀ k, k < fI (fun p => decide (h.1 8 p = x)) P → ¬ h.1 8 k = x := fun k hk => by simpa using fI_no hk
  have hyes : fI (fun p => decide (h.1 8 p = x)) P < P → h.1 8 (fI (fun p => decide (h.1 8 p = x)) P) = x := fun z => by simpa using fI_yes z
  unfold fV
  generalize fI (fun p => decide (h.1 8 p = x)) P = q at *
  refine Run.of rfl ?_
  refine Wp.norm (L' := [_, _, _]) rfl ?_
  have lp : ∀ i, i ≤ q → Wp 0 j_House_personCalled 2 [.ref 7, .int x, .int (nI i)] [] h (fun v2 h2 => v2 = some (.int (if q < P then nI q else -1)) ∧ h2 = h) := by
    refine up_ind ?_ (fun i hi ih => ?_)
    · by_cases c : q < P
      · have hy := hyes c
        rw [if_pos c]
        repeat (first | (refine W1 rfl ?_; try refine Wp.norm (L' := [_, _, _]) rfl ?_) | ((first | change (_ → _) ∧ (_ → _) | change vp_in _ _ ∧ _ | change ¬ _ ∧ _); simp (disch := omega) only [nI_clamp, nI_leI, nI_ltI, nI_eq, nI_1, nI_add, nI_not_neg, nI_is_pos, nI_m1, nI_z, e, hy]) | refine brT (by first | assumption | decide | omega) ?_ | refine brF (by first | assumption | decide | omega) ?_ | refine brTn (by first | assumption | decide | omega) ?_ | refine brFn (by first | assumption | decide | omega) ?_ | refine And.intro (vp_in_nI (by omega) (by decide)) ?_ | refine And.intro (vp_lit (by decide)) ?_ | refine divJ (by decide) ?_ | refine divI (by decide) ?_)
        try change _ ∧ _
        try first | exact ⟨rfl, rfl⟩ | exact ⟨Or.inr rfl, rfl, rfl⟩ | exact ⟨Or.inl rfl, rfl, rfl⟩ | exact ⟨trivial, trivial⟩ | exact ⟨rfl, trivial⟩ | exact ⟨Or.inr rfl, rfl, trivial⟩ | exact ⟨Or.inl rfl, rfl, trivial⟩
      · rw [if_neg c]
        repeat (first | (refine W1 rfl ?_; try refine Wp.norm (L' := [_, _, _]) rfl ?_) | ((first | change (_ → _) ∧ (_ → _) | change vp_in _ _ ∧ _ | change ¬ _ ∧ _); simp (disch := omega) only [nI_clamp, nI_leI, nI_ltI, nI_eq, nI_1, nI_add, nI_not_neg, nI_is_pos, nI_m1, nI_z, e]) | refine brT (by first | assumption | decide | omega) ?_ | refine brF (by first | assumption | decide | omega) ?_ | refine brTn (by first | assumption | decide | omega) ?_ | refine brFn (by first | assumption | decide | omega) ?_ | refine And.intro (vp_in_nI (by omega) (by decide)) ?_ | refine And.intro (vp_lit (by decide)) ?_ | refine divJ (by decide) ?_ | refine divI (by decide) ?_)
        try change _ ∧ _
        try first | exact ⟨rfl, rfl⟩ | exact ⟨Or.inr rfl, rfl, rfl⟩ | exact ⟨Or.inl rfl, rfl, rfl⟩ | exact ⟨trivial, trivial⟩ | exact ⟨rfl, trivial⟩ | exact ⟨Or.inr rfl, rfl, trivial⟩ | exact ⟨Or.inl rfl, rfl, trivial⟩
    · have hn := hno i hi
      (refine W1 rfl ?_; try refine Wp.norm (L' := [_, _, _]) rfl ?_)
      repeat (first | refine Wp.at ih rfl rfl ?_ rfl | (refine W1 rfl ?_; try refine Wp.norm (L' := [_, _, _]) rfl ?_) | ((first | change (_ → _) ∧ (_ → _) | change vp_in _ _ ∧ _ | change ¬ _ ∧ _); simp (disch := omega) only [nI_clamp, nI_leI, nI_ltI, nI_eq, nI_1, nI_add, nI_not_neg, nI_is_pos, nI_m1, nI_z, e]) | refine brT (by first | assumption | decide | omega) ?_ | refine brF (by first | assumption | decide | omega) ?_ | refine brTn (by first | assumption | decide | omega) ?_ | refine brFn (by first | assumption | decide | omega) ?_ | refine And.intro (vp_in_nI (by omega) (by decide)) ?_ | refine And.intro (vp_lit (by decide)) ?_ | refine divJ (by decide) ?_ | refine divI (by decide) ?_)
      try change _ ∧ _
      first | done | rfl | (simp (disch := omega) only [nI_1, nI_add, nI_clamp] <;> first | done | rfl)
  have ih := lp 0 (Nat.zero_le _)
  repeat (first | refine Wp.at ih rfl rfl ?_ rfl | (refine W1 rfl ?_; try refine Wp.norm (L' := [_, _, _]) rfl ?_) | ((first | change (_ → _) ∧ (_ → _) | change vp_in _ _ ∧ _ | change ¬ _ ∧ _); simp (disch := omega) only [nI_clamp, nI_leI, nI_ltI, nI_eq, nI_1, nI_add, nI_not_neg, nI_is_pos, nI_m1, nI_z]) | refine brT (by first | assumption | decide | omega) ?_ | refine brF (by first | assumption | decide | omega) ?_ | refine brTn (by first | assumption | decide | omega) ?_ | refine brFn (by first | assumption | decide | omega) ?_ | refine And.intro (vp_in_nI (by omega) (by decide)) ?_ | refine And.intro (vp_lit (by decide)) ?_ | refine divJ (by decide) ?_ | refine divI (by decide) ?_)
  try change _ ∧ _
  first | done | rfl | (simp (disch := omega) only [nI_1, nI_add, nI_clamp] <;> first | done | rfl)
end ACC
/-- whom a name tells, how many names there are -/
def pfi (s : ST) (b : Nat → Nat) (n i : Nat) : Nat := fI (fun p => decide (pC s p = tV b n i)) (zP s)
def rqB (s : ST) (b : Nat → Nat) (n i : Nat) : Bool := decide (tS b n i = 1) && decide (pfi s b n i < zP s)
def rq (s : ST) (b : Nat → Nat) (n : Nat) : Nat := re (rqB s b n) 20 0
def rwV (q t : Nat) : Int32 := if 0 < q ∧ t = 0 then nI q else -1
section ROWC
variable {s : ST} {c v : RT} {b : Nat → Nat} {n : Nat} {h : HP}
theorem pC_lt (o : OK s) {p : Nat} (hp : p < zP s) : pC s p < 1073741824 := by
  obtain ⟨w, hw, _, e⟩ := o.pnm hp
  rw [e]
  exact p32_6 hw
theorem r_called (R : RC s c v h) (o : OK s) (hb : ∀ k, k < n → b k < 256) (i : Nat) : Run 0 j_House_personCalled [.ref 7, .int (nI (tV b n i))] h (some (.int (if pfi s b n i < zP s then nI (pfi s b n i) else -1))) h := by
  have r := r_personCalled7 o.P R.P (nI (tV b n i))
  have e : ∀ p, p < zP s → decide (h.1 8 p = nI (tV b n i)) = decide (pC s p = tV b n i) := fun p hp => by
    have h1 := pC_lt o hp
    have h2 := tV_lt hb i
    rw [R.pnm hp]
    by_cases z : pC s p = tV b n i
    · rw [z]; simp
    · rw [decide_eq_false z, decide_eq_false (fun y => z ((nI_eq (by omega) (by omega)).mp y))]
  rw [fV_congr e] at r
  exact r
theorem w_readRow (K : TK b n h) (R : RC s c v h) (o : OK s) (hb : ∀ k, k < n → b k < 256) : ∃ w h', Run 1 j_Reader_readRow [.ref 17, .ref 7] h w h' ∧ (w = some (.int (rwV (rq s b n) (tS b n (rq s b n)))) ∧ onlyJ [35] [] h h' ∧ ∀ i, i < rq s b n → h'.1 35 i = nI (pfi s b n i)) := by
  have hT := o.T; have hP := o.P; have hK := o.K; have hD := o.D; have hO := o.O; have hQ := o.Q; have hL := o.L
  have hq20 : rq s b n ≤ 20 := re_le (Nat.zero_le _)
  have hin : ∀ i, i < rq s b n → tS b n i = 1 ∧ pfi s b n i < zP s := fun i hi => by
    have : rqB s b n i = true := re_in (Nat.zero_le _) (Nat.zero_le i) hi
    unfold rqB at this
    simpa using this
  have hout : rq s b n < 20 → ¬ (tS b n (rq s b n) = 1 ∧ pfi s b n (rq s b n) < zP s) := fun z w => by
    have : rqB s b n (rq s b n) = false := re_out (Nat.zero_le _) z
    unfold rqB at this
    rw [decide_eq_true w.1, decide_eq_true w.2] at this
    cases this
  generalize rq s b n = q at *
  refine Run.ofP rfl ?_
  refine Wp.norm (L' := [_, _, _]) rfl ?_
  have tk : ∀ {h'}, onlyJ [35] [] h h' → TK b n h' := fun {h'} O => by
    obtain ⟨m, a1, a2, a3, a4, a5⟩ := K
    refine ⟨m, a1, a2, a3, by rw [O.1 3 3 (by decide)]; exact a4, fun k hk => ?_⟩
    rw [O.1 4 k (by decide), O.1 5 k (by decide), O.1 6 k (by decide)]
    exact a5 k hk
  have lp : ∀ i, i ≤ q → ∀ h', onlyJ [35] [] h h' → (∀ d, d < i → h'.1 35 d = nI (pfi s b n d)) → Wp 1 j_Reader_readRow 2 [.ref 17, .ref 7, .int (nI i)] [] h' (fun w h' => w = some (.int (rwV q (tS b n q))) ∧ onlyJ [35] [] h h' ∧ ∀ i, i < q → h'.1 35 i = nI (pfi s b n i)) := by
    refine up_ind ?_ (fun i hi ih => ?_)
    · intro h' O A
      have K' := tk O
      have R' : RC s c v h' := R.sr (O.K (by intro k i hk z; simp at z; subst z; cases hk))
      have ht7 := tS_le (b := b) (n := n) q
      have fin : Wp 1 j_Reader_readRow 56 [.ref 17, .ref 7, .int (nI q)] [] h' (fun w h' => w = some (.int (rwV q (tS b n q))) ∧ onlyJ [35] [] h h' ∧ ∀ i, i < q → h'.1 35 i = nI (pfi s b n i)) := by
        unfold rwV
        by_cases c1 : q = 0
        · rw [if_neg (by omega)]
          repeat (first | (refine W1 rfl ?_; try refine Wp.norm (L' := [_, _, _]) rfl ?_) | ((first | change (_ → _) ∧ (_ → _) | change vp_in _ _ ∧ _ | change ¬ _ ∧ _); simp (disch := omega) only [nI_clamp, nI_leI, nI_ltI, nI_eq, nI_1, nI_add, nI_not_neg, nI_is_pos, nI_m1, nI_z, nI_le0]) | refine brT (by first | assumption | decide | omega) ?_ | refine brF (by first | assumption | decide | omega) ?_ | refine brTn (by first | assumption | decide | omega) ?_ | refine brFn (by first | assumption | decide | omega) ?_ | refine And.intro (vp_in_nI (by omega) (by decide)) ?_ | refine And.intro (vp_lit (by decide)) ?_ | refine divJ (by decide) ?_ | refine divI (by decide) ?_)
          try change _ ∧ _
          exact ⟨rfl, O, A⟩
        · repeat (first | (refine W1 rfl ?_; try refine Wp.norm (L' := [_, _, _]) rfl ?_) | ((first | change (_ → _) ∧ (_ → _) | change vp_in _ _ ∧ _ | change ¬ _ ∧ _); simp (disch := omega) only [nI_clamp, nI_leI, nI_ltI, nI_eq, nI_1, nI_add, nI_not_neg, nI_is_pos, nI_m1, nI_z, nI_le0]) | refine brT (by first | assumption | decide | omega) ?_ | refine brF (by first | assumption | decide | omega) ?_ | refine brTn (by first | assumption | decide | omega) ?_ | refine brFn (by first | assumption | decide | omega) ?_ | refine And.intro (vp_in_nI (by omega) (by decide)) ?_ | refine And.intro (vp_lit (by decide)) ?_ | refine divJ (by decide) ?_ | refine divI (by decide) ?_)
          try change _ ∧ _
          refine Cl.of (r_sortAt K' (show q < 2000 by omega)) (by decide) ?_
          by_cases c2 : tS b n q = 0
          · rw [if_pos ⟨by omega, c2⟩]
            repeat (first | (refine W1 rfl ?_; try refine Wp.norm (L' := [_, _, _]) rfl ?_) | ((first | change (_ → _) ∧ (_ → _) | change vp_in _ _ ∧ _ | change ¬ _ ∧ _); simp (disch := omega) only [nI_clamp, nI_leI, nI_ltI, nI_eq, nI_1, nI_add, nI_not_neg, nI_is_pos, nI_m1, nI_z]) | refine brT (by first | assumption | decide | omega) ?_ | refine brF (by first | assumption | decide | omega) ?_ | refine brTn (by first | assumption | decide | omega) ?_ | refine brFn (by first | assumption | decide | omega) ?_ | refine And.intro (vp_in_nI (by omega) (by decide)) ?_ | refine And.intro (vp_lit (by decide)) ?_ | refine divJ (by decide) ?_ | refine divI (by decide) ?_)
            try change _ ∧ _
            exact ⟨rfl, O, A⟩
          · rw [if_neg (fun z => c2 z.2)]
            repeat (first | (refine W1 rfl ?_; try refine Wp.norm (L' := [_, _, _]) rfl ?_) | ((first | change (_ → _) ∧ (_ → _) | change vp_in _ _ ∧ _ | change ¬ _ ∧ _); simp (disch := omega) only [nI_clamp, nI_leI, nI_ltI, nI_eq, nI_1, nI_add, nI_not_neg, nI_is_pos, nI_m1, nI_z]) | refine brT (by first | assumption | decide | omega) ?_ | refine brF (by first | assumption | decide | omega) ?_ | refine brTn (by first | assumption | decide | omega) ?_ | refine brFn (by first | assumption | decide | omega) ?_ | refine And.intro (vp_in_nI (by omega) (by decide)) ?_ | refine And.intro (vp_lit (by decide)) ?_ | refine divJ (by decide) ?_ | refine divI (by decide) ?_)
            try change _ ∧ _
            exact ⟨rfl, O, A⟩
      by_cases hq : q < 20
      · by_cases c1 : tS b n q = 1
        · have c2 : ¬ pfi s b n q < zP s := fun z => hout hq ⟨c1, z⟩
          have rc := r_called R' o hb q
          rw [if_neg c2] at rc
          have e35 : (wI h' 35 q (-1)).1 35 q = -1 := wI_same _ _ _ _
          have ev : rwV q (tS b n q) = -1 := by unfold rwV; rw [if_neg (by omega)]
          rw [ev]
          repeat (first | (refine W1 rfl ?_; try refine Wp.norm (L' := [_, _, _]) rfl ?_) | ((first | change (_ → _) ∧ (_ → _) | change vp_in _ _ ∧ _ | change ¬ _ ∧ _); simp (disch := omega) only [nI_clamp, nI_leI, nI_ltI, nI_eq, nI_1, nI_add, nI_not_neg, nI_is_pos, nI_m1, nI_z, show (20 : Int32) = nI 20 from rfl]) | refine brT (by first | assumption | decide | omega) ?_ | refine brF (by first | assumption | decide | omega) ?_ | refine brTn (by first | assumption | decide | omega) ?_ | refine brFn (by first | assumption | decide | omega) ?_ | refine And.intro (vp_in_nI (by omega) (by decide)) ?_ | refine And.intro (vp_lit (by decide)) ?_ | refine divJ (by decide) ?_ | refine divI (by decide) ?_)
          try change _ ∧ _
          refine Cl.of (r_sortAt K' (show q < 2000 by omega)) (by decide) ?_
          rw [c1]
          repeat (first | (refine W1 rfl ?_; try refine Wp.norm (L' := [_, _, _]) rfl ?_) | ((first | change (_ → _) ∧ (_ → _) | change vp_in _ _ ∧ _ | change ¬ _ ∧ _); simp (disch := omega) only [nI_clamp, nI_leI, nI_ltI, nI_eq, nI_1, nI_add, nI_not_neg, nI_is_pos, nI_m1, nI_z]) | refine brT (by first | assumption | decide | omega) ?_ | refine brF (by first | assumption | decide | omega) ?_ | refine brTn (by first | assumption | decide | omega) ?_ | refine brFn (by first | assumption | decide | omega) ?_ | refine And.intro (vp_in_nI (by omega) (by decide)) ?_ | refine And.intro (vp_lit (by decide)) ?_ | refine divJ (by decide) ?_ | refine divI (by decide) ?_)
          try change _ ∧ _
          refine Cl.of (r_valueAt K' (show q < 2000 by omega)) (by decide) ?_
          repeat (first | (refine W1 rfl ?_; try refine Wp.norm (L' := [_, _, _]) rfl ?_) | ((first | change (_ → _) ∧ (_ → _) | change vp_in _ _ ∧ _ | change ¬ _ ∧ _); simp (disch := omega) only [nI_clamp, nI_leI, nI_ltI, nI_eq, nI_1, nI_add, nI_not_neg, nI_is_pos, nI_m1, nI_z]) | refine brT (by first | assumption | decide | omega) ?_ | refine brF (by first | assumption | decide | omega) ?_ | refine brTn (by first | assumption | decide | omega) ?_ | refine brFn (by first | assumption | decide | omega) ?_ | refine And.intro (vp_in_nI (by omega) (by decide)) ?_ | refine And.intro (vp_lit (by decide)) ?_ | refine divJ (by decide) ?_ | refine divI (by decide) ?_)
          try change _ ∧ _
          refine Cl.of rc (by decide) ?_
          repeat (first | (refine W1 rfl ?_; try refine Wp.norm (L' := [_, _, _]) rfl ?_) | ((first | change (_ → _) ∧ (_ → _) | change vp_in _ _ ∧ _ | change ¬ _ ∧ _); simp (disch := omega) only [nI_clamp, nI_leI, nI_ltI, nI_eq, nI_1, nI_add, nI_not_neg, nI_is_pos, nI_m1, nI_z, e35]) | refine brT (by first | assumption | decide | omega) ?_ | refine brF (by first | assumption | decide | omega) ?_ | refine brTn (by first | assumption | decide | omega) ?_ | refine brFn (by first | assumption | decide | omega) ?_ | refine And.intro (vp_in_nI (by omega) (by decide)) ?_ | refine And.intro (vp_lit (by decide)) ?_ | refine divJ (by decide) ?_ | refine divI (by decide) ?_)
          try change _ ∧ _
          exact ⟨rfl, O.addI (by decide), fun i hi => by rw [wI_ne2 _ _ (by omega)]; exact A i hi⟩
        · have ih := fin
          repeat (first | (refine W1 rfl ?_; try refine Wp.norm (L' := [_, _, _]) rfl ?_) | ((first | change (_ → _) ∧ (_ → _) | change vp_in _ _ ∧ _ | change ¬ _ ∧ _); simp (disch := omega) only [nI_clamp, nI_leI, nI_ltI, nI_eq, nI_1, nI_add, nI_not_neg, nI_is_pos, nI_m1, nI_z, show (20 : Int32) = nI 20 from rfl]) | refine brT (by first | assumption | decide | omega) ?_ | refine brF (by first | assumption | decide | omega) ?_ | refine brTn (by first | assumption | decide | omega) ?_ | refine brFn (by first | assumption | decide | omega) ?_ | refine And.intro (vp_in_nI (by omega) (by decide)) ?_ | refine And.intro (vp_lit (by decide)) ?_ | refine divJ (by decide) ?_ | refine divI (by decide) ?_)
          try change _ ∧ _
          refine Cl.of (r_sortAt K' (show q < 2000 by omega)) (by decide) ?_
          repeat (first | refine Wp.at ih rfl rfl ?_ rfl | (refine W1 rfl ?_; try refine Wp.norm (L' := [_, _, _]) rfl ?_) | ((first | change (_ → _) ∧ (_ → _) | change vp_in _ _ ∧ _ | change ¬ _ ∧ _); simp (disch := omega) only [nI_clamp, nI_leI, nI_ltI, nI_eq, nI_1, nI_add, nI_not_neg, nI_is_pos, nI_m1, nI_z, show (1 : Int32) = nI 1 from rfl]) | refine brT (by first | assumption | decide | omega) ?_ | refine brF (by first | assumption | decide | omega) ?_ | refine brTn (by first | assumption | decide | omega) ?_ | refine brFn (by first | assumption | decide | omega) ?_ | refine And.intro (vp_in_nI (by omega) (by decide)) ?_ | refine And.intro (vp_lit (by decide)) ?_ | refine divJ (by decide) ?_ | refine divI (by decide) ?_)
          try change _ ∧ _
          first | done | rfl | (simp (disch := omega) only [nI_1, nI_add, nI_clamp] <;> first | done | rfl)
      · have ih := fin
        (refine W1 rfl ?_; try refine Wp.norm (L' := [_, _, _]) rfl ?_)
        repeat (first | refine Wp.at ih rfl rfl ?_ rfl | (refine W1 rfl ?_; try refine Wp.norm (L' := [_, _, _]) rfl ?_) | ((first | change (_ → _) ∧ (_ → _) | change vp_in _ _ ∧ _ | change ¬ _ ∧ _); simp (disch := omega) only [nI_clamp, nI_leI, nI_ltI, nI_eq, nI_1, nI_add, nI_not_neg, nI_is_pos, nI_m1, nI_z, show (20 : Int32) = nI 20 from rfl]) | refine brT (by first | assumption | decide | omega) ?_ | refine brF (by first | assumption | decide | omega) ?_ | refine brTn (by first | assumption | decide | omega) ?_ | refine brFn (by first | assumption | decide | omega) ?_ | refine And.intro (vp_in_nI (by omega) (by decide)) ?_ | refine And.intro (vp_lit (by decide)) ?_ | refine divJ (by decide) ?_ | refine divI (by decide) ?_)
        try change _ ∧ _
        first | done | rfl | (simp (disch := omega) only [nI_1, nI_add, nI_clamp] <;> first | done | rfl)
    · intro h' O A
      have K' := tk O
      have R' : RC s c v h' := R.sr (O.K (by intro k i hk z; simp at z; subst z; cases hk))
      obtain ⟨c1, c2⟩ := hin i hi
      have rc := r_called R' o hb i
      rw [if_pos c2] at rc
      have e35 : (wI h' 35 i (nI (pfi s b n i))).1 35 i = nI (pfi s b n i) := wI_same _ _ _ _
      have ih := ih (wI h' 35 i (nI (pfi s b n i))) (O.addI (by decide)) (fun d hd => by
        by_cases e : d = i
        · rw [e, wI_same]
        · rw [wI_ne2 _ _ e]; exact A d (by omega))
      repeat (first | (refine W1 rfl ?_; try refine Wp.norm (L' := [_, _, _]) rfl ?_) | ((first | change (_ → _) ∧ (_ → _) | change vp_in _ _ ∧ _ | change ¬ _ ∧ _); simp (disch := omega) only [nI_clamp, nI_leI, nI_ltI, nI_eq, nI_1, nI_add, nI_not_neg, nI_is_pos, nI_m1, nI_z, show (20 : Int32) = nI 20 from rfl]) | refine brT (by first | assumption | decide | omega) ?_ | refine brF (by first | assumption | decide | omega) ?_ | refine brTn (by first | assumption | decide | omega) ?_ | refine brFn (by first | assumption | decide | omega) ?_ | refine And.intro (vp_in_nI (by omega) (by decide)) ?_ | refine And.intro (vp_lit (by decide)) ?_ | refine divJ (by decide) ?_ | refine divI (by decide) ?_)
      try change _ ∧ _
      refine Cl.of (r_sortAt K' (show i < 2000 by omega)) (by decide) ?_
      rw [c1]
      repeat (first | (refine W1 rfl ?_; try refine Wp.norm (L' := [_, _, _]) rfl ?_) | ((first | change (_ → _) ∧ (_ → _) | change vp_in _ _ ∧ _ | change ¬ _ ∧ _); simp (disch := omega) only [nI_clamp, nI_leI, nI_ltI, nI_eq, nI_1, nI_add, nI_not_neg, nI_is_pos, nI_m1, nI_z]) | refine brT (by first | assumption | decide | omega) ?_ | refine brF (by first | assumption | decide | omega) ?_ | refine brTn (by first | assumption | decide | omega) ?_ | refine brFn (by first | assumption | decide | omega) ?_ | refine And.intro (vp_in_nI (by omega) (by decide)) ?_ | refine And.intro (vp_lit (by decide)) ?_ | refine divJ (by decide) ?_ | refine divI (by decide) ?_)
      try change _ ∧ _
      refine Cl.of (r_valueAt K' (show i < 2000 by omega)) (by decide) ?_
      repeat (first | (refine W1 rfl ?_; try refine Wp.norm (L' := [_, _, _]) rfl ?_) | ((first | change (_ → _) ∧ (_ → _) | change vp_in _ _ ∧ _ | change ¬ _ ∧ _); simp (disch := omega) only [nI_clamp, nI_leI, nI_ltI, nI_eq, nI_1, nI_add, nI_not_neg, nI_is_pos, nI_m1, nI_z]) | refine brT (by first | assumption | decide | omega) ?_ | refine brF (by first | assumption | decide | omega) ?_ | refine brTn (by first | assumption | decide | omega) ?_ | refine brFn (by first | assumption | decide | omega) ?_ | refine And.intro (vp_in_nI (by omega) (by decide)) ?_ | refine And.intro (vp_lit (by decide)) ?_ | refine divJ (by decide) ?_ | refine divI (by decide) ?_)
      try change _ ∧ _
      refine Cl.of rc (by decide) ?_
      repeat (first | refine Wp.at ih rfl rfl ?_ rfl | (refine W1 rfl ?_; try refine Wp.norm (L' := [_, _, _]) rfl ?_) | ((first | change (_ → _) ∧ (_ → _) | change vp_in _ _ ∧ _ | change ¬ _ ∧ _); simp (disch := omega) only [nI_clamp, nI_leI, nI_ltI, nI_eq, nI_1, nI_add, nI_not_neg, nI_is_pos, nI_m1, nI_z, e35, nI_m1]) | refine brT (by first | assumption | decide | omega) ?_ | refine brF (by first | assumption | decide | omega) ?_ | refine brTn (by first | assumption | decide | omega) ?_ | refine brFn (by first | assumption | decide | omega) ?_ | refine And.intro (vp_in_nI (by omega) (by decide)) ?_ | refine And.intro (vp_lit (by decide)) ?_ | refine divJ (by decide) ?_ | refine divI (by decide) ?_)
      try change _ ∧ _
      first | done | rfl | (simp (disch := omega) only [nI_1, nI_add, nI_clamp] <;> first | done | rfl)
  have ih := lp 0 (Nat.zero_le _) h (onlyJ.rfl _ _ h) (fun d hd => absurd hd (by omega))
  repeat (first | refine Wp.at ih rfl rfl ?_ rfl | (refine W1 rfl ?_; try refine Wp.norm (L' := [_, _, _]) rfl ?_) | ((first | change (_ → _) ∧ (_ → _) | change vp_in _ _ ∧ _ | change ¬ _ ∧ _); simp (disch := omega) only [nI_clamp, nI_leI, nI_ltI, nI_eq, nI_1, nI_add, nI_not_neg, nI_is_pos, nI_m1, nI_z]) | refine brT (by first | assumption | decide | omega) ?_ | refine brF (by first | assumption | decide | omega) ?_ | refine brTn (by first | assumption | decide | omega) ?_ | refine brFn (by first | assumption | decide | omega) ?_ | refine And.intro (vp_in_nI (by omega) (by decide)) ?_ | refine And.intro (vp_lit (by decide)) ?_ | refine divJ (by decide) ?_ | refine divI (by decide) ?_)
  try change _ ∧ _
  first | done | rfl | (simp (disch := omega) only [nI_1, nI_add, nI_clamp] <;> first | done | rfl)
theorem w_E_readRow (T : TB b n h) (R : RC s c v h) (o : OK s) : ∃ w h', Run 3 j_E_readRow [.ref 0] h w h' ∧ (w = some (.int (rwV (rq s b n) (tS b n (rq s b n)))) ∧ onlyJ [1, 3, 4, 5, 6, 35] [] h h' ∧ h'.1 1 1 = 0 ∧ ∀ i, i < rq s b n → h'.1 35 i = nI (pfi s b n i)) := by
  obtain ⟨h1, r1, O1, K1⟩ := w_divide T
  have O2 : onlyJ [1, 3, 4, 5, 6, 35] [] h (wI h1 1 1 0) := (O1.mono (by intro k hk; simp at hk; rcases hk with hk | hk | hk | hk <;> (subst hk; decide)) (by simp)).addI (by decide)
  have R2 : RC s c v (wI h1 1 1 0) := R.sr (O2.K (by intro k i hk z; simp at z; rcases z with z | z | z | z | z | z <;> (subst z; cases hk)))
  have K2 : TK b n (wI h1 1 1 0) := by
    obtain ⟨m, a1, a2, a3, a4, a5⟩ := K1
    refine ⟨m, a1, a2, a3, by rw [wI_ne _ _ _ (by decide)]; exact a4, fun k hk => ?_⟩
    rw [wI_ne _ _ _ (by decide), wI_ne _ _ _ (by decide), wI_ne _ _ _ (by decide)]
    exact a5 k hk
  obtain ⟨w, h3, r3, e3, O3, A3⟩ := w_readRow K2 R2 o (fun k hk => (T.2.2 k hk).2)
  subst e3
  refine ⟨_, h3, ?_, rfl, O2.trans (O3.mono (by intro k hk; simp at hk; subst hk; decide) (by simp)), by rw [O3.1 1 1 (by decide), wI_same], A3⟩
  refine Run.of rfl ?_
  refine Wp.norm (L' := [_]) rfl ?_
  repeat (first | (refine W1 rfl ?_; try refine Wp.norm (L' := [_]) rfl ?_) | ((first | change (_ → _) ∧ (_ → _) | change vp_in _ _ ∧ _ | change ¬ _ ∧ _); simp (disch := omega) only [nI_clamp, nI_leI, nI_ltI, nI_eq, nI_1, nI_add, nI_not_neg, nI_is_pos, nI_m1, nI_z]) | refine brT (by first | assumption | decide | omega) ?_ | refine brF (by first | assumption | decide | omega) ?_ | refine brTn (by first | assumption | decide | omega) ?_ | refine brFn (by first | assumption | decide | omega) ?_ | refine And.intro (vp_in_nI (by omega) (by decide)) ?_ | refine And.intro (vp_lit (by decide)) ?_ | refine divJ (by decide) ?_ | refine divI (by decide) ?_)
  try change _ ∧ _
  refine Cl.of r1 (by decide) ?_
  repeat (first | (refine W1 rfl ?_; try refine Wp.norm (L' := [_]) rfl ?_) | ((first | change (_ → _) ∧ (_ → _) | change vp_in _ _ ∧ _ | change ¬ _ ∧ _); simp (disch := omega) only [nI_clamp, nI_leI, nI_ltI, nI_eq, nI_1, nI_add, nI_not_neg, nI_is_pos, nI_m1, nI_z]) | refine brT (by first | assumption | decide | omega) ?_ | refine brF (by first | assumption | decide | omega) ?_ | refine brTn (by first | assumption | decide | omega) ?_ | refine brFn (by first | assumption | decide | omega) ?_ | refine And.intro (vp_in_nI (by omega) (by decide)) ?_ | refine And.intro (vp_lit (by decide)) ?_ | refine divJ (by decide) ?_ | refine divI (by decide) ?_)
  try change _ ∧ _
  refine Cl.of r3 (by decide) ?_
  repeat (first | (refine W1 rfl ?_; try refine Wp.norm (L' := [_]) rfl ?_) | ((first | change (_ → _) ∧ (_ → _) | change vp_in _ _ ∧ _ | change ¬ _ ∧ _); simp (disch := omega) only [nI_clamp, nI_leI, nI_ltI, nI_eq, nI_1, nI_add, nI_not_neg, nI_is_pos, nI_m1, nI_z]) | refine brT (by first | assumption | decide | omega) ?_ | refine brF (by first | assumption | decide | omega) ?_ | refine brTn (by first | assumption | decide | omega) ?_ | refine brFn (by first | assumption | decide | omega) ?_ | refine And.intro (vp_in_nI (by omega) (by decide)) ?_ | refine And.intro (vp_lit (by decide)) ?_ | refine divJ (by decide) ?_ | refine divI (by decide) ?_)
  try change _ ∧ _
  try first | exact ⟨rfl, rfl⟩ | exact ⟨Or.inr rfl, rfl, rfl⟩ | exact ⟨Or.inl rfl, rfl, rfl⟩ | exact ⟨trivial, trivial⟩ | exact ⟨rfl, trivial⟩ | exact ⟨Or.inr rfl, rfl, trivial⟩ | exact ⟨Or.inl rfl, rfl, trivial⟩
end ROWC
