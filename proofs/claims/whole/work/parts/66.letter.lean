/-! ===== LETTER; the beginning ===== -/
theorem e32_dig : ∀ (w : List Nat) (k : Nat), (∀ x, x ∈ w → x ≤ 26) → (e32 w / 32 ^ k) % 32 = w.getD k 0
  | [], k, _ => by
    show (0 / 32 ^ k) % 32 = _
    rw [Nat.zero_div]
    rfl
  | x :: w, 0, h => by
    have := h x (by simp)
    show ((x + 32 * e32 w) / 1) % 32 = x
    omega
  | x :: w, k + 1, h => by
    have hx := h x (by simp)
    have ih := e32_dig w k (fun y hy => h y (by simp [hy]))
    show ((x + 32 * e32 w) / 32 ^ (k + 1)) % 32 = w.getD k 0
    rw [Nat.pow_succ, Nat.mul_comm (32 ^ k) 32, ← Nat.div_div_eq_div_mul, show (x + 32 * e32 w) / 32 = e32 w by omega]
    exact ih
theorem e32_lt : ∀ (w : List Nat), (∀ x, x ∈ w → x ≤ 26) → e32 w < 32 ^ w.length
  | [], _ => by show 0 < 1; decide
  | x :: w, h => by
    have hx := h x (by simp)
    have ih := e32_lt w (fun y hy => h y (by simp [hy]))
    show x + 32 * e32 w < 32 ^ (w.length + 1)
    rw [Nat.pow_succ]
    omega
theorem e27_a : ∀ (w : List Nat) (a : Nat), e27 w a = a * 27 ^ w.length + e27 w 0
  | [], a => by show a = a * 1 + 0; omega
  | x :: w, a => by
    show e27 w (27 * a + x) = a * 27 ^ (w.length + 1) + e27 w (27 * 0 + x)
    rw [e27_a w (27 * a + x), e27_a w (27 * 0 + x), show 27 * 0 + x = x by omega, Nat.pow_succ, Nat.add_mul, Nat.mul_comm 27 a, Nat.mul_assoc, Nat.mul_comm 27 (27 ^ w.length)]
    omega
theorem e27_lt : ∀ (w : List Nat), (∀ x, x ∈ w → x ≤ 26) → e27 w 0 < 27 ^ w.length
  | [], _ => by show 0 < 1; decide
  | x :: w, h => by
    have hx := h x (by simp)
    have ih := e27_lt w (fun y hy => h y (by simp [hy]))
    show e27 w (27 * 0 + x) < 27 ^ (w.length + 1)
    rw [e27_a, Nat.pow_succ, show 27 * 0 + x = x by omega]
    have : x * 27 ^ w.length ≤ 26 * 27 ^ w.length := Nat.mul_le_mul_right _ hx
    omega
theorem e27_ge {w : List Nat} (h1 : 1 ≤ w.length) (h : ∀ x, x ∈ w → 1 ≤ x) : 27 ^ (w.length - 1) ≤ e27 w 0 := by
  match w, h1 with
  | x :: w, _ =>
    have hx := h x (by simp)
    show 27 ^ w.length ≤ e27 w (27 * 0 + x)
    rw [e27_a, show 27 * 0 + x = x by omega]
    have : 1 * 27 ^ w.length ≤ x * 27 ^ w.length := Nat.mul_le_mul_right _ hx
    omega
theorem e27_dig : ∀ (w : List Nat) (k : Nat), k < w.length → (∀ x, x ∈ w → x ≤ 26) → (e27 w 0 / 27 ^ (w.length - 1 - k)) % 27 = w.getD k 0
  | [], k, hk, _ => absurd hk (by show ¬ k < 0; omega)
  | x :: w, 0, _, h => by
    have hx := h x (by simp)
    have hl := e27_lt w (fun y hy => h y (by simp [hy]))
    show (e27 w (27 * 0 + x) / 27 ^ (w.length + 1 - 1 - 0)) % 27 = x
    rw [e27_a, show 27 * 0 + x = x by omega, show w.length + 1 - 1 - 0 = w.length by omega, Nat.add_comm, Nat.add_mul_div_right _ _ (Nat.pow_pos (by decide)), Nat.div_eq_of_lt hl]
    omega
  | x :: w, k + 1, hk, h => by
    have hk' : k < w.length := by
      have : k + 1 < w.length + 1 := hk
      omega
    have ih := e27_dig w k hk' (fun y hy => h y (by simp [hy]))
    show (e27 w (27 * 0 + x) / 27 ^ (w.length + 1 - 1 - (k + 1))) % 27 = w.getD k 0
    rw [e27_a, show 27 * 0 + x = x by omega, show w.length + 1 - 1 - (k + 1) = w.length - 1 - k by omega]
    have ep : 27 ^ w.length = 27 ^ (k + 1) * 27 ^ (w.length - 1 - k) := by rw [← Nat.pow_add]; congr 1; omega
    rw [ep, ← Nat.mul_assoc, Nat.add_comm, Nat.add_mul_div_right _ _ (Nat.pow_pos (by decide)), Nat.pow_succ, ← Nat.mul_assoc, Nat.add_mul_mod_self_right]
    exact ih
theorem p27_6 {w : List Nat} (h : isW w) : e27 w 0 < 387420489 := by
  have h1 := e27_lt w (fun x hx => (h.2.2 x hx).2)
  have h2 : 27 ^ w.length ≤ 27 ^ 6 := Nat.pow_le_pow_right (by decide) h.2.1
  have h3 : (27 : Nat) ^ 6 = 387420489 := by decide
  omega
theorem p32_6 {w : List Nat} (h : isW w) : e32 w < 1073741824 := by
  have h1 := e32_lt w (fun x hx => (h.2.2 x hx).2)
  have h2 : 32 ^ w.length ≤ 32 ^ 6 := Nat.pow_le_pow_right (by decide) h.2.1
  have h3 : (32 : Nat) ^ 6 = 1073741824 := by decide
  omega
section LET
variable {s : ST} {c v : RT} {h : HP}
theorem sh5 : ∀ k, k < 6 → ((5 * nI k &&& 31).toBitVec.smod 32).toNat = 5 * k := by decide
theorem r_letterOf (h : HP) {w : List Nat} (hw : isW w) {k : Nat} (hk : k < 6) : Run 0 j_Tokens_letterOf [.int (nI (e32 w)), .int (nI k)] h (some (.int (nI (w.getD k 0)))) h := by
  have h32 := p32_6 hw
  refine Run.of rfl ?_
  refine Wp.norm (L' := [_, _]) rfl ?_
  repeat (first | (refine W1 rfl ?_; try refine Wp.norm (L' := [_, _]) rfl ?_) | ((first | change (_ → _) ∧ (_ → _) | change vp_in _ _ ∧ _ | change ¬ _ ∧ _); simp (disch := omega) only [nI_clamp, nI_leI, nI_ltI, nI_eq, nI_1, nI_add, nI_not_neg, nI_is_pos, nI_m1, nI_z]) | refine brT (by first | assumption | decide | omega) ?_ | refine brF (by first | assumption | decide | omega) ?_ | refine brTn (by first | assumption | decide | omega) ?_ | refine brFn (by first | assumption | decide | omega) ?_ | refine And.intro (vp_in_nI (by omega) (by decide)) ?_ | refine And.intro (vp_lit (by decide)) ?_ | refine divJ (by decide) ?_ | refine divI (by decide) ?_)
  try change _ ∧ _
  refine ⟨?_, rfl⟩
  rw [pk_shrN (by omega) _ (5 * k) (sh5 k hk), pk_andN (Nat.lt_of_le_of_lt (Nat.div_le_self _ _) (by omega)) 5 (by decide), Nat.pow_mul, show 2 ^ 5 = 32 from rfl, e32_dig w k (fun x hx => (hw.2.2 x hx).2)]
theorem w_M_letterB {w : List Nat} (hw : isW w) {k : Nat} (hk : k < 6) (kd wh : Int32) {x6 x7 : Value} : Wp 2 j_M_letter 64 [.ref 65, .int kd, .int wh, .int (nI k), .long (lN (e27 w 0)), .null, x6, x7, .null] [] h (fun v' h2 => v' = some (.int (nI (w.getD k 0))) ∧ h2 = h) := by
  have h27 := p27_6 hw
  have h6 := hw.2.1
  have two : ∀ j, k + j < w.length → Wp 2 j_M_letter 106 [.ref 65, .int kd, .int wh, .int (nI k), .long (lN (e27 w 0 / 27 ^ (w.length - 1 - (k + j)))), .null, .int (nI w.length), .int (nI (k + j)), .null] [] h (fun v' h2 => v' = some (.int (nI (w.getD k 0))) ∧ h2 = h) := by
    intro j
    induction j with
    | zero =>
      intro hk2
      have hv : e27 w 0 / 27 ^ (w.length - 1 - (k + 0)) < 387420489 := Nat.lt_of_le_of_lt (Nat.div_le_self _ _) h27
      have hd := e27_dig w k hk2 (fun x hx => (hw.2.2 x hx).2)
      rw [Nat.add_zero] at *
      generalize e27 w 0 / 27 ^ (w.length - 1 - k) = y at *
      repeat (first | (refine W1 rfl ?_; try refine Wp.norm (L' := [_, _, _, _, _, _, _, _, _]) rfl ?_) | ((first | change (_ → _) ∧ (_ → _) | change vp_in _ _ ∧ _ | change ¬ _ ∧ _); simp (disch := omega) only [nI_clamp, nI_leI, nI_ltI, nI_eq, nI_1, nI_add, nI_not_neg, nI_is_pos, nI_m1, nI_z]) | refine brT (by first | assumption | decide | omega) ?_ | refine brF (by first | assumption | decide | omega) ?_ | refine brTn (by first | assumption | decide | omega) ?_ | refine brFn (by first | assumption | decide | omega) ?_ | refine And.intro (vp_in_nI (by omega) (by decide)) ?_ | refine And.intro (vp_lit (by decide)) ?_ | refine divJ (by decide) ?_ | refine divI (by decide) ?_)
      try change _ ∧ _
      rw [show (27 : Int64) = lN 27 from rfl, pk_lRem (by omega) (by decide) (by decide), lN_i, hd]
      try first | exact ⟨rfl, rfl⟩ | exact ⟨Or.inr rfl, rfl, rfl⟩ | exact ⟨Or.inl rfl, rfl, rfl⟩ | exact ⟨trivial, trivial⟩ | exact ⟨rfl, trivial⟩ | exact ⟨Or.inr rfl, rfl, trivial⟩ | exact ⟨Or.inl rfl, rfl, trivial⟩
    | succ j ihj =>
      intro hlt
      have ih := ihj (by omega)
      have hv : e27 w 0 / 27 ^ (w.length - 1 - (k + (j + 1))) < 387420489 := Nat.lt_of_le_of_lt (Nat.div_le_self _ _) h27
      have hstep : e27 w 0 / 27 ^ (w.length - 1 - (k + j)) = e27 w 0 / 27 ^ (w.length - 1 - (k + (j + 1))) / 27 := by
        rw [Nat.div_div_eq_div_mul, ← Nat.pow_succ]
        congr 2
        omega
      rw [hstep] at ih
      generalize e27 w 0 / 27 ^ (w.length - 1 - (k + (j + 1))) = y at *
      (refine W1 rfl ?_; try refine Wp.norm (L' := [_, _, _, _, _, _, _, _, _]) rfl ?_)
      repeat (first | refine Wp.at ih rfl rfl ?_ rfl | (refine W1 rfl ?_; try refine Wp.norm (L' := [_, _, _, _, _, _, _, _, _]) rfl ?_) | ((first | change (_ → _) ∧ (_ → _) | change vp_in _ _ ∧ _ | change ¬ _ ∧ _); simp (disch := omega) only [nI_clamp, nI_leI, nI_ltI, nI_eq, nI_1, nI_add, nI_not_neg, nI_is_pos, nI_m1, nI_z]) | refine brT (by first | assumption | decide | omega) ?_ | refine brF (by first | assumption | decide | omega) ?_ | refine brTn (by first | assumption | decide | omega) ?_ | refine brFn (by first | assumption | decide | omega) ?_ | refine And.intro (vp_in_nI (by omega) (by decide)) ?_ | refine And.intro (vp_lit (by decide)) ?_ | refine divJ (by decide) ?_ | refine divI (by decide) ?_)
      try change _ ∧ _
      rw [show (27 : Int64) = lN 27 from rfl, pk_lDiv (by omega) (by decide) (by decide), show k + (j + 1) = (k + j) + 1 by omega, pk_m1]
  -- behind the count
  have aft : ∀ z : Int64, Wp 2 j_M_letter 92 [.ref 65, .int kd, .int wh, .int (nI k), .long (lN (e27 w 0)), .null, .int (nI w.length), .long z, .null] [] h (fun v' h2 => v' = some (.int (nI (w.getD k 0))) ∧ h2 = h) := by
    intro z
    by_cases hk2 : k < w.length
    · have ih := two (w.length - 1 - k) (by omega)
      rw [show w.length - 1 - (k + (w.length - 1 - k)) = 0 by omega, Nat.pow_zero, Nat.div_one, show k + (w.length - 1 - k) = w.length - 1 by omega] at ih
      have e1 : nI w.length - 1 = nI (w.length - 1) := by rw [show w.length = w.length - 1 + 1 by omega, nI_pred]; rfl
      repeat (first | refine Wp.at ih rfl rfl ?_ rfl | (refine W1 rfl ?_; try refine Wp.norm (L' := [_, _, _, _, _, _, _, _, _]) rfl ?_) | ((first | change (_ → _) ∧ (_ → _) | change vp_in _ _ ∧ _ | change ¬ _ ∧ _); simp (disch := omega) only [nI_clamp, nI_leI, nI_ltI, nI_eq, nI_1, nI_add, nI_not_neg, nI_is_pos, nI_m1, nI_z, e1]) | refine brT (by first | assumption | decide | omega) ?_ | refine brF (by first | assumption | decide | omega) ?_ | refine brTn (by first | assumption | decide | omega) ?_ | refine brFn (by first | assumption | decide | omega) ?_ | refine And.intro (vp_in_nI (by omega) (by decide)) ?_ | refine And.intro (vp_lit (by decide)) ?_ | refine divJ (by decide) ?_ | refine divI (by decide) ?_)
      try change _ ∧ _
      rw [e1]
    · repeat (first | (refine W1 rfl ?_; try refine Wp.norm (L' := [_, _, _, _, _, _, _, _, _]) rfl ?_) | ((first | change (_ → _) ∧ (_ → _) | change vp_in _ _ ∧ _ | change ¬ _ ∧ _); simp (disch := omega) only [nI_clamp, nI_leI, nI_ltI, nI_eq, nI_1, nI_add, nI_not_neg, nI_is_pos, nI_m1, nI_z]) | refine brT (by first | assumption | decide | omega) ?_ | refine brF (by first | assumption | decide | omega) ?_ | refine brTn (by first | assumption | decide | omega) ?_ | refine brFn (by first | assumption | decide | omega) ?_ | refine And.intro (vp_in_nI (by omega) (by decide)) ?_ | refine And.intro (vp_lit (by decide)) ?_ | refine divJ (by decide) ?_ | refine divI (by decide) ?_)
      try change _ ∧ _
      refine ⟨?_, rfl⟩
      rw [List.getD_eq_getElem?_getD, List.getElem?_eq_none (by omega)]
      rfl
  have one : ∀ L n z, n + L = w.length → z < 387420489 → ((z = 0 ∧ L = 0) ∨ (0 < L ∧ 27 ^ (L - 1) ≤ z ∧ z < 27 ^ L)) → Wp 2 j_M_letter 71 [.ref 65, .int kd, .int wh, .int (nI k), .long (lN (e27 w 0)), .null, .int (nI n), .long (lN z), .null] [] h (fun v' h2 => v' = some (.int (nI (w.getD k 0))) ∧ h2 = h) := by
    intro L
    induction L with
    | zero =>
      intro n z hn hz hh
      obtain ⟨rfl, _⟩ : z = 0 ∧ True := by
        rcases hh with q | q
        · exact ⟨q.1, trivial⟩
        · omega
      obtain rfl : n = w.length := by omega
      have ih := aft (lN 0)
      repeat (first | refine Wp.at ih rfl rfl ?_ rfl | (refine W1 rfl ?_; try refine Wp.norm (L' := [_, _, _, _, _, _, _, _, _]) rfl ?_) | ((first | change (_ → _) ∧ (_ → _) | change vp_in _ _ ∧ _ | change ¬ _ ∧ _); simp (disch := omega) only [nI_clamp, nI_leI, nI_ltI, nI_eq, nI_1, nI_add, nI_not_neg, nI_is_pos, nI_m1, nI_z]) | refine brT (by first | assumption | decide | omega) ?_ | refine brF (by first | assumption | decide | omega) ?_ | refine brTn (by first | assumption | decide | omega) ?_ | refine brFn (by first | assumption | decide | omega) ?_ | refine And.intro (vp_in_nI (by omega) (by decide)) ?_ | refine And.intro (vp_lit (by decide)) ?_ | refine divJ (by decide) ?_ | refine divI (by decide) ?_)
      try change _ ∧ _
      first | done | rfl | (simp (disch := omega) only [nI_1, nI_add, nI_clamp] <;> first | done | rfl)
    | succ L ihL =>
      intro n z hn hz hh
      have hh := hh.resolve_left (fun q => by omega)
      rw [Nat.add_sub_cancel] at hh
      have p0 : 0 < 27 ^ L := Nat.pow_pos (by decide)
      have hz0 : 0 < z := by omega
      have ih := ihL (n + 1) (z / 27) (by omega) (by omega) (by
        by_cases hL0 : L = 0
        · left
          subst hL0
          have := hh.2.2
          simp at this
          exact ⟨by omega, rfl⟩
        · right
          refine ⟨by omega, ?_, ?_⟩
          · rw [Nat.le_div_iff_mul_le (by decide), ← Nat.pow_succ, show (L - 1).succ = L by omega]
            exact hh.2.1
          · rw [Nat.div_lt_iff_lt_mul (by decide), ← Nat.pow_succ]
            exact hh.2.2)
      repeat (first | (refine W1 rfl ?_; try refine Wp.norm (L' := [_, _, _, _, _, _, _, _, _]) rfl ?_) | ((first | change (_ → _) ∧ (_ → _) | change vp_in _ _ ∧ _ | change ¬ _ ∧ _); simp (disch := omega) only [nI_clamp, nI_leI, nI_ltI, nI_eq, nI_1, nI_add, nI_not_neg, nI_is_pos, nI_m1, nI_z]) | refine brT (by first | assumption | decide | omega) ?_ | refine brF (by first | assumption | decide | omega) ?_ | refine brTn (by first | assumption | decide | omega) ?_ | refine brFn (by first | assumption | decide | omega) ?_ | refine And.intro (vp_in_nI (by omega) (by decide)) ?_ | refine And.intro (vp_lit (by decide)) ?_ | refine divJ (by decide) ?_ | refine divI (by decide) ?_)
      try change _ ∧ _
      rw [lgc_le]
      refine brF ?_ ?_
      · rw [show (0 : Int64) = lN 0 from rfl, pk_lLE (by omega) (by decide)]
        omega
      · repeat (first | refine Wp.at ih rfl rfl ?_ rfl | (refine W1 rfl ?_; try refine Wp.norm (L' := [_, _, _, _, _, _, _, _, _]) rfl ?_) | ((first | change (_ → _) ∧ (_ → _) | change vp_in _ _ ∧ _ | change ¬ _ ∧ _); simp (disch := omega) only [nI_clamp, nI_leI, nI_ltI, nI_eq, nI_1, nI_add, nI_not_neg, nI_is_pos, nI_m1, nI_z]) | refine brT (by first | assumption | decide | omega) ?_ | refine brF (by first | assumption | decide | omega) ?_ | refine brTn (by first | assumption | decide | omega) ?_ | refine brFn (by first | assumption | decide | omega) ?_ | refine And.intro (vp_in_nI (by omega) (by decide)) ?_ | refine And.intro (vp_lit (by decide)) ?_ | refine divJ (by decide) ?_ | refine divI (by decide) ?_)
        try change _ ∧ _
        rw [show (27 : Int64) = lN 27 from rfl, pk_lDiv (by omega) (by decide) (by decide)]
  have ih := one w.length 0 (e27 w 0) (by omega) h27 (Or.inr ⟨hw.1, e27_ge hw.1 (fun x hx => (hw.2.2 x hx).1), e27_lt w (fun x hx => (hw.2.2 x hx).2)⟩)
  repeat (first | refine Wp.at ih rfl rfl ?_ rfl | (refine W1 rfl ?_; try refine Wp.norm (L' := [_, _, _, _, _, _, _, _, _]) rfl ?_) | ((first | change (_ → _) ∧ (_ → _) | change vp_in _ _ ∧ _ | change ¬ _ ∧ _); simp (disch := omega) only [nI_clamp, nI_leI, nI_ltI, nI_eq, nI_1, nI_add, nI_not_neg, nI_is_pos, nI_m1, nI_z]) | refine brT (by first | assumption | decide | omega) ?_ | refine brF (by first | assumption | decide | omega) ?_ | refine brTn (by first | assumption | decide | omega) ?_ | refine brFn (by first | assumption | decide | omega) ?_ | refine And.intro (vp_in_nI (by omega) (by decide)) ?_ | refine And.intro (vp_lit (by decide)) ?_ | refine divJ (by decide) ?_ | refine divI (by decide) ?_)
  try change _ ∧ _
  first | done | rfl | (simp (disch := omega) only [nI_1, nI_add, nI_clamp] <;> first | done | rfl)
theorem in5 (x : Int32) : ((0 : Int64) ≤ x.toInt64 ∧ x.toInt64 ≤ 5) ↔ (0 ≤ x ∧ x < nI 6) := by
  rw [Int64.le_iff_toInt_le, Int64.le_iff_toInt_le, i64_i32, Int32.le_iff_toInt_le, Int32.lt_iff_toInt_lt, show (0 : Int64).toInt = 0 from rfl, show (5 : Int64).toInt = 5 from rfl, show (0 : Int32).toInt = 0 from rfl, show (nI 6).toInt = 6 from rfl]
  omega
theorem o_letter : op_5 Inv := fun f x y hf => op_ro fun {h} s c v _ _ R M o _ => by
  have hT := o.T; have hP := o.P; have hK := o.K; have hD := o.D; have hO := o.O; have hQ := o.Q; have hL := o.L
  -- who is asked for
  by_cases hg : ∃ q w k, k < 6 ∧ y = nI k ∧ isW w ∧ x = nI q ∧ ((f = 1 ∧ q < zK s ∧ kN s q = e27 w 0 ∧ kC s q = e32 w) ∨ (f = 0 ∧ q < zP s ∧ pN s q = e27 w 0 ∧ pC s q = e32 w))
  · obtain ⟨q, w, k, hk, rfl, hw, rfl, hfk⟩ := hg
    have h5 := (in5 (nI k)).mpr (ix_ok hk (by decide))
    refine ⟨nI (w.getD k 0), Run.d (d := 1) ?_, Run.d (d := 2) ?_⟩
    · show Run 1 j_E_letter _ _ _ _
      refine Run.of rfl ?_
      refine Wp.norm (L' := [_, _, _, _, _]) rfl ?_
      rcases hfk with ⟨rfl, hq, _, e⟩ | ⟨rfl, hq, _, e⟩
      · repeat (first | (refine W1 rfl ?_; try refine Wp.norm (L' := [_, _, _, _, _]) rfl ?_) | ((first | change (_ → _) ∧ (_ → _) | change vp_in _ _ ∧ _ | change ¬ _ ∧ _); simp (disch := omega) only [nI_clamp, nI_leI, nI_ltI, nI_eq, nI_1, nI_add, nI_not_neg, nI_is_pos, nI_m1, nI_z, show (6 : Int32) = nI 6 from rfl]) | refine brT (by first | assumption | decide | omega) ?_ | refine brF (by first | assumption | decide | omega) ?_ | refine brTn (by first | assumption | decide | omega) ?_ | refine brFn (by first | assumption | decide | omega) ?_ | refine And.intro (vp_in_nI (by omega) (by decide)) ?_ | refine And.intro (vp_lit (by decide)) ?_ | refine divJ (by decide) ?_ | refine divI (by decide) ?_)
        try change _ ∧ _
        refine Cl.of (g_EK R o hq) (by decide) ?_
        repeat (first | (refine W1 rfl ?_; try refine Wp.norm (L' := [_, _, _, _, _]) rfl ?_) | ((first | change (_ → _) ∧ (_ → _) | change vp_in _ _ ∧ _ | change ¬ _ ∧ _); simp (disch := omega) only [nI_clamp, nI_leI, nI_ltI, nI_eq, nI_1, nI_add, nI_not_neg, nI_is_pos, nI_m1, nI_z]) | refine brT (by first | assumption | decide | omega) ?_ | refine brF (by first | assumption | decide | omega) ?_ | refine brTn (by first | assumption | decide | omega) ?_ | refine brFn (by first | assumption | decide | omega) ?_ | refine And.intro (vp_in_nI (by omega) (by decide)) ?_ | refine And.intro (vp_lit (by decide)) ?_ | refine divJ (by decide) ?_ | refine divI (by decide) ?_)
        try change _ ∧ _
        refine Cl.ofA (r_letterOf h hw hk) (by rw [← e]; first | done | rfl | (simp (disch := omega) only [nI_1, nI_add, nI_clamp, R.knm] <;> first | done | rfl)) (by decide) ?_
        repeat (first | (refine W1 rfl ?_; try refine Wp.norm (L' := [_, _, _, _, _]) rfl ?_) | ((first | change (_ → _) ∧ (_ → _) | change vp_in _ _ ∧ _ | change ¬ _ ∧ _); simp (disch := omega) only [nI_clamp, nI_leI, nI_ltI, nI_eq, nI_1, nI_add, nI_not_neg, nI_is_pos, nI_m1, nI_z]) | refine brT (by first | assumption | decide | omega) ?_ | refine brF (by first | assumption | decide | omega) ?_ | refine brTn (by first | assumption | decide | omega) ?_ | refine brFn (by first | assumption | decide | omega) ?_ | refine And.intro (vp_in_nI (by omega) (by decide)) ?_ | refine And.intro (vp_lit (by decide)) ?_ | refine divJ (by decide) ?_ | refine divI (by decide) ?_)
        try change _ ∧ _
        try first | exact ⟨rfl, rfl⟩ | exact ⟨Or.inr rfl, rfl, rfl⟩ | exact ⟨Or.inl rfl, rfl, rfl⟩ | exact ⟨trivial, trivial⟩ | exact ⟨rfl, trivial⟩ | exact ⟨Or.inr rfl, rfl, trivial⟩ | exact ⟨Or.inl rfl, rfl, trivial⟩
      · repeat (first | (refine W1 rfl ?_; try refine Wp.norm (L' := [_, _, _, _, _]) rfl ?_) | ((first | change (_ → _) ∧ (_ → _) | change vp_in _ _ ∧ _ | change ¬ _ ∧ _); simp (disch := omega) only [nI_clamp, nI_leI, nI_ltI, nI_eq, nI_1, nI_add, nI_not_neg, nI_is_pos, nI_m1, nI_z, show (6 : Int32) = nI 6 from rfl]) | refine brT (by first | assumption | decide | omega) ?_ | refine brF (by first | assumption | decide | omega) ?_ | refine brTn (by first | assumption | decide | omega) ?_ | refine brFn (by first | assumption | decide | omega) ?_ | refine And.intro (vp_in_nI (by omega) (by decide)) ?_ | refine And.intro (vp_lit (by decide)) ?_ | refine divJ (by decide) ?_ | refine divI (by decide) ?_)
        try change _ ∧ _
        refine Cl.of (g_EP R o hq) (by decide) ?_
        repeat (first | (refine W1 rfl ?_; try refine Wp.norm (L' := [_, _, _, _, _]) rfl ?_) | ((first | change (_ → _) ∧ (_ → _) | change vp_in _ _ ∧ _ | change ¬ _ ∧ _); simp (disch := omega) only [nI_clamp, nI_leI, nI_ltI, nI_eq, nI_1, nI_add, nI_not_neg, nI_is_pos, nI_m1, nI_z]) | refine brT (by first | assumption | decide | omega) ?_ | refine brF (by first | assumption | decide | omega) ?_ | refine brTn (by first | assumption | decide | omega) ?_ | refine brFn (by first | assumption | decide | omega) ?_ | refine And.intro (vp_in_nI (by omega) (by decide)) ?_ | refine And.intro (vp_lit (by decide)) ?_ | refine divJ (by decide) ?_ | refine divI (by decide) ?_)
        try change _ ∧ _
        refine Cl.ofA (r_letterOf h hw hk) (by rw [← e]; first | done | rfl | (simp (disch := omega) only [nI_1, nI_add, nI_clamp, R.pnm] <;> first | done | rfl)) (by decide) ?_
        repeat (first | (refine W1 rfl ?_; try refine Wp.norm (L' := [_, _, _, _, _]) rfl ?_) | ((first | change (_ → _) ∧ (_ → _) | change vp_in _ _ ∧ _ | change ¬ _ ∧ _); simp (disch := omega) only [nI_clamp, nI_leI, nI_ltI, nI_eq, nI_1, nI_add, nI_not_neg, nI_is_pos, nI_m1, nI_z]) | refine brT (by first | assumption | decide | omega) ?_ | refine brF (by first | assumption | decide | omega) ?_ | refine brTn (by first | assumption | decide | omega) ?_ | refine brFn (by first | assumption | decide | omega) ?_ | refine And.intro (vp_in_nI (by omega) (by decide)) ?_ | refine And.intro (vp_lit (by decide)) ?_ | refine divJ (by decide) ?_ | refine divI (by decide) ?_)
        try change _ ∧ _
        try first | exact ⟨rfl, rfl⟩ | exact ⟨Or.inr rfl, rfl, rfl⟩ | exact ⟨Or.inl rfl, rfl, rfl⟩ | exact ⟨trivial, trivial⟩ | exact ⟨rfl, trivial⟩ | exact ⟨Or.inr rfl, rfl, trivial⟩ | exact ⟨Or.inl rfl, rfl, trivial⟩
    · show Run 2 j_M_letter _ _ _ _
      have rI : Run 0 j_M_isIn [.long (nI k).toInt64, .long 0, .long 5] h (some (.int 1)) h := by
        have := r_M_isIn h (nI k).toInt64 0 5
        rwa [if_pos h5] at this
      show Run 2 j_M_letter _ _ _ _
      refine Run.of rfl ?_
      refine Wp.norm (L' := [_, _, _, _, _, _, _, _, _]) rfl ?_
      rcases hfk with ⟨rfl, hq, e, _⟩ | ⟨rfl, hq, e, _⟩
      · repeat (first | (refine W1 rfl ?_; try refine Wp.norm (L' := [_, _, _, _, _, _, _, _, _]) rfl ?_) | ((first | change (_ → _) ∧ (_ → _) | change vp_in _ _ ∧ _ | change ¬ _ ∧ _); simp (disch := omega) only [nI_clamp, nI_leI, nI_ltI, nI_eq, nI_1, nI_add, nI_not_neg, nI_is_pos, nI_m1, nI_z]) | refine brT (by first | assumption | decide | omega) ?_ | refine brF (by first | assumption | decide | omega) ?_ | refine brTn (by first | assumption | decide | omega) ?_ | refine brFn (by first | assumption | decide | omega) ?_ | refine And.intro (vp_in_nI (by omega) (by decide)) ?_ | refine And.intro (vp_lit (by decide)) ?_ | refine divJ (by decide) ?_ | refine divI (by decide) ?_)
        try change _ ∧ _
        refine Cl.of (g_MK M o hq) (by decide) ?_
        repeat (first | (refine W1 rfl ?_; try refine Wp.norm (L' := [_, _, _, _, _, _, _, _, _]) rfl ?_) | ((first | change (_ → _) ∧ (_ → _) | change vp_in _ _ ∧ _ | change ¬ _ ∧ _); simp (disch := omega) only [nI_clamp, nI_leI, nI_ltI, nI_eq, nI_1, nI_add, nI_not_neg, nI_is_pos, nI_m1, nI_z]) | refine brT (by first | assumption | decide | omega) ?_ | refine brF (by first | assumption | decide | omega) ?_ | refine brTn (by first | assumption | decide | omega) ?_ | refine brFn (by first | assumption | decide | omega) ?_ | refine And.intro (vp_in_nI (by omega) (by decide)) ?_ | refine And.intro (vp_lit (by decide)) ?_ | refine divJ (by decide) ?_ | refine divI (by decide) ?_)
        try change _ ∧ _
        refine Cl.of rI (by decide) ?_
        iterate 1 (refine W1 rfl ?_; try refine Wp.norm (L' := [_, _, _, _, _, _, _, _, _]) rfl ?_)
        refine brTn (by decide) ?_
        refine Wp.normS (pc' := 37) (S' := []) rfl rfl rfl ?_
        have ih := w_M_letterB (h := h) hw hk 1 (nI q) (x6 := .null) (x7 := .null)
        repeat (first | refine Wp.at ih rfl rfl ?_ rfl | (refine W1 rfl ?_; try refine Wp.norm (L' := [_, _, _, _, _, _, _, _, _]) rfl ?_) | ((first | change (_ → _) ∧ (_ → _) | change vp_in _ _ ∧ _ | change ¬ _ ∧ _); simp (disch := omega) only [nI_clamp, nI_leI, nI_ltI, nI_eq, nI_1, nI_add, nI_not_neg, nI_is_pos, nI_m1, nI_z, show (6 : Int32) = nI 6 from rfl]) | refine brT (by first | assumption | decide | omega) ?_ | refine brF (by first | assumption | decide | omega) ?_ | refine brTn (by first | assumption | decide | omega) ?_ | refine brFn (by first | assumption | decide | omega) ?_ | refine And.intro (vp_in_nI (by omega) (by decide)) ?_ | refine And.intro (vp_lit (by decide)) ?_ | refine divJ (by decide) ?_ | refine divI (by decide) ?_)
        try change _ ∧ _
        rw [← e]
        first | done | rfl | (simp (disch := omega) only [nI_1, nI_add, nI_clamp, show (6 : Int32) = nI 6 from rfl, M.knm] <;> first | done | rfl)
      · repeat (first | (refine W1 rfl ?_; try refine Wp.norm (L' := [_, _, _, _, _, _, _, _, _]) rfl ?_) | ((first | change (_ → _) ∧ (_ → _) | change vp_in _ _ ∧ _ | change ¬ _ ∧ _); simp (disch := omega) only [nI_clamp, nI_leI, nI_ltI, nI_eq, nI_1, nI_add, nI_not_neg, nI_is_pos, nI_m1, nI_z]) | refine brT (by first | assumption | decide | omega) ?_ | refine brF (by first | assumption | decide | omega) ?_ | refine brTn (by first | assumption | decide | omega) ?_ | refine brFn (by first | assumption | decide | omega) ?_ | refine And.intro (vp_in_nI (by omega) (by decide)) ?_ | refine And.intro (vp_lit (by decide)) ?_ | refine divJ (by decide) ?_ | refine divI (by decide) ?_)
        try change _ ∧ _
        refine Cl.of (g_MP M o hq) (by decide) ?_
        repeat (first | (refine W1 rfl ?_; try refine Wp.norm (L' := [_, _, _, _, _, _, _, _, _]) rfl ?_) | ((first | change (_ → _) ∧ (_ → _) | change vp_in _ _ ∧ _ | change ¬ _ ∧ _); simp (disch := omega) only [nI_clamp, nI_leI, nI_ltI, nI_eq, nI_1, nI_add, nI_not_neg, nI_is_pos, nI_m1, nI_z]) | refine brT (by first | assumption | decide | omega) ?_ | refine brF (by first | assumption | decide | omega) ?_ | refine brTn (by first | assumption | decide | omega) ?_ | refine brFn (by first | assumption | decide | omega) ?_ | refine And.intro (vp_in_nI (by omega) (by decide)) ?_ | refine And.intro (vp_lit (by decide)) ?_ | refine divJ (by decide) ?_ | refine divI (by decide) ?_)
        try change _ ∧ _
        refine Cl.of rI (by decide) ?_
        iterate 1 (refine W1 rfl ?_; try refine Wp.norm (L' := [_, _, _, _, _, _, _, _, _]) rfl ?_)
        refine brTn (by decide) ?_
        refine Wp.normS (pc' := 37) (S' := []) rfl rfl rfl ?_
        have ih := w_M_letterB (h := h) hw hk 0 (nI q) (x6 := .null) (x7 := .null)
        repeat (first | refine Wp.at ih rfl rfl ?_ rfl | (refine W1 rfl ?_; try refine Wp.norm (L' := [_, _, _, _, _, _, _, _, _]) rfl ?_) | ((first | change (_ → _) ∧ (_ → _) | change vp_in _ _ ∧ _ | change ¬ _ ∧ _); simp (disch := omega) only [nI_clamp, nI_leI, nI_ltI, nI_eq, nI_1, nI_add, nI_not_neg, nI_is_pos, nI_m1, nI_z, show (16 : Int32) = nI 16 from rfl]) | refine brT (by first | assumption | decide | omega) ?_ | refine brF (by first | assumption | decide | omega) ?_ | refine brTn (by first | assumption | decide | omega) ?_ | refine brFn (by first | assumption | decide | omega) ?_ | refine And.intro (vp_in_nI (by omega) (by decide)) ?_ | refine And.intro (vp_lit (by decide)) ?_ | refine divJ (by decide) ?_ | refine divI (by decide) ?_)
        try change _ ∧ _
        rw [← e]
        first | done | rfl | (simp (disch := omega) only [nI_1, nI_add, nI_clamp, show (16 : Int32) = nI 16 from rfl, M.pnm] <;> first | done | rfl)
  · have bad : ¬ (0 ≤ y ∧ y < nI 6) ∨ (f = 1 ∧ ¬ (0 ≤ x ∧ x < nI (zK s))) ∨ (f = 0 ∧ ¬ (0 ≤ x ∧ x < nI (zP s))) := by
      rcases ix_cases y (n := 6) (by decide) with ⟨k, hk, rfl⟩ | hy
      · right
        rcases hf with rfl | rfl
        · right
          refine ⟨rfl, fun hx => ?_⟩
          obtain ⟨q, hq, rfl⟩ := (ix_cases x (n := zP s) (by omega)).resolve_right (fun z => z hx)
          obtain ⟨w, hw, e1, e2⟩ := o.pnm hq
          exact hg ⟨q, w, k, hk, rfl, hw, rfl, Or.inr ⟨rfl, hq, e1, e2⟩⟩
        · left
          refine ⟨rfl, fun hx => ?_⟩
          obtain ⟨q, hq, rfl⟩ := (ix_cases x (n := zK s) (by omega)).resolve_right (fun z => z hx)
          obtain ⟨w, hw, e1, e2⟩ := o.knm hq
          exact hg ⟨q, w, k, hk, rfl, hw, rfl, Or.inl ⟨rfl, hq, e1, e2⟩⟩
      · exact Or.inl hy
    have hy0 : y < 0 ∨ 6 ≤ y ∨ (0 ≤ y ∧ y < nI 6) := by
      by_cases h1 : y < 0
      · exact Or.inl h1
      · by_cases h2 : 6 ≤ y
        · exact Or.inr (Or.inl h2)
        · exact Or.inr (Or.inr ⟨Int32.not_lt.mp h1, Int32.not_le.mp h2⟩)
    refine ⟨-1, Run.d (d := 1) ?_, Run.d (d := 2) ?_⟩
    · show Run 1 j_E_letter _ _ _ _
      refine Run.of rfl ?_
      refine Wp.norm (L' := [_, _, _, _, _]) rfl ?_
      rcases hy0 with h1 | h1 | h1
      · iterate 2 (refine W1 rfl ?_; try refine Wp.norm (L' := [_, _, _, _, _]) rfl ?_)
        refine brT h1 ?_
        repeat (first | (refine W1 rfl ?_; try refine Wp.norm (L' := [_, _, _, _, _]) rfl ?_) | ((first | change (_ → _) ∧ (_ → _) | change vp_in _ _ ∧ _ | change ¬ _ ∧ _); simp (disch := omega) only [nI_clamp, nI_leI, nI_ltI, nI_eq, nI_1, nI_add, nI_not_neg, nI_is_pos, nI_m1, nI_z]) | refine brT (by first | assumption | decide | omega) ?_ | refine brF (by first | assumption | decide | omega) ?_ | refine brTn (by first | assumption | decide | omega) ?_ | refine brFn (by first | assumption | decide | omega) ?_ | refine And.intro (vp_in_nI (by omega) (by decide)) ?_ | refine And.intro (vp_lit (by decide)) ?_ | refine divJ (by decide) ?_ | refine divI (by decide) ?_)
        try change _ ∧ _
        try first | exact ⟨rfl, rfl⟩ | exact ⟨Or.inr rfl, rfl, rfl⟩ | exact ⟨Or.inl rfl, rfl, rfl⟩ | exact ⟨trivial, trivial⟩ | exact ⟨rfl, trivial⟩ | exact ⟨Or.inr rfl, rfl, trivial⟩ | exact ⟨Or.inl rfl, rfl, trivial⟩
      · iterate 2 (refine W1 rfl ?_; try refine Wp.norm (L' := [_, _, _, _, _]) rfl ?_)
        refine brF (fun z => by
          rw [Int32.lt_iff_toInt_lt] at z
          rw [Int32.le_iff_toInt_le] at h1
          rw [show (6 : Int32).toInt = 6 from rfl] at h1
          rw [Int32.toInt_zero] at z
          omega) ?_
        iterate 3 (refine W1 rfl ?_; try refine Wp.norm (L' := [_, _, _, _, _]) rfl ?_)
        refine brT h1 ?_
        repeat (first | (refine W1 rfl ?_; try refine Wp.norm (L' := [_, _, _, _, _]) rfl ?_) | ((first | change (_ → _) ∧ (_ → _) | change vp_in _ _ ∧ _ | change ¬ _ ∧ _); simp (disch := omega) only [nI_clamp, nI_leI, nI_ltI, nI_eq, nI_1, nI_add, nI_not_neg, nI_is_pos, nI_m1, nI_z]) | refine brT (by first | assumption | decide | omega) ?_ | refine brF (by first | assumption | decide | omega) ?_ | refine brTn (by first | assumption | decide | omega) ?_ | refine brFn (by first | assumption | decide | omega) ?_ | refine And.intro (vp_in_nI (by omega) (by decide)) ?_ | refine And.intro (vp_lit (by decide)) ?_ | refine divJ (by decide) ?_ | refine divI (by decide) ?_)
        try change _ ∧ _
        try first | exact ⟨rfl, rfl⟩ | exact ⟨Or.inr rfl, rfl, rfl⟩ | exact ⟨Or.inl rfl, rfl, rfl⟩ | exact ⟨trivial, trivial⟩ | exact ⟨rfl, trivial⟩ | exact ⟨Or.inr rfl, rfl, trivial⟩ | exact ⟨Or.inl rfl, rfl, trivial⟩
      · iterate 2 (refine W1 rfl ?_; try refine Wp.norm (L' := [_, _, _, _, _]) rfl ?_)
        refine brF (Int32.not_lt.mpr h1.1) ?_
        iterate 3 (refine W1 rfl ?_; try refine Wp.norm (L' := [_, _, _, _, _]) rfl ?_)
        refine brF (Int32.not_le.mpr h1.2) ?_
        rcases bad with b | ⟨rfl, b⟩ | ⟨rfl, b⟩
        · exact absurd h1 b
        · repeat (first | (refine W1 rfl ?_; try refine Wp.norm (L' := [_, _, _, _, _]) rfl ?_) | ((first | change (_ → _) ∧ (_ → _) | change vp_in _ _ ∧ _ | change ¬ _ ∧ _); simp (disch := omega) only [nI_clamp, nI_leI, nI_ltI, nI_eq, nI_1, nI_add, nI_not_neg, nI_is_pos, nI_m1, nI_z]) | refine brT (by first | assumption | decide | omega) ?_ | refine brF (by first | assumption | decide | omega) ?_ | refine brTn (by first | assumption | decide | omega) ?_ | refine brFn (by first | assumption | decide | omega) ?_ | refine And.intro (vp_in_nI (by omega) (by decide)) ?_ | refine And.intro (vp_lit (by decide)) ?_ | refine divJ (by decide) ?_ | refine divI (by decide) ?_)
          try change _ ∧ _
          refine Cl.of (g_EKn R b) (by decide) ?_
          repeat (first | (refine W1 rfl ?_; try refine Wp.norm (L' := [_, _, _, _, _]) rfl ?_) | ((first | change (_ → _) ∧ (_ → _) | change vp_in _ _ ∧ _ | change ¬ _ ∧ _); simp (disch := omega) only [nI_clamp, nI_leI, nI_ltI, nI_eq, nI_1, nI_add, nI_not_neg, nI_is_pos, nI_m1, nI_z]) | refine brT (by first | assumption | decide | omega) ?_ | refine brF (by first | assumption | decide | omega) ?_ | refine brTn (by first | assumption | decide | omega) ?_ | refine brFn (by first | assumption | decide | omega) ?_ | refine And.intro (vp_in_nI (by omega) (by decide)) ?_ | refine And.intro (vp_lit (by decide)) ?_ | refine divJ (by decide) ?_ | refine divI (by decide) ?_)
          try change _ ∧ _
          try first | exact ⟨rfl, rfl⟩ | exact ⟨Or.inr rfl, rfl, rfl⟩ | exact ⟨Or.inl rfl, rfl, rfl⟩ | exact ⟨trivial, trivial⟩ | exact ⟨rfl, trivial⟩ | exact ⟨Or.inr rfl, rfl, trivial⟩ | exact ⟨Or.inl rfl, rfl, trivial⟩
        · repeat (first | (refine W1 rfl ?_; try refine Wp.norm (L' := [_, _, _, _, _]) rfl ?_) | ((first | change (_ → _) ∧ (_ → _) | change vp_in _ _ ∧ _ | change ¬ _ ∧ _); simp (disch := omega) only [nI_clamp, nI_leI, nI_ltI, nI_eq, nI_1, nI_add, nI_not_neg, nI_is_pos, nI_m1, nI_z]) | refine brT (by first | assumption | decide | omega) ?_ | refine brF (by first | assumption | decide | omega) ?_ | refine brTn (by first | assumption | decide | omega) ?_ | refine brFn (by first | assumption | decide | omega) ?_ | refine And.intro (vp_in_nI (by omega) (by decide)) ?_ | refine And.intro (vp_lit (by decide)) ?_ | refine divJ (by decide) ?_ | refine divI (by decide) ?_)
          try change _ ∧ _
          refine Cl.of (g_EPn R b) (by decide) ?_
          repeat (first | (refine W1 rfl ?_; try refine Wp.norm (L' := [_, _, _, _, _]) rfl ?_) | ((first | change (_ → _) ∧ (_ → _) | change vp_in _ _ ∧ _ | change ¬ _ ∧ _); simp (disch := omega) only [nI_clamp, nI_leI, nI_ltI, nI_eq, nI_1, nI_add, nI_not_neg, nI_is_pos, nI_m1, nI_z]) | refine brT (by first | assumption | decide | omega) ?_ | refine brF (by first | assumption | decide | omega) ?_ | refine brTn (by first | assumption | decide | omega) ?_ | refine brFn (by first | assumption | decide | omega) ?_ | refine And.intro (vp_in_nI (by omega) (by decide)) ?_ | refine And.intro (vp_lit (by decide)) ?_ | refine divJ (by decide) ?_ | refine divI (by decide) ?_)
          try change _ ∧ _
          try first | exact ⟨rfl, rfl⟩ | exact ⟨Or.inr rfl, rfl, rfl⟩ | exact ⟨Or.inl rfl, rfl, rfl⟩ | exact ⟨trivial, trivial⟩ | exact ⟨rfl, trivial⟩ | exact ⟨Or.inr rfl, rfl, trivial⟩ | exact ⟨Or.inl rfl, rfl, trivial⟩
    · show Run 2 j_M_letter _ _ _ _
      have aft : ¬ (0 ≤ y ∧ y < nI 6) → Wp 2 j_M_letter 23 [.ref 65, .int f, .int x, .int y, .null, .null, .null, .null, .null] [] h (fun v' h2 => v' = some (.int (-1)) ∧ h2 = h) := by
        intro hy
        repeat (first | (refine W1 rfl ?_; try refine Wp.norm (L' := [_, _, _, _, _, _, _, _, _]) rfl ?_) | ((first | change (_ → _) ∧ (_ → _) | change vp_in _ _ ∧ _ | change ¬ _ ∧ _); simp (disch := omega) only [nI_clamp, nI_leI, nI_ltI, nI_eq, nI_1, nI_add, nI_not_neg, nI_is_pos, nI_m1, nI_z]) | refine brT (by first | assumption | decide | omega) ?_ | refine brF (by first | assumption | decide | omega) ?_ | refine brTn (by first | assumption | decide | omega) ?_ | refine brFn (by first | assumption | decide | omega) ?_ | refine And.intro (vp_in_nI (by omega) (by decide)) ?_ | refine And.intro (vp_lit (by decide)) ?_ | refine divJ (by decide) ?_ | refine divI (by decide) ?_)
        try change _ ∧ _
        refine Cl.of (r_M_isIn h y.toInt64 0 5) (by decide) ?_
        rw [if_neg (fun z => hy ((in5 y).mp z))]
        iterate 1 (refine W1 rfl ?_; try refine Wp.norm (L' := [_, _, _, _, _, _, _, _, _]) rfl ?_)
        refine brFn (by decide) ?_
        refine Wp.normS (pc' := 35) (S' := []) rfl rfl rfl ?_
        repeat (first | (refine W1 rfl ?_; try refine Wp.norm (L' := [_, _, _, _, _, _, _, _, _]) rfl ?_) | ((first | change (_ → _) ∧ (_ → _) | change vp_in _ _ ∧ _ | change ¬ _ ∧ _); simp (disch := omega) only [nI_clamp, nI_leI, nI_ltI, nI_eq, nI_1, nI_add, nI_not_neg, nI_is_pos, nI_m1, nI_z]) | refine brT (by first | assumption | decide | omega) ?_ | refine brF (by first | assumption | decide | omega) ?_ | refine brTn (by first | assumption | decide | omega) ?_ | refine brFn (by first | assumption | decide | omega) ?_ | refine And.intro (vp_in_nI (by omega) (by decide)) ?_ | refine And.intro (vp_lit (by decide)) ?_ | refine divJ (by decide) ?_ | refine divI (by decide) ?_)
        try change _ ∧ _
        try first | exact ⟨rfl, rfl⟩ | exact ⟨Or.inr rfl, rfl, rfl⟩ | exact ⟨Or.inl rfl, rfl, rfl⟩ | exact ⟨trivial, trivial⟩ | exact ⟨rfl, trivial⟩ | exact ⟨Or.inr rfl, rfl, trivial⟩ | exact ⟨Or.inl rfl, rfl, trivial⟩
      refine Run.of rfl ?_
      refine Wp.norm (L' := [_, _, _, _, _, _, _, _, _]) rfl ?_
      rcases hf with rfl | rfl
      · repeat (first | (refine W1 rfl ?_; try refine Wp.norm (L' := [_, _, _, _, _, _, _, _, _]) rfl ?_) | ((first | change (_ → _) ∧ (_ → _) | change vp_in _ _ ∧ _ | change ¬ _ ∧ _); simp (disch := omega) only [nI_clamp, nI_leI, nI_ltI, nI_eq, nI_1, nI_add, nI_not_neg, nI_is_pos, nI_m1, nI_z]) | refine brT (by first | assumption | decide | omega) ?_ | refine brF (by first | assumption | decide | omega) ?_ | refine brTn (by first | assumption | decide | omega) ?_ | refine brFn (by first | assumption | decide | omega) ?_ | refine And.intro (vp_in_nI (by omega) (by decide)) ?_ | refine And.intro (vp_lit (by decide)) ?_ | refine divJ (by decide) ?_ | refine divI (by decide) ?_)
        try change _ ∧ _
        rcases ix_cases x (n := zP s) (by omega) with ⟨q, hq, rfl⟩ | hx
        · refine Cl.of (g_MP M o hq) (by decide) ?_
          have ih := aft (bad.resolve_right (fun z => z.elim (fun q => absurd q.1 (by decide)) (fun w => w.2 (ix_ok hq (by omega)))))
          repeat (first | refine Wp.at ih rfl rfl ?_ rfl | (refine W1 rfl ?_; try refine Wp.norm (L' := [_, _, _, _, _, _, _, _, _]) rfl ?_) | ((first | change (_ → _) ∧ (_ → _) | change vp_in _ _ ∧ _ | change ¬ _ ∧ _); simp (disch := omega) only [nI_clamp, nI_leI, nI_ltI, nI_eq, nI_1, nI_add, nI_not_neg, nI_is_pos, nI_m1, nI_z]) | refine brT (by first | assumption | decide | omega) ?_ | refine brF (by first | assumption | decide | omega) ?_ | refine brTn (by first | assumption | decide | omega) ?_ | refine brFn (by first | assumption | decide | omega) ?_ | refine And.intro (vp_in_nI (by omega) (by decide)) ?_ | refine And.intro (vp_lit (by decide)) ?_ | refine divJ (by decide) ?_ | refine divI (by decide) ?_)
          try change _ ∧ _
          first | done | rfl | (simp (disch := omega) only [nI_1, nI_add, nI_clamp] <;> first | done | rfl)
        · refine Cl.of (g_MPn M o hx) (by decide) ?_
          repeat (first | (refine W1 rfl ?_; try refine Wp.norm (L' := [_, _, _, _, _, _, _, _, _]) rfl ?_) | ((first | change (_ → _) ∧ (_ → _) | change vp_in _ _ ∧ _ | change ¬ _ ∧ _); simp (disch := omega) only [nI_clamp, nI_leI, nI_ltI, nI_eq, nI_1, nI_add, nI_not_neg, nI_is_pos, nI_m1, nI_z]) | refine brT (by first | assumption | decide | omega) ?_ | refine brF (by first | assumption | decide | omega) ?_ | refine brTn (by first | assumption | decide | omega) ?_ | refine brFn (by first | assumption | decide | omega) ?_ | refine And.intro (vp_in_nI (by omega) (by decide)) ?_ | refine And.intro (vp_lit (by decide)) ?_ | refine divJ (by decide) ?_ | refine divI (by decide) ?_)
          try change _ ∧ _
          try first | exact ⟨rfl, rfl⟩ | exact ⟨Or.inr rfl, rfl, rfl⟩ | exact ⟨Or.inl rfl, rfl, rfl⟩ | exact ⟨trivial, trivial⟩ | exact ⟨rfl, trivial⟩ | exact ⟨Or.inr rfl, rfl, trivial⟩ | exact ⟨Or.inl rfl, rfl, trivial⟩
      · repeat (first | (refine W1 rfl ?_; try refine Wp.norm (L' := [_, _, _, _, _, _, _, _, _]) rfl ?_) | ((first | change (_ → _) ∧ (_ → _) | change vp_in _ _ ∧ _ | change ¬ _ ∧ _); simp (disch := omega) only [nI_clamp, nI_leI, nI_ltI, nI_eq, nI_1, nI_add, nI_not_neg, nI_is_pos, nI_m1, nI_z]) | refine brT (by first | assumption | decide | omega) ?_ | refine brF (by first | assumption | decide | omega) ?_ | refine brTn (by first | assumption | decide | omega) ?_ | refine brFn (by first | assumption | decide | omega) ?_ | refine And.intro (vp_in_nI (by omega) (by decide)) ?_ | refine And.intro (vp_lit (by decide)) ?_ | refine divJ (by decide) ?_ | refine divI (by decide) ?_)
        try change _ ∧ _
        rcases ix_cases x (n := zK s) (by omega) with ⟨q, hq, rfl⟩ | hx
        · refine Cl.of (g_MK M o hq) (by decide) ?_
          have ih := aft (bad.resolve_right (fun z => z.elim (fun w => w.2 (ix_ok hq (by omega))) (fun q => absurd q.1 (by decide))))
          repeat (first | refine Wp.at ih rfl rfl ?_ rfl | (refine W1 rfl ?_; try refine Wp.norm (L' := [_, _, _, _, _, _, _, _, _]) rfl ?_) | ((first | change (_ → _) ∧ (_ → _) | change vp_in _ _ ∧ _ | change ¬ _ ∧ _); simp (disch := omega) only [nI_clamp, nI_leI, nI_ltI, nI_eq, nI_1, nI_add, nI_not_neg, nI_is_pos, nI_m1, nI_z]) | refine brT (by first | assumption | decide | omega) ?_ | refine brF (by first | assumption | decide | omega) ?_ | refine brTn (by first | assumption | decide | omega) ?_ | refine brFn (by first | assumption | decide | omega) ?_ | refine And.intro (vp_in_nI (by omega) (by decide)) ?_ | refine And.intro (vp_lit (by decide)) ?_ | refine divJ (by decide) ?_ | refine divI (by decide) ?_)
          try change _ ∧ _
          first | done | rfl | (simp (disch := omega) only [nI_1, nI_add, nI_clamp] <;> first | done | rfl)
        · refine Cl.of (g_MKn M o hx) (by decide) ?_
          repeat (first | (refine W1 rfl ?_; try refine Wp.norm (L' := [_, _, _, _, _, _, _, _, _]) rfl ?_) | ((first | change (_ → _) ∧ (_ → _) | change vp_in _ _ ∧ _ | change ¬ _ ∧ _); simp (disch := omega) only [nI_clamp, nI_leI, nI_ltI, nI_eq, nI_1, nI_add, nI_not_neg, nI_is_pos, nI_m1, nI_z]) | refine brT (by first | assumption | decide | omega) ?_ | refine brF (by first | assumption | decide | omega) ?_ | refine brTn (by first | assumption | decide | omega) ?_ | refine brFn (by first | assumption | decide | omega) ?_ | refine And.intro (vp_in_nI (by omega) (by decide)) ?_ | refine And.intro (vp_lit (by decide)) ?_ | refine divJ (by decide) ?_ | refine divI (by decide) ?_)
          try change _ ∧ _
          try first | exact ⟨rfl, rfl⟩ | exact ⟨Or.inr rfl, rfl, rfl⟩ | exact ⟨Or.inl rfl, rfl, rfl⟩ | exact ⟨trivial, trivial⟩ | exact ⟨rfl, trivial⟩ | exact ⟨Or.inr rfl, rfl, trivial⟩ | exact ⟨Or.inl rfl, rfl, trivial⟩
end LET
/-! the beginning -/
def s0 : ST := fun k i => if k = 0 ∧ i = 3 then 28 else 0
theorem s0_ok : OK s0 := by
  have e : ∀ k i, (k ≠ 0 ∨ i ≠ 3) → s0 k i = 0 := fun k i h => if_neg (fun z => by omega)
  have hT : zT s0 = 0 := e 0 0 (by decide)
  have hP : zP s0 = 0 := e 0 1 (by decide)
  have hK : zK s0 = 0 := e 0 2 (by decide)
  have hO : zO s0 = 0 := e 0 4 (by decide)
  refine ⟨by decide, fun t ht => absurd ht (by omega), fun t u _ hu => absurd hu (by omega), fun p hp => absurd hp (by omega), ?_, fun k hk => absurd hk (by omega), fun d _ => ?_, fun i _ => ?_, fun a b f _ _ hf => ?_, fun p q hp => absurd hp (by omega), fun p q hp => absurd hp (by omega), fun r hr => absurd hr (by omega), fun p hp => absurd hp (by omega)⟩
  · rw [hP]; exact e 0 5 (by decide)
  · rw [hT]; exact e 18 d (Or.inl (by decide))
  · rw [show kR s0 i = 0 from e 9 i (Or.inl (by decide))]; exact Nat.zero_le _
  · rw [show kR s0 (a * 6 + b) = 0 from e 9 _ (Or.inl (by decide)), hO]
    constructor
    · intro z; omega
    · rintro ⟨r, hr, _⟩; omega
set_option maxRecDepth 100000 in
theorem inv_ini : Inv hIni := by
  have e : ∀ k i, (k ≠ 0 ∨ i ≠ 3) → s0 k i = 0 := fun k i h => if_neg (fun z => by omega)
  have hT : zT s0 = 0 := e 0 0 (by decide)
  have hP : zP s0 = 0 := e 0 1 (by decide)
  have hK : zK s0 = 0 := e 0 2 (by decide)
  have hO : zO s0 = 0 := e 0 4 (by decide)
  refine ⟨⟨0, by decide, rfl, rfl, fun i hi => absurd hi (by omega)⟩, ⟨rfl, rfl, rfl, fun _ => ⟨rfl, rfl⟩, fun z => absurd rfl z, 0, by decide, rfl, rfl, fun i hi => absurd hi (by omega)⟩, s0, fun _ => 0, fun _ => 0, ?_, ?_, s0_ok, fun t ht => absurd ht (by omega)⟩
  · refine ⟨⟨rfl, rfl, rfl, rfl, rfl, rfl⟩, fun t ht => absurd ht (by omega), fun t ht => absurd ht (by omega), fun t ht => absurd ht (by omega), fun i _ => ?_, fun i _ => ?_, fun i _ => ?_⟩
    · rw [show kR s0 i = 0 from e 9 i (Or.inl (by decide))]; rfl
    · rw [show kF s0 i = 0 from e 16 i (Or.inl (by decide))]; rfl
    · rw [show dF s0 i = 0 from e 18 i (Or.inl (by decide))]; rfl
  · exact ⟨⟨rfl, rfl, rfl, rfl, rfl⟩, fun t ht => absurd ht (by omega), fun t ht => absurd ht (by omega), fun t ht => absurd ht (by omega), fun t ht => absurd ht (by omega)⟩
