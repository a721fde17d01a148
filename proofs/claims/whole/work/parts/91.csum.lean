/-! ===== THE CLASS READS SUMS ===== -/
section QSTEP
variable {b : Nat → Nat} {n : Nat} {i d y : Nat} {W C : List Nat} {s : ST}
theorem q0 : qst b n (0, i, W, d, C, s) = qB b n i W d C s := rfl
theorem q1 : qst b n (1, i, W, d, C, s) = qA b n i W d C s := rfl
theorem q3 : qst b n (3, i, W, d, C, s) = qT b n i W d C s := rfl
theorem q4 : qst b n (4, i, W, d, C, s) = qF b n i W d C s := rfl
theorem q6 : qst b n (6, i, W, d, C, s) = fin (ckS b n i 59) (7, i + 1, [], 0, C, clo s C.length) := rfl
theorem q7 : qst b n (7, i, W, d, C, s) = qS b n i C s := rfl
theorem qA_pr (h : isPr y) : qst b n (1, i, y :: W, d, C, s) = (1, i, W, d, C ++ [y], s) := by rw [q1]; exact if_pos h
theorem qA_f (h : ¬ isPr y) (h2 : fctC (sgV b n i) ≠ 0) : qst b n (1, i, y :: W, d, C, s) = (0, i + 1, fctC (sgV b n i) :: y :: W, d, C, s) := by
  rw [q1]; show (if _ then _ else _) = _
  rw [if_neg h, if_pos h2]
theorem qA_tr (h : ¬ isPr y) (h2 : fctC (sgV b n i) = 0) (h3 : isTr y) : qst b n (1, i, y :: W, d, C, s) = (1, i, W, d, C ++ [y], s) := by
  rw [q1]; show (if _ then _ else _) = _
  rw [if_neg h, if_neg (fun z => z h2), if_pos h3]
theorem qA_t (h : ¬ isPr y) (h2 : fctC (sgV b n i) = 0) (h3 : ¬ isTr y) (h4 : trmC (sgV b n i) ≠ 0) : qst b n (1, i, y :: W, d, C, s) = (0, i + 1, trmC (sgV b n i) :: y :: W, d, C, s) := by
  rw [q1]; show (if _ then _ else _) = _
  rw [if_neg h, if_neg (fun z => z h2), if_neg h3, if_pos h4]
theorem qA_o' (hy : y = 20) (h2 : fctC (sgV b n i) = 0) (h4 : trmC (sgV b n i) = 0) : qst b n (1, i, y :: W, d, C, s) = (if sgV b n i = 41 then (1, i + 1, W, d - 1, C, s) else flt 1 (ps b n i)) := by
  rw [q1]; show (if _ then _ else _) = _
  rw [if_neg (by omega), if_neg (fun z => z h2), if_neg (by omega), if_neg (fun z => z h4), if_pos hy]
theorem qA_o (h2 : fctC (sgV b n i) = 0) (h4 : trmC (sgV b n i) = 0) : qst b n (1, i, 20 :: W, d, C, s) = (if sgV b n i = 41 then (1, i + 1, W, d - 1, C, s) else flt 1 (ps b n i)) := qA_o' rfl h2 h4
theorem qA_30' (hy : y = 30) (h2 : fctC (sgV b n i) = 0) (h4 : trmC (sgV b n i) = 0) : qst b n (1, i, y :: W, d, C, s) = (if cmpC (sgV b n i) ≠ 0 then (0, i + 1, cmpC (sgV b n i) :: W, d, C, s) else flt 1 (ps b n i)) := by
  rw [q1]; show (if _ then _ else _) = _
  rw [if_neg (by omega), if_neg (fun z => z h2), if_neg (by omega), if_neg (fun z => z h4), if_neg (by omega), if_pos hy]
theorem qA_30 (h2 : fctC (sgV b n i) = 0) (h4 : trmC (sgV b n i) = 0) : qst b n (1, i, 30 :: W, d, C, s) = (if cmpC (sgV b n i) ≠ 0 then (0, i + 1, cmpC (sgV b n i) :: W, d, C, s) else flt 1 (ps b n i)) := qA_30' rfl h2 h4
theorem qA_c (hy : y = 11 ∨ y = 12 ∨ y = 13) (h2 : fctC (sgV b n i) = 0) (h4 : trmC (sgV b n i) = 0) : qst b n (1, i, y :: W, d, C, s) = (4, i, W, d, C ++ [y], s) := by
  rw [q1]; show (if _ then _ else _) = _
  rw [if_neg (by omega), if_neg (fun z => z h2), if_neg (by omega), if_neg (fun z => z h4), if_neg (by omega), if_neg (by omega)]
theorem fctC_r (c : Nat) : fctC c = 0 ∨ isPr (fctC c) := by
  unfold fctC
  split
  · exact Or.inr (Or.inl rfl)
  · split
    · exact Or.inr (Or.inr (Or.inl rfl))
    · split
      · exact Or.inr (Or.inr (Or.inr rfl))
      · exact Or.inl rfl
theorem trmC_r (c : Nat) : trmC c = 0 ∨ isTr (trmC c) := by
  unfold trmC
  split
  · exact Or.inr (Or.inl rfl)
  · split
    · exact Or.inr (Or.inr rfl)
    · exact Or.inl rfl
theorem cmpC_r (c : Nat) : cmpC c = 0 ∨ cmpC c = 11 ∨ cmpC c = 12 ∨ cmpC c = 13 := by
  unfold cmpC
  split
  · exact Or.inr (Or.inl rfl)
  · split
    · exact Or.inr (Or.inr (Or.inl rfl))
    · split
      · exact Or.inr (Or.inr (Or.inr rfl))
      · exact Or.inl rfl
end QSTEP
def cz (f : Nat) : Int32 := if f = 0 then 0 else cvC f
theorem cz_0 : cz 0 = 0 := rfl
theorem cz_ne {f : Nat} (h : isPr f ∨ isTr f) : ¬ cz f = 0 := by
  rcases h with (rfl | rfl | rfl) | (rfl | rfl) <;> decide
theorem cz_cv {f : Nat} (h : isPr f ∨ isTr f) : cz f = cvC f := by
  rcases h with (rfl | rfl | rfl) | (rfl | rfl) <;> decide
section CSUM
variable {b : Nat → Nat} {n : Nat} {s : ST} {C : List Nat} {h h' : HP}
theorem nI_lit {v k : Nat} (hv : v < 2 ^ 31) (hk : k < 2 ^ 31) : (nI v = nI k) ↔ v = k := nI_eq hv hk
theorem dy_own (hb : ∀ k, k < n → b k < 256) (i : Nat) : dyI (if tS b n i = 3 then nI (tV b n i) else -1) = (if 17 ≤ owV b n i ∧ owV b n i ≤ 19 then cvC (owV b n i - 11) else 0) := by
  have hv := tV_lt hb i
  unfold dyI owV
  by_cases c : tS b n i = 3
  · simp only [if_pos c]
    simp only [show (17 : Int32) = nI 17 from rfl, show (18 : Int32) = nI 18 from rfl, show (19 : Int32) = nI 19 from rfl]
    simp only [nI_lit (v := tV b n i) (k := 17) (by omega) (by decide), nI_lit (v := tV b n i) (k := 18) (by omega) (by decide), nI_lit (v := tV b n i) (k := 19) (by omega) (by decide)]
    generalize tV b n i = v at *
    by_cases c1 : v = 17
    · subst c1; decide
    · by_cases c2 : v = 18
      · subst c2; decide
      · by_cases c3 : v = 19
        · subst c3; decide
        · rw [if_neg c1, if_neg c2, if_neg c3, if_neg (by omega)]
  · simp only [if_neg c]
    decide
theorem fc_sg (hb : ∀ k, k < n → b k < 256) (i : Nat) : fcI (if tS b n i = 6 then nI (tV b n i) else -1) = cz (fctC (sgV b n i)) := by
  have hv := tV_lt hb i
  unfold fcI sgV
  by_cases c : tS b n i = 6
  · simp only [if_pos c]
    simp only [show (37 : Int32) = nI 37 from rfl, show (42 : Int32) = nI 42 from rfl, show (47 : Int32) = nI 47 from rfl]
    simp only [nI_lit (v := tV b n i) (k := 37) (by omega) (by decide), nI_lit (v := tV b n i) (k := 42) (by omega) (by decide), nI_lit (v := tV b n i) (k := 47) (by omega) (by decide)]
    generalize tV b n i = v at *
    unfold fctC
    by_cases c1 : v = 37
    · subst c1; decide
    · by_cases c2 : v = 42
      · subst c2; decide
      · by_cases c3 : v = 47
        · subst c3; decide
        · rw [if_neg c1, if_neg c2, if_neg c3, if_neg c2, if_neg c3, if_neg c1]; rfl
  · simp only [if_neg c]
    decide
theorem tm_sg (hb : ∀ k, k < n → b k < 256) (i : Nat) : tmI (if tS b n i = 6 then nI (tV b n i) else -1) = cz (trmC (sgV b n i)) := by
  have hv := tV_lt hb i
  unfold tmI sgV
  by_cases c : tS b n i = 6
  · simp only [if_pos c]
    simp only [show (43 : Int32) = nI 43 from rfl, show (45 : Int32) = nI 45 from rfl]
    simp only [nI_lit (v := tV b n i) (k := 43) (by omega) (by decide), nI_lit (v := tV b n i) (k := 45) (by omega) (by decide)]
    generalize tV b n i = v at *
    unfold trmC
    by_cases c1 : v = 43
    · subst c1; decide
    · by_cases c2 : v = 45
      · subst c2; decide
      · rw [if_neg c1, if_neg c2, if_neg c1, if_neg c2]; rfl
  · simp only [if_neg c]
    decide
theorem cm_sg (hb : ∀ k, k < n → b k < 256) (i : Nat) : cmI (if tS b n i = 6 then nI (tV b n i) else -1) = (if cmpC (sgV b n i) = 0 then 0 else cvC (cmpC (sgV b n i))) := by
  have hv := tV_lt hb i
  unfold cmI sgV
  by_cases c : tS b n i = 6
  · simp only [if_pos c]
    simp only [show (60 : Int32) = nI 60 from rfl, show (61 : Int32) = nI 61 from rfl, show (62 : Int32) = nI 62 from rfl]
    simp only [nI_lit (v := tV b n i) (k := 60) (by omega) (by decide), nI_lit (v := tV b n i) (k := 61) (by omega) (by decide), nI_lit (v := tV b n i) (k := 62) (by omega) (by decide)]
    generalize tV b n i = v at *
    unfold cmpC
    by_cases c1 : v = 60
    · subst c1; decide
    · by_cases c2 : v = 61
      · subst c2; decide
      · by_cases c3 : v = 62
        · subst c3; decide
        · rw [if_neg c1, if_neg c2, if_neg c3, if_neg c1, if_neg c3, if_neg c2, if_pos rfl]
  · simp only [if_neg c]
    decide
/-- what reading a part, a sum comes to -/
def PO (b : Nat → Nat) (n i dp : Nat) (C : List Nat) (s : ST) (q : Nat) (h' : HP) : Prop := (∃ i' C', CS b n i' s C' q h' ∧ i < i' ∧ C'.length + i ≤ C.length + i' ∧ ∀ W, qGo b n (0, i, W, dp, C, s) (1, i', W, dp, C', s)) ∨ (∃ f p, CF b n f p h' ∧ ∀ W, qGo b n (0, i, W, dp, C, s) (flt f p))
def SO (b : Nat → Nat) (n i dp : Nat) (C : List Nat) (s : ST) (q : Nat) (h' : HP) : Prop := (∃ i' C', CS b n i' s C' q h' ∧ i < i' ∧ C'.length + i ≤ C.length + i' ∧ (fctC (sgV b n i') = 0 ∧ trmC (sgV b n i') = 0) ∧ ∀ x W, ¬ isPr x → ¬ isTr x → qGo b n (0, i, x :: W, dp, C, s) (1, i', x :: W, dp, C', s)) ∨ (∃ f p, CF b n f p h' ∧ ∀ x W, ¬ isPr x → ¬ isTr x → qGo b n (0, i, x :: W, dp, C, s) (flt f p))
theorem tS_ow {i : Nat} (h1 : tS b n i ≠ 3) : owV b n i = 99 := by unfold owV; rw [if_neg h1]
theorem tS_sg {i : Nat} (h1 : tS b n i ≠ 6) : sgV b n i = 0 := by unfold sgV; rw [if_neg h1]
theorem c_part {d dp q : Nat} (hdp : dp ≤ 6) (hS : dp < 6 → ∀ h i C, CS b n i s C q h → C.length ≤ i → ∃ h', Run d j_Reader_readSum [.ref 17, .int (nI (dp + 1))] h none h' ∧ onlyJ rdL [] h h' ∧ SO b n i (dp + 1) C s q h') {i : Nat} (X : CS b n i s C q h) (hl : C.length ≤ i) : ∃ w h', Run (d + 1) j_Reader_readPart [.ref 17, .int (nI dp)] h w h' ∧ (w = none ∧ onlyJ rdL [] h h' ∧ PO b n i dp C s q h') := by
  refine Run.ofP rfl ?_
  refine Wp.norm (L' := [_, _, _, _, _]) rfl ?_
  have i9 := X.i9
  have h7 := tS_7 (b := b) (n := n) i
  have hv := tV_lt X.hb i
  have hat := X.at
  have f0 := X.f0
  have hps := ps_le (b := b) (n := n) i
  have r1 := r_sortAt X.K (k := i) (by omega)
  have r2 := r_valueAt X.K (k := i) (by omega)
  have r3 := r_placeAt X.K X.hi
  have r4 := r_ownAt X.K X.hi
  have r5 := r_dayOp h (if tS b n i = 3 then nI (tV b n i) else -1)
  have r6 := r_isSign (w := 40) X.hb X.K X.hi (by decide)
  rw [dy_own X.hb] at r5
  rw [← hat] at r1 r2 r3 r4 r6
  repeat (first | (refine W1 rfl ?_; try refine Wp.norm (L' := [_, _, _, _, _]) rfl ?_) | ((first | change (_ → _) ∧ (_ → _) | change vp_in _ _ ∧ _ | change ¬ _ ∧ _); simp (disch := omega) only [nI_clamp, nI_leI, nI_ltI, nI_eq, nI_1, nI_add, nI_not_neg, nI_is_pos, nI_m1, nI_z]) | refine brT (by first | assumption | decide | omega) ?_ | refine brF (by first | assumption | decide | omega) ?_ | refine brTn (by first | assumption | decide | omega) ?_ | refine brFn (by first | assumption | decide | omega) ?_ | refine And.intro (vp_in_nI (by omega) (by decide)) ?_ | refine And.intro (vp_lit (by decide)) ?_ | refine divJ (by decide) ?_ | refine divI (by decide) ?_)
  try change _ ∧ _
  refine Cl.of r3 (by omega) ?_
  show Wp (d + 1) j_Reader_readPart _ _ _ _ _
  repeat (first | (refine W1 rfl ?_; try refine Wp.norm (L' := [_, _, _, _, _]) rfl ?_) | ((first | change (_ → _) ∧ (_ → _) | change vp_in _ _ ∧ _ | change ¬ _ ∧ _); simp (disch := omega) only [nI_clamp, nI_leI, nI_ltI, nI_eq, nI_1, nI_add, nI_not_neg, nI_is_pos, nI_m1, nI_z]) | refine brT (by first | assumption | decide | omega) ?_ | refine brF (by first | assumption | decide | omega) ?_ | refine brTn (by first | assumption | decide | omega) ?_ | refine brFn (by first | assumption | decide | omega) ?_ | refine And.intro (vp_in_nI (by omega) (by decide)) ?_ | refine And.intro (vp_lit (by decide)) ?_ | refine divJ (by decide) ?_ | refine divI (by decide) ?_)
  try change _ ∧ _
  refine Cl.of r1 (by omega) ?_
  repeat (first | (refine W1 rfl ?_; try refine Wp.norm (L' := [_, _, _, _, _]) rfl ?_) | ((first | change (_ → _) ∧ (_ → _) | change vp_in _ _ ∧ _ | change ¬ _ ∧ _); simp (disch := omega) only [nI_clamp, nI_leI, nI_ltI, nI_eq, nI_1, nI_add, nI_not_neg, nI_is_pos, nI_m1, nI_z]) | refine brT (by first | assumption | decide | omega) ?_ | refine brF (by first | assumption | decide | omega) ?_ | refine brTn (by first | assumption | decide | omega) ?_ | refine brFn (by first | assumption | decide | omega) ?_ | refine And.intro (vp_in_nI (by omega) (by decide)) ?_ | refine And.intro (vp_lit (by decide)) ?_ | refine divJ (by decide) ?_ | refine divI (by decide) ?_)
  try change _ ∧ _
  refine Cl.of r4 (by omega) ?_
  repeat (first | (refine W1 rfl ?_; try refine Wp.norm (L' := [_, _, _, _, _]) rfl ?_) | ((first | change (_ → _) ∧ (_ → _) | change vp_in _ _ ∧ _ | change ¬ _ ∧ _); simp (disch := omega) only [nI_clamp, nI_leI, nI_ltI, nI_eq, nI_1, nI_add, nI_not_neg, nI_is_pos, nI_m1, nI_z]) | refine brT (by first | assumption | decide | omega) ?_ | refine brF (by first | assumption | decide | omega) ?_ | refine brTn (by first | assumption | decide | omega) ?_ | refine brFn (by first | assumption | decide | omega) ?_ | refine And.intro (vp_in_nI (by omega) (by decide)) ?_ | refine And.intro (vp_lit (by decide)) ?_ | refine divJ (by decide) ?_ | refine divI (by decide) ?_)
  try change _ ∧ _
  refine Cl.of r5 (by omega) ?_
  show Wp (d + 1) j_Reader_readPart _ _ _ _ _
  by_cases c1 : tS b n i = 4
  · have hpn : ps b n i < n := ps_of (by omega)
    have hi9 : i < 900 := by
      obtain ⟨m, a1, a2, a3, _⟩ := X.K.at X.hi
      rcases Nat.lt_or_ge i m with z | z
      · omega
      · have : i = m := by omega
        rw [this] at hpn; omega
    obtain ⟨h1, re, O1, X1⟩ := c_emit (x := 1000 + tV b n i) (y := nI (tV b n i)) X (by omega) (by unfold cvC; rw [if_pos (by omega), show 1000 + tV b n i - 1000 = tV b n i by omega])
    have ha1 := X1.at
    repeat (first | (refine W1 rfl ?_; try refine Wp.norm (L' := [_, _, _, _, _]) rfl ?_) | ((first | change (_ → _) ∧ (_ → _) | change vp_in _ _ ∧ _ | change ¬ _ ∧ _); simp (disch := omega) only [nI_clamp, nI_leI, nI_ltI, nI_eq, nI_1, nI_add, nI_not_neg, nI_is_pos, nI_m1, nI_z, c1, show (4 : Int32) = nI 4 from rfl]) | refine brT (by first | assumption | decide | omega) ?_ | refine brF (by first | assumption | decide | omega) ?_ | refine brTn (by first | assumption | decide | omega) ?_ | refine brFn (by first | assumption | decide | omega) ?_ | refine And.intro (vp_in_nI (by omega) (by decide)) ?_ | refine And.intro (vp_lit (by decide)) ?_ | refine divJ (by decide) ?_ | refine divI (by decide) ?_)
    try change _ ∧ _
    refine Cl.of r2 (by omega) ?_
    repeat (first | (refine W1 rfl ?_; try refine Wp.norm (L' := [_, _, _, _, _]) rfl ?_) | ((first | change (_ → _) ∧ (_ → _) | change vp_in _ _ ∧ _ | change ¬ _ ∧ _); simp (disch := omega) only [nI_clamp, nI_leI, nI_ltI, nI_eq, nI_1, nI_add, nI_not_neg, nI_is_pos, nI_m1, nI_z]) | refine brT (by first | assumption | decide | omega) ?_ | refine brF (by first | assumption | decide | omega) ?_ | refine brTn (by first | assumption | decide | omega) ?_ | refine brFn (by first | assumption | decide | omega) ?_ | refine And.intro (vp_in_nI (by omega) (by decide)) ?_ | refine And.intro (vp_lit (by decide)) ?_ | refine divJ (by decide) ?_ | refine divI (by decide) ?_)
    try change _ ∧ _
    refine Cl.of re (by omega) ?_
    repeat (first | (refine W1 rfl ?_; try refine Wp.norm (L' := [_, _, _, _, _]) rfl ?_) | ((first | change (_ → _) ∧ (_ → _) | change vp_in _ _ ∧ _ | change ¬ _ ∧ _); simp (disch := omega) only [nI_clamp, nI_leI, nI_ltI, nI_eq, nI_1, nI_add, nI_not_neg, nI_is_pos, nI_m1, nI_z]) | refine brT (by first | assumption | decide | omega) ?_ | refine brF (by first | assumption | decide | omega) ?_ | refine brTn (by first | assumption | decide | omega) ?_ | refine brFn (by first | assumption | decide | omega) ?_ | refine And.intro (vp_in_nI (by omega) (by decide)) ?_ | refine And.intro (vp_lit (by decide)) ?_ | refine divJ (by decide) ?_ | refine divI (by decide) ?_)
    try change _ ∧ _
    rw [ha1]
    refine ⟨rfl, o17 O1, Or.inl ⟨i + 1, C ++ [1000 + tV b n i], ?_, by omega, by rw [List.length_append]; show C.length + 1 + i ≤ _; omega, fun W => qGo.one ?_⟩⟩
    · simp only [nI_1, nI_add]
      exact X1.nx hpn
    · rw [q0]
      unfold qB
      rw [if_neg (by rw [tS_sg (by omega)]; decide), if_pos c1]
  · by_cases c2 : tS b n i = 5
    · repeat (first | (refine W1 rfl ?_; try refine Wp.norm (L' := [_, _, _, _, _]) rfl ?_) | ((first | change (_ → _) ∧ (_ → _) | change vp_in _ _ ∧ _ | change ¬ _ ∧ _); simp (disch := omega) only [nI_clamp, nI_leI, nI_ltI, nI_eq, nI_1, nI_add, nI_not_neg, nI_is_pos, nI_m1, nI_z, c1, c2, show (4 : Int32) = nI 4 from rfl, show (5 : Int32) = nI 5 from rfl]) | refine brT (by first | assumption | decide | omega) ?_ | refine brF (by first | assumption | decide | omega) ?_ | refine brTn (by first | assumption | decide | omega) ?_ | refine brFn (by first | assumption | decide | omega) ?_ | refine And.intro (vp_in_nI (by omega) (by decide)) ?_ | refine And.intro (vp_lit (by decide)) ?_ | refine divJ (by decide) ?_ | refine divI (by decide) ?_)
      try change _ ∧ _
      refine Cl.ofA (r_fail0 1 (nI (ps b n i + 4)) f0) (by rw [show (4 : Int32) = nI 4 from rfl]; first | done | rfl | (simp (disch := omega) only [nI_1, nI_add, nI_clamp] <;> first | done | rfl)) (by omega) ?_
      repeat (first | (refine W1 rfl ?_; try refine Wp.norm (L' := [_, _, _, _, _]) rfl ?_) | ((first | change (_ → _) ∧ (_ → _) | change vp_in _ _ ∧ _ | change ¬ _ ∧ _); simp (disch := omega) only [nI_clamp, nI_leI, nI_ltI, nI_eq, nI_1, nI_add, nI_not_neg, nI_is_pos, nI_m1, nI_z]) | refine brT (by first | assumption | decide | omega) ?_ | refine brF (by first | assumption | decide | omega) ?_ | refine brTn (by first | assumption | decide | omega) ?_ | refine brFn (by first | assumption | decide | omega) ?_ | refine And.intro (vp_in_nI (by omega) (by decide)) ?_ | refine And.intro (vp_lit (by decide)) ?_ | refine divJ (by decide) ?_ | refine divI (by decide) ?_)
      try change _ ∧ _
      refine ⟨rfl, o17f _ _, Or.inr ⟨1, ps b n i + 4, X.fl (by decide), fun W => qGo.one ?_⟩⟩
      rw [q0]
      unfold qB
      rw [if_neg (by rw [tS_sg (by omega)]; decide), if_neg c1, if_neg (by rw [tS_ow (by omega)]; decide), if_pos c2]
    · by_cases c3 : 17 ≤ owV b n i ∧ owV b n i ≤ 19
      · have hpn : ps b n i < n := ow_ps (by omega)
        have hi9 : i < 900 := by
          obtain ⟨m, a1, a2, a3, _⟩ := X.K.at X.hi
          rcases Nat.lt_or_ge i m with z | z
          · omega
          · have : i = m := by omega
            rw [this] at hpn; omega
        have c3' : tS b n i = 3 := by
          by_cases z : tS b n i = 3
          · exact z
          · rw [tS_ow z] at c3; omega
        rw [if_pos c3]
        obtain ⟨h1, re, O1, X1⟩ := c_emit (x := owV b n i - 11) (y := cvC (owV b n i - 11)) X (by omega) rfl
        have ha1 := X1.at
        have hnz : ¬ cvC (owV b n i - 11) = 0 := by
          generalize owV b n i = v at c3
          obtain ⟨z1, z2⟩ := c3
          have : v = 17 ∨ v = 18 ∨ v = 19 := by omega
          rcases this with rfl | rfl | rfl <;> decide
        repeat (first | (refine W1 rfl ?_; try refine Wp.norm (L' := [_, _, _, _, _]) rfl ?_) | ((first | change (_ → _) ∧ (_ → _) | change vp_in _ _ ∧ _ | change ¬ _ ∧ _); simp (disch := omega) only [nI_clamp, nI_leI, nI_ltI, nI_eq, nI_1, nI_add, nI_not_neg, nI_is_pos, nI_m1, nI_z, show (4 : Int32) = nI 4 from rfl, show (5 : Int32) = nI 5 from rfl]) | refine brT (by first | assumption | decide | omega) ?_ | refine brF (by first | assumption | decide | omega) ?_ | refine brTn (by first | assumption | decide | omega) ?_ | refine brFn (by first | assumption | decide | omega) ?_ | refine And.intro (vp_in_nI (by omega) (by decide)) ?_ | refine And.intro (vp_lit (by decide)) ?_ | refine divJ (by decide) ?_ | refine divI (by decide) ?_)
        try change _ ∧ _
        refine Cl.of re (by omega) ?_
        repeat (first | (refine W1 rfl ?_; try refine Wp.norm (L' := [_, _, _, _, _]) rfl ?_) | ((first | change (_ → _) ∧ (_ → _) | change vp_in _ _ ∧ _ | change ¬ _ ∧ _); simp (disch := omega) only [nI_clamp, nI_leI, nI_ltI, nI_eq, nI_1, nI_add, nI_not_neg, nI_is_pos, nI_m1, nI_z]) | refine brT (by first | assumption | decide | omega) ?_ | refine brF (by first | assumption | decide | omega) ?_ | refine brTn (by first | assumption | decide | omega) ?_ | refine brFn (by first | assumption | decide | omega) ?_ | refine And.intro (vp_in_nI (by omega) (by decide)) ?_ | refine And.intro (vp_lit (by decide)) ?_ | refine divJ (by decide) ?_ | refine divI (by decide) ?_)
        try change _ ∧ _
        rw [ha1]
        refine ⟨rfl, o17 O1, Or.inl ⟨i + 1, C ++ [owV b n i - 11], ?_, by omega, by rw [List.length_append]; show C.length + 1 + i ≤ _; omega, fun W => qGo.one ?_⟩⟩
        · simp only [nI_1, nI_add]
          exact X1.nx hpn
        · rw [q0]
          unfold qB
          rw [if_neg (by rw [tS_sg (by omega)]; decide), if_neg c1, if_pos c3]
      · rw [if_neg c3]
        by_cases c4 : sgV b n i = 40
        · rw [decide_eq_true c4, bI_t] at r6
          by_cases c5 : dp < 6
          · have X1 := X.nx (sg_ps (by omega))
            obtain ⟨h2, rs, O2, S2⟩ := hS c5 _ (i + 1) C X1 (by omega)
            have e1 : h.1 17 4 + 1 = nI (i + 1) := by rw [hat]; first | done | rfl | (simp (disch := omega) only [nI_1, nI_add, nI_clamp] <;> first | done | rfl)
            have gq : ∀ W, qGo b n (0, i, W, dp, C, s) (0, i + 1, 20 :: W, dp + 1, C, s) := fun W => qGo.one (by
              rw [q0]
              unfold qB
              rw [if_pos c4, if_neg (by omega)])
            repeat (first | (refine W1 rfl ?_; try refine Wp.norm (L' := [_, _, _, _, _]) rfl ?_) | ((first | change (_ → _) ∧ (_ → _) | change vp_in _ _ ∧ _ | change ¬ _ ∧ _); simp (disch := omega) only [nI_clamp, nI_leI, nI_ltI, nI_eq, nI_1, nI_add, nI_not_neg, nI_is_pos, nI_m1, nI_z, show (4 : Int32) = nI 4 from rfl, show (5 : Int32) = nI 5 from rfl]) | refine brT (by first | assumption | decide | omega) ?_ | refine brF (by first | assumption | decide | omega) ?_ | refine brTn (by first | assumption | decide | omega) ?_ | refine brFn (by first | assumption | decide | omega) ?_ | refine And.intro (vp_in_nI (by omega) (by decide)) ?_ | refine And.intro (vp_lit (by decide)) ?_ | refine divJ (by decide) ?_ | refine divI (by decide) ?_)
            try change _ ∧ _
            refine Cl.of r6 (by omega) ?_
            repeat (first | (refine W1 rfl ?_; try refine Wp.norm (L' := [_, _, _, _, _]) rfl ?_) | ((first | change (_ → _) ∧ (_ → _) | change vp_in _ _ ∧ _ | change ¬ _ ∧ _); simp (disch := omega) only [nI_clamp, nI_leI, nI_ltI, nI_eq, nI_1, nI_add, nI_not_neg, nI_is_pos, nI_m1, nI_z, show (6 : Int32) = nI 6 from rfl]) | refine brT (by first | assumption | decide | omega) ?_ | refine brF (by first | assumption | decide | omega) ?_ | refine brTn (by first | assumption | decide | omega) ?_ | refine brFn (by first | assumption | decide | omega) ?_ | refine And.intro (vp_in_nI (by omega) (by decide)) ?_ | refine And.intro (vp_lit (by decide)) ?_ | refine divJ (by decide) ?_ | refine divI (by decide) ?_)
            try change _ ∧ _
            refine Cl.ofH rs (by first | done | rfl | (simp (disch := omega) only [nI_1, nI_add, nI_clamp] <;> first | done | rfl)) (by rw [hat]; first | done | rfl | (simp (disch := omega) only [nI_1, nI_add, nI_clamp] <;> first | done | rfl)) (by omega) ?_
            rcases S2 with ⟨i', C', Y, hii, hll, ⟨hf, ht⟩, go⟩ | ⟨f, p, Y, go⟩
            · have ha2 := Y.at
              have f2 := Y.f0
              have i92 := Y.i9
              have r7 := r_isSign (w := 41) Y.hb Y.K Y.hi (by decide)
              have r8 := r_placeAt Y.K Y.hi
              rw [← ha2] at r7 r8
              by_cases c6 : sgV b n i' = 41
              · rw [decide_eq_true c6, bI_t] at r7
                repeat (first | (refine W1 rfl ?_; try refine Wp.norm (L' := [_, _, _, _, _]) rfl ?_) | ((first | change (_ → _) ∧ (_ → _) | change vp_in _ _ ∧ _ | change ¬ _ ∧ _); simp (disch := omega) only [nI_clamp, nI_leI, nI_ltI, nI_eq, nI_1, nI_add, nI_not_neg, nI_is_pos, nI_m1, nI_z]) | refine brT (by first | assumption | decide | omega) ?_ | refine brF (by first | assumption | decide | omega) ?_ | refine brTn (by first | assumption | decide | omega) ?_ | refine brFn (by first | assumption | decide | omega) ?_ | refine And.intro (vp_in_nI (by omega) (by decide)) ?_ | refine And.intro (vp_lit (by decide)) ?_ | refine divJ (by decide) ?_ | refine divI (by decide) ?_)
                try change _ ∧ _
                refine Cl.of r7 (by omega) ?_
                repeat (first | (refine W1 rfl ?_; try refine Wp.norm (L' := [_, _, _, _, _]) rfl ?_) | ((first | change (_ → _) ∧ (_ → _) | change vp_in _ _ ∧ _ | change ¬ _ ∧ _); simp (disch := omega) only [nI_clamp, nI_leI, nI_ltI, nI_eq, nI_1, nI_add, nI_not_neg, nI_is_pos, nI_m1, nI_z]) | refine brT (by first | assumption | decide | omega) ?_ | refine brF (by first | assumption | decide | omega) ?_ | refine brTn (by first | assumption | decide | omega) ?_ | refine brFn (by first | assumption | decide | omega) ?_ | refine And.intro (vp_in_nI (by omega) (by decide)) ?_ | refine And.intro (vp_lit (by decide)) ?_ | refine divJ (by decide) ?_ | refine divI (by decide) ?_)
                try change _ ∧ _
                rw [ha2]
                refine ⟨rfl, o17 ((o17 (onlyJ.rfl _ _ h)).trans O2), Or.inl ⟨i' + 1, C', ?_, by omega, by omega, fun W => ?_⟩⟩
                · simp only [nI_1, nI_add]
                  exact Y.nx (sg_ps (by omega))
                · refine (gq W).trans ((go 20 W (by decide) (by decide)).trans (qGo.one ?_))
                  rw [qA_o hf ht, if_pos c6]
                  rfl
              · rw [decide_eq_false c6, bI_f] at r7
                repeat (first | (refine W1 rfl ?_; try refine Wp.norm (L' := [_, _, _, _, _]) rfl ?_) | ((first | change (_ → _) ∧ (_ → _) | change vp_in _ _ ∧ _ | change ¬ _ ∧ _); simp (disch := omega) only [nI_clamp, nI_leI, nI_ltI, nI_eq, nI_1, nI_add, nI_not_neg, nI_is_pos, nI_m1, nI_z]) | refine brT (by first | assumption | decide | omega) ?_ | refine brF (by first | assumption | decide | omega) ?_ | refine brTn (by first | assumption | decide | omega) ?_ | refine brFn (by first | assumption | decide | omega) ?_ | refine And.intro (vp_in_nI (by omega) (by decide)) ?_ | refine And.intro (vp_lit (by decide)) ?_ | refine divJ (by decide) ?_ | refine divI (by decide) ?_)
                try change _ ∧ _
                refine Cl.of r7 (by omega) ?_
                repeat (first | (refine W1 rfl ?_; try refine Wp.norm (L' := [_, _, _, _, _]) rfl ?_) | ((first | change (_ → _) ∧ (_ → _) | change vp_in _ _ ∧ _ | change ¬ _ ∧ _); simp (disch := omega) only [nI_clamp, nI_leI, nI_ltI, nI_eq, nI_1, nI_add, nI_not_neg, nI_is_pos, nI_m1, nI_z]) | refine brT (by first | assumption | decide | omega) ?_ | refine brF (by first | assumption | decide | omega) ?_ | refine brTn (by first | assumption | decide | omega) ?_ | refine brFn (by first | assumption | decide | omega) ?_ | refine And.intro (vp_in_nI (by omega) (by decide)) ?_ | refine And.intro (vp_lit (by decide)) ?_ | refine divJ (by decide) ?_ | refine divI (by decide) ?_)
                try change _ ∧ _
                refine Cl.of r8 (by omega) ?_
                repeat (first | (refine W1 rfl ?_; try refine Wp.norm (L' := [_, _, _, _, _]) rfl ?_) | ((first | change (_ → _) ∧ (_ → _) | change vp_in _ _ ∧ _ | change ¬ _ ∧ _); simp (disch := omega) only [nI_clamp, nI_leI, nI_ltI, nI_eq, nI_1, nI_add, nI_not_neg, nI_is_pos, nI_m1, nI_z]) | refine brT (by first | assumption | decide | omega) ?_ | refine brF (by first | assumption | decide | omega) ?_ | refine brTn (by first | assumption | decide | omega) ?_ | refine brFn (by first | assumption | decide | omega) ?_ | refine And.intro (vp_in_nI (by omega) (by decide)) ?_ | refine And.intro (vp_lit (by decide)) ?_ | refine divJ (by decide) ?_ | refine divI (by decide) ?_)
                try change _ ∧ _
                refine Cl.of (r_fail0 _ _ f2) (by omega) ?_
                repeat (first | (refine W1 rfl ?_; try refine Wp.norm (L' := [_, _, _, _, _]) rfl ?_) | ((first | change (_ → _) ∧ (_ → _) | change vp_in _ _ ∧ _ | change ¬ _ ∧ _); simp (disch := omega) only [nI_clamp, nI_leI, nI_ltI, nI_eq, nI_1, nI_add, nI_not_neg, nI_is_pos, nI_m1, nI_z]) | refine brT (by first | assumption | decide | omega) ?_ | refine brF (by first | assumption | decide | omega) ?_ | refine brTn (by first | assumption | decide | omega) ?_ | refine brFn (by first | assumption | decide | omega) ?_ | refine And.intro (vp_in_nI (by omega) (by decide)) ?_ | refine And.intro (vp_lit (by decide)) ?_ | refine divJ (by decide) ?_ | refine divI (by decide) ?_)
                try change _ ∧ _
                refine ⟨rfl, o17 (o17 ((o17 (onlyJ.rfl _ _ h)).trans O2)), Or.inr ⟨1, ps b n i', Y.fl (by decide), fun W => ?_⟩⟩
                refine (gq W).trans ((go 20 W (by decide) (by decide)).trans (qGo.one ?_))
                rw [qA_o hf ht, if_neg c6]
            · have hne := Y.ne
              obtain ⟨w7, r7⟩ := x_isSign Y.1 (h2.1 17 4) 41
              obtain ⟨w8, r8⟩ := x_placeAt Y.1 (h2.1 17 4)
              repeat (first | (refine W1 rfl ?_; try refine Wp.norm (L' := [_, _, _, _, _]) rfl ?_) | ((first | change (_ → _) ∧ (_ → _) | change vp_in _ _ ∧ _ | change ¬ _ ∧ _); simp (disch := omega) only [nI_clamp, nI_leI, nI_ltI, nI_eq, nI_1, nI_add, nI_not_neg, nI_is_pos, nI_m1, nI_z]) | refine brT (by first | assumption | decide | omega) ?_ | refine brF (by first | assumption | decide | omega) ?_ | refine brTn (by first | assumption | decide | omega) ?_ | refine brFn (by first | assumption | decide | omega) ?_ | refine And.intro (vp_in_nI (by omega) (by decide)) ?_ | refine And.intro (vp_lit (by decide)) ?_ | refine divJ (by decide) ?_ | refine divI (by decide) ?_)
              try change _ ∧ _
              refine Cl.of r7 (by omega) ?_
              cases w7 with
              | true =>
                rw [bI_t]
                repeat (first | (refine W1 rfl ?_; try refine Wp.norm (L' := [_, _, _, _, _]) rfl ?_) | ((first | change (_ → _) ∧ (_ → _) | change vp_in _ _ ∧ _ | change ¬ _ ∧ _); simp (disch := omega) only [nI_clamp, nI_leI, nI_ltI, nI_eq, nI_1, nI_add, nI_not_neg, nI_is_pos, nI_m1, nI_z]) | refine brT (by first | assumption | decide | omega) ?_ | refine brF (by first | assumption | decide | omega) ?_ | refine brTn (by first | assumption | decide | omega) ?_ | refine brFn (by first | assumption | decide | omega) ?_ | refine And.intro (vp_in_nI (by omega) (by decide)) ?_ | refine And.intro (vp_lit (by decide)) ?_ | refine divJ (by decide) ?_ | refine divI (by decide) ?_)
                try change _ ∧ _
                exact ⟨rfl, o17 ((o17 (onlyJ.rfl _ _ h)).trans O2), Or.inr ⟨f, p, Y.w (Or.inl rfl), fun W => (gq W).trans (go 20 W (by decide) (by decide))⟩⟩
              | false =>
                rw [bI_f]
                repeat (first | (refine W1 rfl ?_; try refine Wp.norm (L' := [_, _, _, _, _]) rfl ?_) | ((first | change (_ → _) ∧ (_ → _) | change vp_in _ _ ∧ _ | change ¬ _ ∧ _); simp (disch := omega) only [nI_clamp, nI_leI, nI_ltI, nI_eq, nI_1, nI_add, nI_not_neg, nI_is_pos, nI_m1, nI_z]) | refine brT (by first | assumption | decide | omega) ?_ | refine brF (by first | assumption | decide | omega) ?_ | refine brTn (by first | assumption | decide | omega) ?_ | refine brFn (by first | assumption | decide | omega) ?_ | refine And.intro (vp_in_nI (by omega) (by decide)) ?_ | refine And.intro (vp_lit (by decide)) ?_ | refine divJ (by decide) ?_ | refine divI (by decide) ?_)
                try change _ ∧ _
                refine Cl.of r8 (by omega) ?_
                repeat (first | (refine W1 rfl ?_; try refine Wp.norm (L' := [_, _, _, _, _]) rfl ?_) | ((first | change (_ → _) ∧ (_ → _) | change vp_in _ _ ∧ _ | change ¬ _ ∧ _); simp (disch := omega) only [nI_clamp, nI_leI, nI_ltI, nI_eq, nI_1, nI_add, nI_not_neg, nI_is_pos, nI_m1, nI_z]) | refine brT (by first | assumption | decide | omega) ?_ | refine brF (by first | assumption | decide | omega) ?_ | refine brTn (by first | assumption | decide | omega) ?_ | refine brFn (by first | assumption | decide | omega) ?_ | refine And.intro (vp_in_nI (by omega) (by decide)) ?_ | refine And.intro (vp_lit (by decide)) ?_ | refine divJ (by decide) ?_ | refine divI (by decide) ?_)
                try change _ ∧ _
                refine Cl.of (r_fail1 _ _ hne) (by omega) ?_
                repeat (first | (refine W1 rfl ?_; try refine Wp.norm (L' := [_, _, _, _, _]) rfl ?_) | ((first | change (_ → _) ∧ (_ → _) | change vp_in _ _ ∧ _ | change ¬ _ ∧ _); simp (disch := omega) only [nI_clamp, nI_leI, nI_ltI, nI_eq, nI_1, nI_add, nI_not_neg, nI_is_pos, nI_m1, nI_z]) | refine brT (by first | assumption | decide | omega) ?_ | refine brF (by first | assumption | decide | omega) ?_ | refine brTn (by first | assumption | decide | omega) ?_ | refine brFn (by first | assumption | decide | omega) ?_ | refine And.intro (vp_in_nI (by omega) (by decide)) ?_ | refine And.intro (vp_lit (by decide)) ?_ | refine divJ (by decide) ?_ | refine divI (by decide) ?_)
                try change _ ∧ _
                exact ⟨rfl, (o17 (onlyJ.rfl _ _ h)).trans O2, Or.inr ⟨f, p, Y, fun W => (gq W).trans (go 20 W (by decide) (by decide))⟩⟩
          · repeat (first | (refine W1 rfl ?_; try refine Wp.norm (L' := [_, _, _, _, _]) rfl ?_) | ((first | change (_ → _) ∧ (_ → _) | change vp_in _ _ ∧ _ | change ¬ _ ∧ _); simp (disch := omega) only [nI_clamp, nI_leI, nI_ltI, nI_eq, nI_1, nI_add, nI_not_neg, nI_is_pos, nI_m1, nI_z, show (4 : Int32) = nI 4 from rfl, show (5 : Int32) = nI 5 from rfl]) | refine brT (by first | assumption | decide | omega) ?_ | refine brF (by first | assumption | decide | omega) ?_ | refine brTn (by first | assumption | decide | omega) ?_ | refine brFn (by first | assumption | decide | omega) ?_ | refine And.intro (vp_in_nI (by omega) (by decide)) ?_ | refine And.intro (vp_lit (by decide)) ?_ | refine divJ (by decide) ?_ | refine divI (by decide) ?_)
            try change _ ∧ _
            refine Cl.of r6 (by omega) ?_
            repeat (first | (refine W1 rfl ?_; try refine Wp.norm (L' := [_, _, _, _, _]) rfl ?_) | ((first | change (_ → _) ∧ (_ → _) | change vp_in _ _ ∧ _ | change ¬ _ ∧ _); simp (disch := omega) only [nI_clamp, nI_leI, nI_ltI, nI_eq, nI_1, nI_add, nI_not_neg, nI_is_pos, nI_m1, nI_z, show (6 : Int32) = nI 6 from rfl]) | refine brT (by first | assumption | decide | omega) ?_ | refine brF (by first | assumption | decide | omega) ?_ | refine brTn (by first | assumption | decide | omega) ?_ | refine brFn (by first | assumption | decide | omega) ?_ | refine And.intro (vp_in_nI (by omega) (by decide)) ?_ | refine And.intro (vp_lit (by decide)) ?_ | refine divJ (by decide) ?_ | refine divI (by decide) ?_)
            try change _ ∧ _
            refine Cl.of (r_fail0 _ _ f0) (by omega) ?_
            repeat (first | (refine W1 rfl ?_; try refine Wp.norm (L' := [_, _, _, _, _]) rfl ?_) | ((first | change (_ → _) ∧ (_ → _) | change vp_in _ _ ∧ _ | change ¬ _ ∧ _); simp (disch := omega) only [nI_clamp, nI_leI, nI_ltI, nI_eq, nI_1, nI_add, nI_not_neg, nI_is_pos, nI_m1, nI_z]) | refine brT (by first | assumption | decide | omega) ?_ | refine brF (by first | assumption | decide | omega) ?_ | refine brTn (by first | assumption | decide | omega) ?_ | refine brFn (by first | assumption | decide | omega) ?_ | refine And.intro (vp_in_nI (by omega) (by decide)) ?_ | refine And.intro (vp_lit (by decide)) ?_ | refine divJ (by decide) ?_ | refine divI (by decide) ?_)
            try change _ ∧ _
            refine ⟨rfl, o17f _ _, Or.inr ⟨4, ps b n i, X.fl (by decide), fun W => qGo.one ?_⟩⟩
            rw [q0]
            unfold qB
            rw [if_pos c4, if_pos (by omega)]
        · rw [decide_eq_false c4, bI_f] at r6
          repeat (first | (refine W1 rfl ?_; try refine Wp.norm (L' := [_, _, _, _, _]) rfl ?_) | ((first | change (_ → _) ∧ (_ → _) | change vp_in _ _ ∧ _ | change ¬ _ ∧ _); simp (disch := omega) only [nI_clamp, nI_leI, nI_ltI, nI_eq, nI_1, nI_add, nI_not_neg, nI_is_pos, nI_m1, nI_z, show (4 : Int32) = nI 4 from rfl, show (5 : Int32) = nI 5 from rfl]) | refine brT (by first | assumption | decide | omega) ?_ | refine brF (by first | assumption | decide | omega) ?_ | refine brTn (by first | assumption | decide | omega) ?_ | refine brFn (by first | assumption | decide | omega) ?_ | refine And.intro (vp_in_nI (by omega) (by decide)) ?_ | refine And.intro (vp_lit (by decide)) ?_ | refine divJ (by decide) ?_ | refine divI (by decide) ?_)
          try change _ ∧ _
          refine Cl.of r6 (by omega) ?_
          repeat (first | (refine W1 rfl ?_; try refine Wp.norm (L' := [_, _, _, _, _]) rfl ?_) | ((first | change (_ → _) ∧ (_ → _) | change vp_in _ _ ∧ _ | change ¬ _ ∧ _); simp (disch := omega) only [nI_clamp, nI_leI, nI_ltI, nI_eq, nI_1, nI_add, nI_not_neg, nI_is_pos, nI_m1, nI_z]) | refine brT (by first | assumption | decide | omega) ?_ | refine brF (by first | assumption | decide | omega) ?_ | refine brTn (by first | assumption | decide | omega) ?_ | refine brFn (by first | assumption | decide | omega) ?_ | refine And.intro (vp_in_nI (by omega) (by decide)) ?_ | refine And.intro (vp_lit (by decide)) ?_ | refine divJ (by decide) ?_ | refine divI (by decide) ?_)
          try change _ ∧ _
          refine Cl.of (r_fail0 _ _ f0) (by omega) ?_
          repeat (first | (refine W1 rfl ?_; try refine Wp.norm (L' := [_, _, _, _, _]) rfl ?_) | ((first | change (_ → _) ∧ (_ → _) | change vp_in _ _ ∧ _ | change ¬ _ ∧ _); simp (disch := omega) only [nI_clamp, nI_leI, nI_ltI, nI_eq, nI_1, nI_add, nI_not_neg, nI_is_pos, nI_m1, nI_z]) | refine brT (by first | assumption | decide | omega) ?_ | refine brF (by first | assumption | decide | omega) ?_ | refine brTn (by first | assumption | decide | omega) ?_ | refine brFn (by first | assumption | decide | omega) ?_ | refine And.intro (vp_in_nI (by omega) (by decide)) ?_ | refine And.intro (vp_lit (by decide)) ?_ | refine divJ (by decide) ?_ | refine divI (by decide) ?_)
          try change _ ∧ _
          refine ⟨rfl, o17f _ _, Or.inr ⟨1, ps b n i, X.fl (by decide), fun W => qGo.one ?_⟩⟩
          rw [q0]
          unfold qB
          rw [if_neg c4, if_neg c1, if_neg c3, if_neg c2]
          rfl
end CSUM
