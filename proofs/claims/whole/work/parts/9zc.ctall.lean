/-! ===== TESTS ARE TRIED: the class, all of them ===== -/
theorem r_fill_23 (h : HP) (x : Int32) : ∃ h', Run 0 j_Arrays_fill [.ref 23, .int x] h none h' ∧ onlyJ [23] [] h h' ∧ ∀ i, i < 16 → h'.1 23 i = x := by
  obtain ⟨w, h', r, e, O, A⟩ := Run.ofP (d := 0) (j := j_Arrays_fill) (as := [.ref 23, .int x]) (h := h) (P := fun w h' => w = none ∧ onlyJ [23] [] h h' ∧ ∀ i, i < 16 → h'.1 23 i = x) rfl (by
    have lp : ∀ n, n ≤ 16 → ∀ h', onlyJ [23] [] h h' → (∀ i, i < n → h'.1 23 i = x) → Wp 0 j_Arrays_fill 5 [.ref 23, .int x, .int (nI n), .int (nI 16)] [] h' (fun w h' => w = none ∧ onlyJ [23] [] h h' ∧ ∀ i, i < 16 → h'.1 23 i = x) := by
      refine up_ind ?_ (fun n hn ih => ?_)
      · intro h' O A
        repeat (first | (refine W1 rfl ?_; try refine Wp.norm (L' := [_, _, _, _]) rfl ?_) | ((first | change (_ → _) ∧ (_ → _) | change vp_in _ _ ∧ _ | change ¬ _ ∧ _); simp (disch := omega) only [nI_clamp, nI_leI, nI_ltI, nI_eq, nI_1, nI_add, nI_not_neg, nI_is_pos, nI_m1, nI_z]) | refine brT (by first | assumption | decide | omega) ?_ | refine brF (by first | assumption | decide | omega) ?_ | refine brTn (by first | assumption | decide | omega) ?_ | refine brFn (by first | assumption | decide | omega) ?_ | refine And.intro (vp_in_nI (by omega) (by decide)) ?_ | refine And.intro (vp_lit (by decide)) ?_ | refine divJ (by decide) ?_ | refine divI (by decide) ?_)
        try change _ ∧ _
        exact ⟨rfl, O, A⟩
      · intro h' O A
        have ih := ih (wI h' 23 n x) (O.addI (by decide)) (fun i hi => by
          by_cases e : i = n
          · rw [e, wI_same]
          · rw [wI_ne2 _ _ e]; exact A i (by omega))
        (refine W1 rfl ?_; try refine Wp.norm (L' := [_, _, _, _]) rfl ?_)
        repeat (first | refine Wp.at ih rfl rfl ?_ ?_ | (refine W1 rfl ?_; try refine Wp.norm (L' := [_, _, _, _]) rfl ?_) | ((first | change (_ → _) ∧ (_ → _) | change vp_in _ _ ∧ _ | change ¬ _ ∧ _); simp (disch := omega) only [nI_clamp, nI_leI, nI_ltI, nI_eq, nI_1, nI_add, nI_not_neg, nI_is_pos, nI_m1, nI_z]) | refine brT (by first | assumption | decide | omega) ?_ | refine brF (by first | assumption | decide | omega) ?_ | refine brTn (by first | assumption | decide | omega) ?_ | refine brFn (by first | assumption | decide | omega) ?_ | refine And.intro (vp_in_nI (by omega) (by decide)) ?_ | refine And.intro (vp_lit (by decide)) ?_ | refine divJ (by decide) ?_ | refine divI (by decide) ?_)
        try change _ ∧ _
        · first | done | rfl | (simp (disch := omega) only [nI_1, nI_add, nI_clamp] <;> first | done | rfl)
        · first | done | rfl | (simp (disch := omega) only [nI_1, nI_add, nI_clamp] <;> first | done | rfl)
    have ih := lp 0 (Nat.zero_le _) h (onlyJ.rfl _ _ h) (fun i hi => absurd hi (by omega))
    refine Wp.norm (L' := [_, _, _, _]) rfl ?_
    repeat (first | refine Wp.at ih rfl rfl ?_ rfl | (refine W1 rfl ?_; try refine Wp.norm (L' := [_, _, _, _]) rfl ?_) | ((first | change (_ → _) ∧ (_ → _) | change vp_in _ _ ∧ _ | change ¬ _ ∧ _); simp (disch := omega) only [nI_clamp, nI_leI, nI_ltI, nI_eq, nI_1, nI_add, nI_not_neg, nI_is_pos, nI_m1, nI_z]) | refine brT (by first | assumption | decide | omega) ?_ | refine brF (by first | assumption | decide | omega) ?_ | refine brTn (by first | assumption | decide | omega) ?_ | refine brFn (by first | assumption | decide | omega) ?_ | refine And.intro (vp_in_nI (by omega) (by decide)) ?_ | refine And.intro (vp_lit (by decide)) ?_ | refine divJ (by decide) ?_ | refine divI (by decide) ?_)
    try change _ ∧ _
    first | done | rfl | (simp (disch := omega) only [nI_1, nI_add, nI_clamp] <;> first | done | rfl))
  subst e
  exact ⟨h', r, O, A⟩
theorem r_fill_24 (h : HP) (x : Int32) : ∃ h', Run 0 j_Arrays_fill [.ref 24, .int x] h none h' ∧ onlyJ [24] [] h h' ∧ ∀ i, i < 16 → h'.1 24 i = x := by
  obtain ⟨w, h', r, e, O, A⟩ := Run.ofP (d := 0) (j := j_Arrays_fill) (as := [.ref 24, .int x]) (h := h) (P := fun w h' => w = none ∧ onlyJ [24] [] h h' ∧ ∀ i, i < 16 → h'.1 24 i = x) rfl (by
    have lp : ∀ n, n ≤ 16 → ∀ h', onlyJ [24] [] h h' → (∀ i, i < n → h'.1 24 i = x) → Wp 0 j_Arrays_fill 5 [.ref 24, .int x, .int (nI n), .int (nI 16)] [] h' (fun w h' => w = none ∧ onlyJ [24] [] h h' ∧ ∀ i, i < 16 → h'.1 24 i = x) := by
      refine up_ind ?_ (fun n hn ih => ?_)
      · intro h' O A
        repeat (first | (refine W1 rfl ?_; try refine Wp.norm (L' := [_, _, _, _]) rfl ?_) | ((first | change (_ → _) ∧ (_ → _) | change vp_in _ _ ∧ _ | change ¬ _ ∧ _); simp (disch := omega) only [nI_clamp, nI_leI, nI_ltI, nI_eq, nI_1, nI_add, nI_not_neg, nI_is_pos, nI_m1, nI_z]) | refine brT (by first | assumption | decide | omega) ?_ | refine brF (by first | assumption | decide | omega) ?_ | refine brTn (by first | assumption | decide | omega) ?_ | refine brFn (by first | assumption | decide | omega) ?_ | refine And.intro (vp_in_nI (by omega) (by decide)) ?_ | refine And.intro (vp_lit (by decide)) ?_ | refine divJ (by decide) ?_ | refine divI (by decide) ?_)
        try change _ ∧ _
        exact ⟨rfl, O, A⟩
      · intro h' O A
        have ih := ih (wI h' 24 n x) (O.addI (by decide)) (fun i hi => by
          by_cases e : i = n
          · rw [e, wI_same]
          · rw [wI_ne2 _ _ e]; exact A i (by omega))
        (refine W1 rfl ?_; try refine Wp.norm (L' := [_, _, _, _]) rfl ?_)
        repeat (first | refine Wp.at ih rfl rfl ?_ ?_ | (refine W1 rfl ?_; try refine Wp.norm (L' := [_, _, _, _]) rfl ?_) | ((first | change (_ → _) ∧ (_ → _) | change vp_in _ _ ∧ _ | change ¬ _ ∧ _); simp (disch := omega) only [nI_clamp, nI_leI, nI_ltI, nI_eq, nI_1, nI_add, nI_not_neg, nI_is_pos, nI_m1, nI_z]) | refine brT (by first | assumption | decide | omega) ?_ | refine brF (by first | assumption | decide | omega) ?_ | refine brTn (by first | assumption | decide | omega) ?_ | refine brFn (by first | assumption | decide | omega) ?_ | refine And.intro (vp_in_nI (by omega) (by decide)) ?_ | refine And.intro (vp_lit (by decide)) ?_ | refine divJ (by decide) ?_ | refine divI (by decide) ?_)
        try change _ ∧ _
        · first | done | rfl | (simp (disch := omega) only [nI_1, nI_add, nI_clamp] <;> first | done | rfl)
        · first | done | rfl | (simp (disch := omega) only [nI_1, nI_add, nI_clamp] <;> first | done | rfl)
    have ih := lp 0 (Nat.zero_le _) h (onlyJ.rfl _ _ h) (fun i hi => absurd hi (by omega))
    refine Wp.norm (L' := [_, _, _, _]) rfl ?_
    repeat (first | refine Wp.at ih rfl rfl ?_ rfl | (refine W1 rfl ?_; try refine Wp.norm (L' := [_, _, _, _]) rfl ?_) | ((first | change (_ → _) ∧ (_ → _) | change vp_in _ _ ∧ _ | change ¬ _ ∧ _); simp (disch := omega) only [nI_clamp, nI_leI, nI_ltI, nI_eq, nI_1, nI_add, nI_not_neg, nI_is_pos, nI_m1, nI_z]) | refine brT (by first | assumption | decide | omega) ?_ | refine brF (by first | assumption | decide | omega) ?_ | refine brTn (by first | assumption | decide | omega) ?_ | refine brFn (by first | assumption | decide | omega) ?_ | refine And.intro (vp_in_nI (by omega) (by decide)) ?_ | refine And.intro (vp_lit (by decide)) ?_ | refine divJ (by decide) ?_ | refine divI (by decide) ?_)
    try change _ ∧ _
    first | done | rfl | (simp (disch := omega) only [nI_1, nI_add, nI_clamp] <;> first | done | rfl))
  subst e
  exact ⟨h', r, O, A⟩
theorem r_fill_27 (h : HP) (x : Int32) : ∃ h', Run 0 j_Arrays_fill [.ref 27, .int x] h none h' ∧ onlyJ [27] [] h h' ∧ ∀ i, i < 36 → h'.1 27 i = x := by
  obtain ⟨w, h', r, e, O, A⟩ := Run.ofP (d := 0) (j := j_Arrays_fill) (as := [.ref 27, .int x]) (h := h) (P := fun w h' => w = none ∧ onlyJ [27] [] h h' ∧ ∀ i, i < 36 → h'.1 27 i = x) rfl (by
    have lp : ∀ n, n ≤ 36 → ∀ h', onlyJ [27] [] h h' → (∀ i, i < n → h'.1 27 i = x) → Wp 0 j_Arrays_fill 5 [.ref 27, .int x, .int (nI n), .int (nI 36)] [] h' (fun w h' => w = none ∧ onlyJ [27] [] h h' ∧ ∀ i, i < 36 → h'.1 27 i = x) := by
      refine up_ind ?_ (fun n hn ih => ?_)
      · intro h' O A
        repeat (first | (refine W1 rfl ?_; try refine Wp.norm (L' := [_, _, _, _]) rfl ?_) | ((first | change (_ → _) ∧ (_ → _) | change vp_in _ _ ∧ _ | change ¬ _ ∧ _); simp (disch := omega) only [nI_clamp, nI_leI, nI_ltI, nI_eq, nI_1, nI_add, nI_not_neg, nI_is_pos, nI_m1, nI_z]) | refine brT (by first | assumption | decide | omega) ?_ | refine brF (by first | assumption | decide | omega) ?_ | refine brTn (by first | assumption | decide | omega) ?_ | refine brFn (by first | assumption | decide | omega) ?_ | refine And.intro (vp_in_nI (by omega) (by decide)) ?_ | refine And.intro (vp_lit (by decide)) ?_ | refine divJ (by decide) ?_ | refine divI (by decide) ?_)
        try change _ ∧ _
        exact ⟨rfl, O, A⟩
      · intro h' O A
        have ih := ih (wI h' 27 n x) (O.addI (by decide)) (fun i hi => by
          by_cases e : i = n
          · rw [e, wI_same]
          · rw [wI_ne2 _ _ e]; exact A i (by omega))
        (refine W1 rfl ?_; try refine Wp.norm (L' := [_, _, _, _]) rfl ?_)
        repeat (first | refine Wp.at ih rfl rfl ?_ ?_ | (refine W1 rfl ?_; try refine Wp.norm (L' := [_, _, _, _]) rfl ?_) | ((first | change (_ → _) ∧ (_ → _) | change vp_in _ _ ∧ _ | change ¬ _ ∧ _); simp (disch := omega) only [nI_clamp, nI_leI, nI_ltI, nI_eq, nI_1, nI_add, nI_not_neg, nI_is_pos, nI_m1, nI_z]) | refine brT (by first | assumption | decide | omega) ?_ | refine brF (by first | assumption | decide | omega) ?_ | refine brTn (by first | assumption | decide | omega) ?_ | refine brFn (by first | assumption | decide | omega) ?_ | refine And.intro (vp_in_nI (by omega) (by decide)) ?_ | refine And.intro (vp_lit (by decide)) ?_ | refine divJ (by decide) ?_ | refine divI (by decide) ?_)
        try change _ ∧ _
        · first | done | rfl | (simp (disch := omega) only [nI_1, nI_add, nI_clamp] <;> first | done | rfl)
        · first | done | rfl | (simp (disch := omega) only [nI_1, nI_add, nI_clamp] <;> first | done | rfl)
    have ih := lp 0 (Nat.zero_le _) h (onlyJ.rfl _ _ h) (fun i hi => absurd hi (by omega))
    refine Wp.norm (L' := [_, _, _, _]) rfl ?_
    repeat (first | refine Wp.at ih rfl rfl ?_ rfl | (refine W1 rfl ?_; try refine Wp.norm (L' := [_, _, _, _]) rfl ?_) | ((first | change (_ → _) ∧ (_ → _) | change vp_in _ _ ∧ _ | change ¬ _ ∧ _); simp (disch := omega) only [nI_clamp, nI_leI, nI_ltI, nI_eq, nI_1, nI_add, nI_not_neg, nI_is_pos, nI_m1, nI_z]) | refine brT (by first | assumption | decide | omega) ?_ | refine brF (by first | assumption | decide | omega) ?_ | refine brTn (by first | assumption | decide | omega) ?_ | refine brFn (by first | assumption | decide | omega) ?_ | refine And.intro (vp_in_nI (by omega) (by decide)) ?_ | refine And.intro (vp_lit (by decide)) ?_ | refine divJ (by decide) ?_ | refine divI (by decide) ?_)
    try change _ ∧ _
    first | done | rfl | (simp (disch := omega) only [nI_1, nI_add, nI_clamp] <;> first | done | rfl))
  subst e
  exact ⟨h', r, O, A⟩
theorem r_fill_33 (h : HP) (x : Int32) : ∃ h', Run 0 j_Arrays_fill [.ref 33, .int x] h none h' ∧ onlyJ [33] [] h h' ∧ ∀ i, i < 420 → h'.1 33 i = x := by
  obtain ⟨w, h', r, e, O, A⟩ := Run.ofP (d := 0) (j := j_Arrays_fill) (as := [.ref 33, .int x]) (h := h) (P := fun w h' => w = none ∧ onlyJ [33] [] h h' ∧ ∀ i, i < 420 → h'.1 33 i = x) rfl (by
    have lp : ∀ n, n ≤ 420 → ∀ h', onlyJ [33] [] h h' → (∀ i, i < n → h'.1 33 i = x) → Wp 0 j_Arrays_fill 5 [.ref 33, .int x, .int (nI n), .int (nI 420)] [] h' (fun w h' => w = none ∧ onlyJ [33] [] h h' ∧ ∀ i, i < 420 → h'.1 33 i = x) := by
      refine up_ind ?_ (fun n hn ih => ?_)
      · intro h' O A
        repeat (first | (refine W1 rfl ?_; try refine Wp.norm (L' := [_, _, _, _]) rfl ?_) | ((first | change (_ → _) ∧ (_ → _) | change vp_in _ _ ∧ _ | change ¬ _ ∧ _); simp (disch := omega) only [nI_clamp, nI_leI, nI_ltI, nI_eq, nI_1, nI_add, nI_not_neg, nI_is_pos, nI_m1, nI_z]) | refine brT (by first | assumption | decide | omega) ?_ | refine brF (by first | assumption | decide | omega) ?_ | refine brTn (by first | assumption | decide | omega) ?_ | refine brFn (by first | assumption | decide | omega) ?_ | refine And.intro (vp_in_nI (by omega) (by decide)) ?_ | refine And.intro (vp_lit (by decide)) ?_ | refine divJ (by decide) ?_ | refine divI (by decide) ?_)
        try change _ ∧ _
        exact ⟨rfl, O, A⟩
      · intro h' O A
        have ih := ih (wI h' 33 n x) (O.addI (by decide)) (fun i hi => by
          by_cases e : i = n
          · rw [e, wI_same]
          · rw [wI_ne2 _ _ e]; exact A i (by omega))
        (refine W1 rfl ?_; try refine Wp.norm (L' := [_, _, _, _]) rfl ?_)
        repeat (first | refine Wp.at ih rfl rfl ?_ ?_ | (refine W1 rfl ?_; try refine Wp.norm (L' := [_, _, _, _]) rfl ?_) | ((first | change (_ → _) ∧ (_ → _) | change vp_in _ _ ∧ _ | change ¬ _ ∧ _); simp (disch := omega) only [nI_clamp, nI_leI, nI_ltI, nI_eq, nI_1, nI_add, nI_not_neg, nI_is_pos, nI_m1, nI_z]) | refine brT (by first | assumption | decide | omega) ?_ | refine brF (by first | assumption | decide | omega) ?_ | refine brTn (by first | assumption | decide | omega) ?_ | refine brFn (by first | assumption | decide | omega) ?_ | refine And.intro (vp_in_nI (by omega) (by decide)) ?_ | refine And.intro (vp_lit (by decide)) ?_ | refine divJ (by decide) ?_ | refine divI (by decide) ?_)
        try change _ ∧ _
        · first | done | rfl | (simp (disch := omega) only [nI_1, nI_add, nI_clamp] <;> first | done | rfl)
        · first | done | rfl | (simp (disch := omega) only [nI_1, nI_add, nI_clamp] <;> first | done | rfl)
    have ih := lp 0 (Nat.zero_le _) h (onlyJ.rfl _ _ h) (fun i hi => absurd hi (by omega))
    refine Wp.norm (L' := [_, _, _, _]) rfl ?_
    repeat (first | refine Wp.at ih rfl rfl ?_ rfl | (refine W1 rfl ?_; try refine Wp.norm (L' := [_, _, _, _]) rfl ?_) | ((first | change (_ → _) ∧ (_ → _) | change vp_in _ _ ∧ _ | change ¬ _ ∧ _); simp (disch := omega) only [nI_clamp, nI_leI, nI_ltI, nI_eq, nI_1, nI_add, nI_not_neg, nI_is_pos, nI_m1, nI_z]) | refine brT (by first | assumption | decide | omega) ?_ | refine brF (by first | assumption | decide | omega) ?_ | refine brTn (by first | assumption | decide | omega) ?_ | refine brFn (by first | assumption | decide | omega) ?_ | refine And.intro (vp_in_nI (by omega) (by decide)) ?_ | refine And.intro (vp_lit (by decide)) ?_ | refine divJ (by decide) ?_ | refine divI (by decide) ?_)
    try change _ ∧ _
    first | done | rfl | (simp (disch := omega) only [nI_1, nI_add, nI_clamp] <;> first | done | rfl))
  subst e
  exact ⟨h', r, O, A⟩
def hdB (s : ST) (C : List Nat) (r d : Nat) : Bool := decide (evL (sgm C (s 26 r) (s 27 r)) d [] = [1])
theorem sgm_len {C : List Nat} {a e : Nat} (h : e ≤ C.length) : (sgm C a e).length = e - a := by
  unfold sgm
  rw [List.length_take, List.length_drop]
  omega
theorem sgm_get {C : List Nat} {a e q : Nat} (hq : q < e - a) : (sgm C a e).getD q 0 = C.getD (a + q) 0 := by
  rw [List.getD_eq_getElem?_getD, List.getD_eq_getElem?_getD]
  unfold sgm
  rw [List.getElem?_take_of_lt hq, List.getElem?_drop]
section CTA
variable {s : ST} {C : List Nat} {h h' : HP}
theorem c_isT {x d : Nat} (D : DC s h) (cc : CC C h) (j : J s C) (hx : x < s 0 7) (hd : d < 200) : ∃ w h', Run 3 j_Tests_isTrue [.ref 28, .int (nI x), .int (nI d)] h w h' ∧ (w = some (.int (bI (hdB s C (s 31 x) d))) ∧ onlyJ [34] [] h h') := by
  refine Run.ofP rfl ?_
  refine Wp.norm (L' := [_, _, _, _, _, _, _]) rfl ?_
  generalize hQQ : (fun (w : Option Value) (h' : HP) => w = some (.int (bI (hdB s C (s 31 x) d))) ∧ onlyJ [34] [] h h') = QQ
  have hX := j.1.1.1.1.2.2.2.2.1
  have hO := j.1.1.1.1.2.2.2.1
  obtain ⟨t1, t2, t3, t4⟩ := j.2.2
  obtain ⟨a1, a2, a3, a4, a5, a6⟩ := t1 x hx
  obtain ⟨b1, b2, b3, b4, b5, b6⟩ := t2 _ a1 a2
  have c9 := cc.1
  have hE : h.1 32 x = nI (s 27 (s 31 x)) := by rw [a6]; exact (D.2.2.2.2.2 x hx).2.2
  have go := fun st => c_isTrue (e := s 27 (s 31 x)) (Q := QQ) (h0 := h) hd (by omega) (by omega) (sgm C (s 26 (s 31 x)) (s 27 (s 31 x))) (s 26 (s 31 x)) [] [] h st .null (fun q hq => by
    rw [sgm_len b3] at hq
    rw [sgm_get hq]
    exact cc.2.2 _ (by omega)) (by rw [sgm_len b3]; omega) hE b4 trivial trivial (Nat.zero_le _) (onlyJ.rfl _ _ h) (fun g' O' => by rw [← hQQ]; exact ⟨rfl, O'⟩)
  by_cases c0 : x = 0
  · subst c0
    rw [if_pos rfl] at a5
    have ih := go 0
    rw [a5] at ih
    have ih : Wp 3 j_Tests_isTrue 24 [.ref 28, .int 0, .int (nI d), .int 0, .int 0, .int 0, .null] [] h QQ := ih
    show Wp 3 j_Tests_isTrue 0 [.ref 28, .int 0, .int (nI d), .null, .null, .null, .null] [] h QQ
    repeat (first | refine Wp.at ih rfl rfl ?_ rfl | (refine W1 rfl ?_; try refine Wp.norm (L' := [_, _, _, _, _, _, _]) rfl ?_) | ((first | change (_ → _) ∧ (_ → _) | change vp_in _ _ ∧ _ | change ¬ _ ∧ _); simp (disch := omega) only [nI_clamp, nI_leI, nI_ltI, nI_eq, nI_1, nI_add, nI_not_neg, nI_is_pos, nI_m1, nI_z]) | refine brT (by first | assumption | decide | omega) ?_ | refine brF (by first | assumption | decide | omega) ?_ | refine brTn (by first | assumption | decide | omega) ?_ | refine brFn (by first | assumption | decide | omega) ?_ | refine And.intro (vp_in_nI (by omega) (by decide)) ?_ | refine And.intro (vp_lit (by decide)) ?_ | refine divJ (by decide) ?_ | refine divI (by decide) ?_)
    try change _ ∧ _
    first | done | rfl | (simp (disch := omega) only [nI_1, nI_add, nI_clamp] <;> first | done | rfl)
  · rw [if_neg c0] at a5
    have e1 : h.1 32 (x - 1) = nI (s 30 (x - 1)) := (D.2.2.2.2.2 (x - 1) (by omega)).2.2
    have ih := go (nI (s 30 (x - 1)))
    rw [a5] at ih
    have ih : Wp 3 j_Tests_isTrue 24 [.ref 28, .int (nI x), .int (nI d), .int 0, .int (nI (s 30 (x - 1))), .int (nI (s 30 (x - 1))), .null] [] h QQ := ih
    have e2 : nI x - 1 = nI (x - 1) := by rw [show (1 : Int32) = nI 1 from rfl, nI_subN (by omega)]
    have e3 : ¬ nI x = 0 := fun z => c0 ((nI_z (by omega)).mp z)
    show Wp 3 j_Tests_isTrue 0 [.ref 28, .int (nI x), .int (nI d), .null, .null, .null, .null] [] h QQ
    repeat (first | refine Wp.at ih rfl rfl ?_ rfl | (refine W1 rfl ?_; try refine Wp.norm (L' := [_, _, _, _, _, _, _]) rfl ?_) | ((first | change (_ → _) ∧ (_ → _) | change vp_in _ _ ∧ _ | change ¬ _ ∧ _); simp (disch := omega) only [nI_clamp, nI_leI, nI_ltI, nI_eq, nI_1, nI_add, nI_not_neg, nI_is_pos, nI_m1, nI_z, e1, e2]) | refine brT (by first | assumption | decide | omega) ?_ | refine brF (by first | assumption | decide | omega) ?_ | refine brTn (by first | assumption | decide | omega) ?_ | refine brFn (by first | assumption | decide | omega) ?_ | refine And.intro (vp_in_nI (by omega) (by decide)) ?_ | refine And.intro (vp_lit (by decide)) ?_ | refine divJ (by decide) ?_ | refine divI (by decide) ?_)
    try change _ ∧ _
    first | done | rfl | (simp (disch := omega) only [nI_1, nI_add, nI_clamp, e1, e2] <;> first | done | rfl)
/-- the table of truths -/
def TRp (P : Nat → Nat → Bool) (s : ST) (C : List Nat) (h : HP) : Prop := ∀ x w k, x < 60 → w < 7 → k < 32 → bt (h.1 33 (x * 7 + w)) k = (P x (32 * w + k) && hdB s C (s 31 x) (32 * w + k))
def tC (s : ST) (C : List Nat) (x m : Nat) : Nat := sm (fun d => if s 28 x = 99 ∧ hdB s C (s 31 x) d = true then 1 else 0) m
theorem tC_le (s : ST) (C : List Nat) (x : Nat) : ∀ m, tC s C x m ≤ m
  | 0 => Nat.le_refl 0
  | m + 1 => by
    have := tC_le s C x m
    show tC s C x m + (if _ then 1 else 0) ≤ m + 1
    split <;> omega
theorem tT_le (s : ST) (C : List Nat) (m : Nat) : ∀ X, sm (fun x => tC s C x m) X ≤ X * m
  | 0 => by rw [Nat.zero_mul]; exact Nat.le_refl 0
  | X + 1 => by
    have := tT_le s C m X
    have := tC_le s C X m
    show sm (fun x => tC s C x m) X + tC s C X m ≤ (X + 1) * m
    rw [Nat.succ_mul]
    omega
theorem DC.o {K : List Nat} (D : DC s h) (O : onlyJ K [] h h') (hK : ∀ k, k ∈ K → k = 33 ∨ k = 34) : DC s h' := by
  have e : ∀ k i, 18 ≤ k → k < 33 → h'.1 k i = h.1 k i := fun k i h1 h2 => O.1 k i (fun z => by have := hK k z; omega)
  obtain ⟨d1, d7, d8, d9, d10, d11⟩ := D
  refine ⟨?_, fun p hp => ?_, fun p hp => ?_, fun p hp => ?_, fun p hp => ?_, fun p hp => ?_⟩
  · rw [e 18 _ (by decide) (by decide), e 18 _ (by decide) (by decide), e 18 _ (by decide) (by decide), e 18 _ (by decide) (by decide), e 18 _ (by decide) (by decide), e 28 _ (by decide) (by decide)]; exact d1
  · rw [e 19 _ (by decide) (by decide), e 20 _ (by decide) (by decide), e 21 _ (by decide) (by decide), e 22 _ (by decide) (by decide)]; exact d7 p hp
  · rw [e 23 _ (by decide) (by decide), e 24 _ (by decide) (by decide)]; exact d8 p hp
  · rw [e 25 _ (by decide) (by decide), e 26 _ (by decide) (by decide)]; exact d9 p hp
  · rw [e 27 _ (by decide) (by decide)]; exact d10 p hp
  · rw [e 30 _ (by decide) (by decide), e 31 _ (by decide) (by decide), e 32 _ (by decide) (by decide)]; exact d11 p hp
theorem CC.o {K : List Nat} (c : CC C h) (O : onlyJ K [] h h') (hK : ∀ k, k ∈ K → k = 33 ∨ k = 34) : CC C h' := by
  have e : ∀ k i, 18 ≤ k → k < 33 → h'.1 k i = h.1 k i := fun k i h1 h2 => O.1 k i (fun z => by have := hK k z; omega)
  refine ⟨c.1, ?_, fun k hk => ?_⟩
  · rw [e 28 _ (by decide) (by decide)]; exact c.2.1
  · rw [e 29 _ (by decide) (by decide)]; exact c.2.2 k hk
theorem n32 {d : Nat} (hd : d < 200) : nI d / 32 = nI (d / 32) ∧ nI d - nI (d / 32) * 32 = nI (d % 32) := by
  have e1 : nI d / 32 = nI (d / 32) := by rw [show (32 : Int32) = nI 32 from rfl, pk_div (by omega) (by decide) (by decide)]
  refine ⟨e1, ?_⟩
  rw [show (32 : Int32) = nI 32 from rfl, pk_mul, nI_subN (by omega)]
  congr 1
  omega
def pr (s : ST) (n m x d : Nat) : Bool := decide ((x < n ∧ d < zD s) ∨ (x = n ∧ d < m))
theorem TRp.set {n m : Nat} (T : TRp (pr s n m) s C h) (hn : n < 60) (hm : m < 200) (hb : hdB s C (s 31 n) m = true) : TRp (pr s n (m + 1)) s C (wI h 33 (n * 7 + m / 32) (h.1 33 (n * 7 + m / 32) ||| (1 <<< (nI (m % 32) &&& 31)))) := by
  intro x w k hx hw hk
  have t := T x w k hx hw hk
  have hpr : pr s n (m + 1) x (32 * w + k) = (pr s n m x (32 * w + k) || decide (x = n ∧ 32 * w + k = m)) := by
    unfold pr
    rw [← Bool.decide_or]
    congr 1
    apply propext
    omega
  by_cases e : x * 7 + w = n * 7 + m / 32
  · have e1 : x = n ∧ w = m / 32 := by omega
    rw [e, wI_same, bt_or, bt_shl (by omega) hk, ← e, t, hpr]
    by_cases c : k = m % 32
    · have c2 : 32 * w + k = m := by omega
      rw [c2, e1.1, hb]
      simp [c]
    · have c2 : ¬ 32 * w + k = m := by omega
      simp [c, c2]
  · rw [wI_ne2 _ _ e, t, hpr]
    have c2 : ¬ (x = n ∧ 32 * w + k = m) := fun z => e (by omega)
    simp [c2]
theorem TRp.skip {n m : Nat} (T : TRp (pr s n m) s C h) (hb : hdB s C (s 31 n) m = false) : TRp (pr s n (m + 1)) s C h := by
  intro x w k hx hw hk
  rw [T x w k hx hw hk]
  have hpr : pr s n (m + 1) x (32 * w + k) = (pr s n m x (32 * w + k) || decide (x = n ∧ 32 * w + k = m)) := by
    unfold pr
    rw [← Bool.decide_or]
    congr 1
    apply propext
    omega
  rw [hpr]
  by_cases c : x = n ∧ 32 * w + k = m
  · rw [c.1, c.2, hb]; simp
  · simp [c]
theorem TRp.next {n : Nat} (T : TRp (pr s n (zD s)) s C h) : TRp (pr s (n + 1) 0) s C h := by
  intro x w k hx hw hk
  rw [T x w k hx hw hk]
  congr 1
  unfold pr
  congr 1
  apply propext
  omega
theorem TRp.o {P : Nat → Nat → Bool} (T : TRp P s C h) (O : onlyJ [34] [] h h') : TRp P s C h' := by
  intro x w k hx hw hk
  rw [O.1 33 _ (by decide)]
  exact T x w k hx hw hk
theorem c_tryAll (D : DC s h) (cc : CC C h) (j : J s C) : ∃ w h', Run 4 j_Tests_tryAll [.ref 28, .int (nI (zD s))] h w h' ∧ (w = some (.int (nI (sm (fun x => tC s C x (zD s)) (s 0 7)))) ∧ onlyJ [33, 34] [] h h' ∧ TRp (pr s (s 0 7) 0) s C h') := by
  refine Run.ofP rfl ?_
  refine Wp.norm (L' := [_, _, _, _, _]) rfl ?_
  generalize hQQ : (fun (w : Option Value) (h' : HP) => w = some (.int (nI (sm (fun x => tC s C x (zD s)) (s 0 7)))) ∧ onlyJ [33, 34] [] h h' ∧ TRp (pr s (s 0 7) 0) s C h') = QQ
  have hX := j.1.1.1.1.2.2.2.2.1
  have hO := j.1.1.1.1.2.2.2.1
  have hD := j.1.1.1.1.2.2.2.2.2.2
  have hK : ∀ k, k ∈ [33, 34] → k = 33 ∨ k = 34 := fun k hk => by simp at hk; omega
  obtain ⟨h1, r1, O1, A1⟩ := r_fill_33 h 0
  have O1' : onlyJ [33, 34] [] h h1 := O1.mono (fun k hk => by simp at hk; simp [hk]) (fun k hk => hk)
  have T0 : TRp (pr s 0 0) s C h1 := fun x w k hx hw hk => by
    rw [A1 _ (by omega), bt_zero]
    unfold pr
    rw [decide_eq_false (by omega)]
    rfl
  have lp : ∀ m, m ≤ s 0 7 → ∀ g y, onlyJ [33, 34] [] h g → TRp (pr s m 0) s C g → Wp 4 j_Tests_tryAll 12 [.ref 28, .int (nI (zD s)), .int (nI (sm (fun x => tC s C x (zD s)) m)), .int (nI m), y] [] g QQ := by
    refine up_ind ?_ (fun m hm ih => ?_)
    · intro g y O T
      have eX := (D.o O hK).1.2.2.2.2.2
      show Wp 4 j_Tests_tryAll _ _ _ _ _
      repeat (first | (refine W1 rfl ?_; try refine Wp.norm (L' := [_, _, _, _, _]) rfl ?_) | ((first | change (_ → _) ∧ (_ → _) | change vp_in _ _ ∧ _ | change ¬ _ ∧ _); simp (disch := omega) only [nI_clamp, nI_leI, nI_ltI, nI_eq, nI_1, nI_add, nI_not_neg, nI_is_pos, nI_m1, nI_z, eX]) | refine brT (by first | assumption | decide | omega) ?_ | refine brF (by first | assumption | decide | omega) ?_ | refine brTn (by first | assumption | decide | omega) ?_ | refine brFn (by first | assumption | decide | omega) ?_ | refine And.intro (vp_in_nI (by omega) (by decide)) ?_ | refine And.intro (vp_lit (by decide)) ?_ | refine divJ (by decide) ?_ | refine divI (by decide) ?_)
      try change _ ∧ _
      rw [← hQQ]
      exact ⟨rfl, O, T⟩
    · intro g y O T
      have ihn := ih
      clear ih
      have hsm : sm (fun x => tC s C x (zD s)) (m + 1) = sm (fun x => tC s C x (zD s)) m + tC s C m (zD s) := rfl
      have b1 := tT_le s C (zD s) m
      have b1' : m * zD s ≤ 60 * 200 := Nat.mul_le_mul (by omega) hD
      generalize sm (fun x => tC s C x (zD s)) m = acc at *
      have inner : ∀ q, q ≤ zD s → ∀ g, onlyJ [33, 34] [] h g → TRp (pr s m q) s C g → Wp 4 j_Tests_tryAll 23 [.ref 28, .int (nI (zD s)), .int (nI (acc + tC s C m q)), .int (nI m), .int (nI q)] [] g QQ := by
        refine up_ind ?_ (fun q hq ih => ?_)
        · intro g O T
          have ih := ihn g (.int (nI (zD s))) O T.next
          rw [hsm] at ih
          have b2 := tC_le s C m (zD s)
          show Wp 4 j_Tests_tryAll _ _ _ _ _
          repeat (first | refine Wp.at ih rfl rfl ?_ rfl | (refine W1 rfl ?_; try refine Wp.norm (L' := [_, _, _, _, _]) rfl ?_) | ((first | change (_ → _) ∧ (_ → _) | change vp_in _ _ ∧ _ | change ¬ _ ∧ _); simp (disch := omega) only [nI_clamp, nI_leI, nI_ltI, nI_eq, nI_1, nI_add, nI_not_neg, nI_is_pos, nI_m1, nI_z]) | refine brT (by first | assumption | decide | omega) ?_ | refine brF (by first | assumption | decide | omega) ?_ | refine brTn (by first | assumption | decide | omega) ?_ | refine brFn (by first | assumption | decide | omega) ?_ | refine And.intro (vp_in_nI (by omega) (by decide)) ?_ | refine And.intro (vp_lit (by decide)) ?_ | refine divJ (by decide) ?_ | refine divI (by decide) ?_)
          try change _ ∧ _
          first | done | rfl | (simp (disch := omega) only [nI_1, nI_add, nI_clamp] <;> first | done | rfl)
        · intro g O T
          have Dg := D.o O hK
          have b2 := tC_le s C m q
          obtain ⟨w2, g2, r2, rfl, O2⟩ := c_isT Dg (cc.o O hK) j hm (show q < 200 by omega)
          have O2' : onlyJ [33, 34] [] h g2 := O.trans (O2.mono (fun k hk => by simp at hk; simp [hk]) (fun k hk => hk))
          have T2 := T.o O2
          have D2 := D.o O2' hK
          have ep := (D2.2.2.2.2.2 m hm).1
          obtain ⟨e5, e6⟩ := n32 (d := q) (by omega)
          have e7 : nI m * 7 = nI (m * 7) := by rw [show (7 : Int32) = nI 7 from rfl, pk_mul]
          have hst : tC s C m (q + 1) = tC s C m q + (if s 28 m = 99 ∧ hdB s C (s 31 m) q = true then 1 else 0) := rfl
          cases hB : hdB s C (s 31 m) q with
          | false =>
            rw [hB, bI_f] at r2
            have ih := ih g2 O2' (T2.skip hB)
            rw [hst, if_neg (fun z => by rw [hB] at z; exact absurd z.2 (by decide)), Nat.add_zero] at ih
            show Wp 4 j_Tests_tryAll _ _ _ _ _
            (refine W1 rfl ?_; try refine Wp.norm (L' := [_, _, _, _, _]) rfl ?_)
            repeat (first | (refine W1 rfl ?_; try refine Wp.norm (L' := [_, _, _, _, _]) rfl ?_) | ((first | change (_ → _) ∧ (_ → _) | change vp_in _ _ ∧ _ | change ¬ _ ∧ _); simp (disch := omega) only [nI_clamp, nI_leI, nI_ltI, nI_eq, nI_1, nI_add, nI_not_neg, nI_is_pos, nI_m1, nI_z, show (200 : Int32) = nI 200 from rfl]) | refine brT (by first | assumption | decide | omega) ?_ | refine brF (by first | assumption | decide | omega) ?_ | refine brTn (by first | assumption | decide | omega) ?_ | refine brFn (by first | assumption | decide | omega) ?_ | refine And.intro (vp_in_nI (by omega) (by decide)) ?_ | refine And.intro (vp_lit (by decide)) ?_ | refine divJ (by decide) ?_ | refine divI (by decide) ?_)
            try change _ ∧ _
            refine Cl.of r2 (by decide) ?_
            repeat (first | refine Wp.at ih rfl rfl ?_ rfl | (refine W1 rfl ?_; try refine Wp.norm (L' := [_, _, _, _, _]) rfl ?_) | ((first | change (_ → _) ∧ (_ → _) | change vp_in _ _ ∧ _ | change ¬ _ ∧ _); simp (disch := omega) only [nI_clamp, nI_leI, nI_ltI, nI_eq, nI_1, nI_add, nI_not_neg, nI_is_pos, nI_m1, nI_z]) | refine brT (by first | assumption | decide | omega) ?_ | refine brF (by first | assumption | decide | omega) ?_ | refine brTn (by first | assumption | decide | omega) ?_ | refine brFn (by first | assumption | decide | omega) ?_ | refine And.intro (vp_in_nI (by omega) (by decide)) ?_ | refine And.intro (vp_lit (by decide)) ?_ | refine divJ (by decide) ?_ | refine divI (by decide) ?_)
            try change _ ∧ _
            first | done | rfl | (simp (disch := omega) only [nI_1, nI_add, nI_clamp] <;> first | done | rfl)
          | true =>
            rw [hB, bI_t] at r2
            have T3 := T2.set (by omega) (by omega) hB
            have ih := ih _ (O2'.addI (by decide)) T3
            rw [hst] at ih
            by_cases c99 : s 28 m = 99
            · rw [if_pos c99] at ep
              rw [if_pos ⟨c99, hB⟩] at ih
              have ep' : ∀ (z : Int32), (wI g2 33 (m * 7 + q / 32) z).1 30 m = -1 := fun z => ep
              show Wp 4 j_Tests_tryAll _ _ _ _ _
              (refine W1 rfl ?_; try refine Wp.norm (L' := [_, _, _, _, _]) rfl ?_)
              repeat (first | (refine W1 rfl ?_; try refine Wp.norm (L' := [_, _, _, _, _]) rfl ?_) | ((first | change (_ → _) ∧ (_ → _) | change vp_in _ _ ∧ _ | change ¬ _ ∧ _); simp (disch := omega) only [nI_clamp, nI_leI, nI_ltI, nI_eq, nI_1, nI_add, nI_not_neg, nI_is_pos, nI_m1, nI_z, show (200 : Int32) = nI 200 from rfl]) | refine brT (by first | assumption | decide | omega) ?_ | refine brF (by first | assumption | decide | omega) ?_ | refine brTn (by first | assumption | decide | omega) ?_ | refine brFn (by first | assumption | decide | omega) ?_ | refine And.intro (vp_in_nI (by omega) (by decide)) ?_ | refine And.intro (vp_lit (by decide)) ?_ | refine divJ (by decide) ?_ | refine divI (by decide) ?_)
              try change _ ∧ _
              refine Cl.of r2 (by decide) ?_
              repeat (first | refine Wp.at ih rfl rfl ?_ ?_ | (refine W1 rfl ?_; try refine Wp.norm (L' := [_, _, _, _, _]) rfl ?_) | ((first | change (_ → _) ∧ (_ → _) | change vp_in _ _ ∧ _ | change ¬ _ ∧ _); simp (disch := omega) only [nI_clamp, nI_leI, nI_ltI, nI_eq, nI_1, nI_add, nI_not_neg, nI_is_pos, nI_m1, nI_z, e5, e6, e7, ep']) | refine brT (by first | assumption | decide | omega) ?_ | refine brF (by first | assumption | decide | omega) ?_ | refine brTn (by first | assumption | decide | omega) ?_ | refine brFn (by first | assumption | decide | omega) ?_ | refine And.intro (vp_in_nI (by omega) (by decide)) ?_ | refine And.intro (vp_lit (by decide)) ?_ | refine divJ (by decide) ?_ | refine divI (by decide) ?_)
              try change _ ∧ _
              · first | done | rfl | (simp (disch := omega) only [nI_1, nI_add, nI_clamp] <;> first | done | rfl)
              · first | done | rfl | (simp (disch := omega) only [nI_1, nI_add, nI_clamp, e5, e6, e7] <;> first | done | rfl)
            · rw [if_neg c99] at ep
              rw [if_neg (fun z => c99 z.1), Nat.add_zero] at ih
              obtain ⟨k1, k2, k3, k4, k5, k6⟩ := j.2.2.1 m hm
              have kb : s 28 m < 16 := by
                rw [k3] at c99 ⊢
                split at c99
                · exact absurd rfl c99
                · rename_i z
                  rw [if_neg z]
                  have := (j.2.1.2.2.2.2 _ k1).2.1
                  exact this
              have ep' : ∀ (z : Int32), (wI g2 33 (m * 7 + q / 32) z).1 30 m = nI (s 28 m) := fun z => ep
              show Wp 4 j_Tests_tryAll _ _ _ _ _
              (refine W1 rfl ?_; try refine Wp.norm (L' := [_, _, _, _, _]) rfl ?_)
              repeat (first | (refine W1 rfl ?_; try refine Wp.norm (L' := [_, _, _, _, _]) rfl ?_) | ((first | change (_ → _) ∧ (_ → _) | change vp_in _ _ ∧ _ | change ¬ _ ∧ _); simp (disch := omega) only [nI_clamp, nI_leI, nI_ltI, nI_eq, nI_1, nI_add, nI_not_neg, nI_is_pos, nI_m1, nI_z, show (200 : Int32) = nI 200 from rfl]) | refine brT (by first | assumption | decide | omega) ?_ | refine brF (by first | assumption | decide | omega) ?_ | refine brTn (by first | assumption | decide | omega) ?_ | refine brFn (by first | assumption | decide | omega) ?_ | refine And.intro (vp_in_nI (by omega) (by decide)) ?_ | refine And.intro (vp_lit (by decide)) ?_ | refine divJ (by decide) ?_ | refine divI (by decide) ?_)
              try change _ ∧ _
              refine Cl.of r2 (by decide) ?_
              repeat (first | refine Wp.at ih rfl rfl ?_ ?_ | (refine W1 rfl ?_; try refine Wp.norm (L' := [_, _, _, _, _]) rfl ?_) | ((first | change (_ → _) ∧ (_ → _) | change vp_in _ _ ∧ _ | change ¬ _ ∧ _); simp (disch := omega) only [nI_clamp, nI_leI, nI_ltI, nI_eq, nI_1, nI_add, nI_not_neg, nI_is_pos, nI_m1, nI_z, e5, e6, e7, ep']) | refine brT (by first | assumption | decide | omega) ?_ | refine brF (by first | assumption | decide | omega) ?_ | refine brTn (by first | assumption | decide | omega) ?_ | refine brFn (by first | assumption | decide | omega) ?_ | refine And.intro (vp_in_nI (by omega) (by decide)) ?_ | refine And.intro (vp_lit (by decide)) ?_ | refine divJ (by decide) ?_ | refine divI (by decide) ?_)
              try change _ ∧ _
              · first | done | rfl | (simp (disch := omega) only [nI_1, nI_add, nI_clamp, Int32.add_zero] <;> first | done | rfl)
              · first | done | rfl | (simp (disch := omega) only [nI_1, nI_add, nI_clamp, e5, e6, e7] <;> first | done | rfl)
      have eX := (D.o O hK).1.2.2.2.2.2
      have ih := inner 0 (Nat.zero_le _) g O T
      rw [show tC s C m 0 = 0 from rfl, Nat.add_zero] at ih
      show Wp 4 j_Tests_tryAll _ _ _ _ _
      (refine W1 rfl ?_; try refine Wp.norm (L' := [_, _, _, _, _]) rfl ?_)
      repeat (first | refine Wp.at ih rfl rfl ?_ rfl | (refine W1 rfl ?_; try refine Wp.norm (L' := [_, _, _, _, _]) rfl ?_) | ((first | change (_ → _) ∧ (_ → _) | change vp_in _ _ ∧ _ | change ¬ _ ∧ _); simp (disch := omega) only [nI_clamp, nI_leI, nI_ltI, nI_eq, nI_1, nI_add, nI_not_neg, nI_is_pos, nI_m1, nI_z, eX]) | refine brT (by first | assumption | decide | omega) ?_ | refine brF (by first | assumption | decide | omega) ?_ | refine brTn (by first | assumption | decide | omega) ?_ | refine brFn (by first | assumption | decide | omega) ?_ | refine And.intro (vp_in_nI (by omega) (by decide)) ?_ | refine And.intro (vp_lit (by decide)) ?_ | refine divJ (by decide) ?_ | refine divI (by decide) ?_)
      try change _ ∧ _
      first | done | rfl | (simp (disch := omega) only [nI_1, nI_add, nI_clamp] <;> first | done | rfl)
  have ih := lp 0 (Nat.zero_le _) h1 .null O1' T0
  show Wp 4 j_Tests_tryAll _ _ _ _ _
  repeat (first | (refine W1 rfl ?_; try refine Wp.norm (L' := [_, _, _, _, _]) rfl ?_) | ((first | change (_ → _) ∧ (_ → _) | change vp_in _ _ ∧ _ | change ¬ _ ∧ _); simp (disch := omega) only [nI_clamp, nI_leI, nI_ltI, nI_eq, nI_1, nI_add, nI_not_neg, nI_is_pos, nI_m1, nI_z]) | refine brT (by first | assumption | decide | omega) ?_ | refine brF (by first | assumption | decide | omega) ?_ | refine brTn (by first | assumption | decide | omega) ?_ | refine brFn (by first | assumption | decide | omega) ?_ | refine And.intro (vp_in_nI (by omega) (by decide)) ?_ | refine And.intro (vp_lit (by decide)) ?_ | refine divJ (by decide) ?_ | refine divI (by decide) ?_)
  try change _ ∧ _
  refine Cl.of r1 (by decide) ?_
  show Wp 4 j_Tests_tryAll _ _ _ _ _
  repeat (first | refine Wp.at ih rfl rfl ?_ rfl | (refine W1 rfl ?_; try refine Wp.norm (L' := [_, _, _, _, _]) rfl ?_) | ((first | change (_ → _) ∧ (_ → _) | change vp_in _ _ ∧ _ | change ¬ _ ∧ _); simp (disch := omega) only [nI_clamp, nI_leI, nI_ltI, nI_eq, nI_1, nI_add, nI_not_neg, nI_is_pos, nI_m1, nI_z]) | refine brT (by first | assumption | decide | omega) ?_ | refine brF (by first | assumption | decide | omega) ?_ | refine brTn (by first | assumption | decide | omega) ?_ | refine brFn (by first | assumption | decide | omega) ?_ | refine And.intro (vp_in_nI (by omega) (by decide)) ?_ | refine And.intro (vp_lit (by decide)) ?_ | refine divJ (by decide) ?_ | refine divI (by decide) ?_)
  try change _ ∧ _
  first | done | rfl | (simp (disch := omega) only [nI_1, nI_add, nI_clamp] <;> first | done | rfl)
end CTA
