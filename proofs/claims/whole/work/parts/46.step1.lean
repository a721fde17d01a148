/-! ===== STEP: filling, drawing, choosing ===== -/
theorem divJ {y : Int64} {A : Prop} (h : ¬ y = 0) (x : A) : ¬ y = 0 ∧ A := ⟨h, x⟩
theorem divI {y : Int32} {A : Prop} (h : ¬ y = 0) (x : A) : ¬ y = 0 ∧ A := ⟨h, x⟩
def onlyJ (K KJ : List Nat) (h h' : HP) : Prop := (∀ k i, ¬ k ∈ K → h'.1 k i = h.1 k i) ∧ (∀ k i, ¬ k ∈ KJ → h'.2 k i = h.2 k i)
theorem onlyJ.rfl (K KJ : List Nat) (h : HP) : onlyJ K KJ h h := ⟨fun _ _ _ => Eq.refl _, fun _ _ _ => Eq.refl _⟩
theorem onlyJ.trans {K KJ : List Nat} {a b c : HP} (h1 : onlyJ K KJ a b) (h2 : onlyJ K KJ b c) : onlyJ K KJ a c := ⟨fun k i hk => (h2.1 k i hk).trans (h1.1 k i hk), fun k i hk => (h2.2 k i hk).trans (h1.2 k i hk)⟩
theorem onlyJ.addI {K KJ : List Nat} {h h' : HP} {k i : Nat} {x : Int32} (H : onlyJ K KJ h h') (hk : k ∈ K) : onlyJ K KJ h (wI h' k i x) := ⟨fun k' i' hn => by rw [wI_ne _ _ _ (fun e => hn (by rw [e]; exact hk))]; exact H.1 k' i' hn, H.2⟩
theorem onlyJ.addJ {K KJ : List Nat} {h h' : HP} {k i : Nat} {x : Int64} (H : onlyJ K KJ h h') (hk : k ∈ KJ) : onlyJ K KJ h (wJ h' k i x) := ⟨H.1, fun k' i' hn => by rw [wJ_2, if_neg (fun e => hn (by rw [e]; exact hk))]; exact H.2 k' i' hn⟩
theorem onlyJ.mono {K K' KJ KJ' : List Nat} {h h' : HP} (H : onlyJ K KJ h h') (h1 : ∀ k, k ∈ K → k ∈ K') (h2 : ∀ k, k ∈ KJ → k ∈ KJ') : onlyJ K' KJ' h h' := ⟨fun k i hk => H.1 k i (fun z => hk (h1 k z)), fun k i hk => H.2 k i (fun z => hk (h2 k z))⟩
theorem onlyJ.K {K KJ : List Nat} {h h' : HP} (H : onlyJ K KJ h h') {P : Nat → Nat → Bool} (hP : ∀ k i, P k i = true → ¬ k ∈ K) : SameK P h h' := fun k i hk => H.1 k i (hP k i hk)
theorem wJ_same (h : HP) (k i : Nat) (x : Int64) : (wJ h k i x).2 k i = x := by rw [wJ_2, if_pos rfl]; exact pk_uLs
theorem wJ_ne2 (h : HP) {k i i' : Nat} (x : Int64) (hi : i' ≠ i) : (wJ h k i x).2 k i' = h.2 k i' := by rw [wJ_2, if_pos rfl]; exact pk_uLn hi
theorem wJ_ne (h : HP) {k k' : Nat} (i : Nat) (x : Int64) (hk : k' ≠ k) : (wJ h k i x).2 k' = h.2 k' := by rw [wJ_2, if_neg hk]
theorem r_fill_46 (h : HP) (x : Int32) : ∃ h', Run 0 j_Arrays_fill [.ref 46, .int x] h none h' ∧ onlyJ [46] [] h h' ∧ ∀ i, i < 200 → h'.1 46 i = x := by
  obtain ⟨w, h', r, e, O, A⟩ := Run.ofP (d := 0) (j := j_Arrays_fill) (as := [.ref 46, .int x]) (h := h) (P := fun w h' => w = none ∧ onlyJ [46] [] h h' ∧ ∀ i, i < 200 → h'.1 46 i = x) rfl (by
    have lp : ∀ n, n ≤ 200 → ∀ h', onlyJ [46] [] h h' → (∀ i, i < n → h'.1 46 i = x) → Wp 0 j_Arrays_fill 5 [.ref 46, .int x, .int (nI n), .int (nI 200)] [] h' (fun w h' => w = none ∧ onlyJ [46] [] h h' ∧ ∀ i, i < 200 → h'.1 46 i = x) := by
      refine up_ind ?_ (fun n hn ih => ?_)
      · intro h' O A
        repeat (first | (refine W1 rfl ?_; try refine Wp.norm (L' := [_, _, _, _]) rfl ?_) | refine brT (by first | assumption | decide | omega) ?_ | refine brF (by first | assumption | decide | omega) ?_ | refine brTn (by first | assumption | decide | omega) ?_ | refine brFn (by first | assumption | decide | omega) ?_ | ((first | change (_ → _) ∧ (_ → _) | change vp_in _ _ ∧ _ | change ¬ _ ∧ _); simp (disch := omega) only [nI_clamp, nI_leI, nI_ltI, nI_eq, nI_1, nI_add, nI_not_neg, nI_is_pos, nI_m1, nI_z]) | refine And.intro (vp_in_nI (by omega) (by decide)) ?_ | refine And.intro (vp_lit (by decide)) ?_ | refine divJ (by decide) ?_ | refine divI (by decide) ?_)
        try change _ ∧ _
        exact ⟨rfl, O, A⟩
      · intro h' O A
        have ih := ih (wI h' 46 n x) (O.addI (by decide)) (fun i hi => by
          by_cases e : i = n
          · rw [e, wI_same]
          · rw [wI_ne2 _ _ e]; exact A i (by omega))
        (refine W1 rfl ?_; try refine Wp.norm (L' := [_, _, _, _]) rfl ?_)
        repeat (first | refine Wp.at ih rfl rfl ?_ ?_ | (refine W1 rfl ?_; try refine Wp.norm (L' := [_, _, _, _]) rfl ?_) | refine brT (by first | assumption | decide | omega) ?_ | refine brF (by first | assumption | decide | omega) ?_ | refine brTn (by first | assumption | decide | omega) ?_ | refine brFn (by first | assumption | decide | omega) ?_ | ((first | change (_ → _) ∧ (_ → _) | change vp_in _ _ ∧ _ | change ¬ _ ∧ _); simp (disch := omega) only [nI_clamp, nI_leI, nI_ltI, nI_eq, nI_1, nI_add, nI_not_neg, nI_is_pos, nI_m1, nI_z]) | refine And.intro (vp_in_nI (by omega) (by decide)) ?_ | refine And.intro (vp_lit (by decide)) ?_ | refine divJ (by decide) ?_ | refine divI (by decide) ?_)
        try change _ ∧ _
        · first | rfl | (simp (disch := omega) only [nI_1, nI_add, nI_clamp] <;> first | done | rfl)
        · first | rfl | (simp (disch := omega) only [nI_1, nI_add, nI_clamp] <;> first | done | rfl)
    have ih := lp 0 (Nat.zero_le _) h (onlyJ.rfl _ _ h) (fun i hi => absurd hi (by omega))
    refine Wp.norm (L' := [_, _, _, _]) rfl ?_
    repeat (first | refine Wp.at ih rfl rfl ?_ rfl | (refine W1 rfl ?_; try refine Wp.norm (L' := [_, _, _, _]) rfl ?_) | refine brT (by first | assumption | decide | omega) ?_ | refine brF (by first | assumption | decide | omega) ?_ | refine brTn (by first | assumption | decide | omega) ?_ | refine brFn (by first | assumption | decide | omega) ?_ | ((first | change (_ → _) ∧ (_ → _) | change vp_in _ _ ∧ _ | change ¬ _ ∧ _); simp (disch := omega) only [nI_clamp, nI_leI, nI_ltI, nI_eq, nI_1, nI_add, nI_not_neg, nI_is_pos, nI_m1, nI_z]) | refine And.intro (vp_in_nI (by omega) (by decide)) ?_ | refine And.intro (vp_lit (by decide)) ?_ | refine divJ (by decide) ?_ | refine divI (by decide) ?_)
    try change _ ∧ _
    first | rfl | (simp (disch := omega) only [nI_1, nI_add, nI_clamp] <;> first | done | rfl))
  subst e
  exact ⟨h', r, O, A⟩
theorem r_fill_47 (h : HP) (x : Int32) : ∃ h', Run 0 j_Arrays_fill [.ref 47, .int x] h none h' ∧ onlyJ [47] [] h h' ∧ ∀ i, i < 200 → h'.1 47 i = x := by
  obtain ⟨w, h', r, e, O, A⟩ := Run.ofP (d := 0) (j := j_Arrays_fill) (as := [.ref 47, .int x]) (h := h) (P := fun w h' => w = none ∧ onlyJ [47] [] h h' ∧ ∀ i, i < 200 → h'.1 47 i = x) rfl (by
    have lp : ∀ n, n ≤ 200 → ∀ h', onlyJ [47] [] h h' → (∀ i, i < n → h'.1 47 i = x) → Wp 0 j_Arrays_fill 5 [.ref 47, .int x, .int (nI n), .int (nI 200)] [] h' (fun w h' => w = none ∧ onlyJ [47] [] h h' ∧ ∀ i, i < 200 → h'.1 47 i = x) := by
      refine up_ind ?_ (fun n hn ih => ?_)
      · intro h' O A
        repeat (first | (refine W1 rfl ?_; try refine Wp.norm (L' := [_, _, _, _]) rfl ?_) | refine brT (by first | assumption | decide | omega) ?_ | refine brF (by first | assumption | decide | omega) ?_ | refine brTn (by first | assumption | decide | omega) ?_ | refine brFn (by first | assumption | decide | omega) ?_ | ((first | change (_ → _) ∧ (_ → _) | change vp_in _ _ ∧ _ | change ¬ _ ∧ _); simp (disch := omega) only [nI_clamp, nI_leI, nI_ltI, nI_eq, nI_1, nI_add, nI_not_neg, nI_is_pos, nI_m1, nI_z]) | refine And.intro (vp_in_nI (by omega) (by decide)) ?_ | refine And.intro (vp_lit (by decide)) ?_ | refine divJ (by decide) ?_ | refine divI (by decide) ?_)
        try change _ ∧ _
        exact ⟨rfl, O, A⟩
      · intro h' O A
        have ih := ih (wI h' 47 n x) (O.addI (by decide)) (fun i hi => by
          by_cases e : i = n
          · rw [e, wI_same]
          · rw [wI_ne2 _ _ e]; exact A i (by omega))
        (refine W1 rfl ?_; try refine Wp.norm (L' := [_, _, _, _]) rfl ?_)
        repeat (first | refine Wp.at ih rfl rfl ?_ ?_ | (refine W1 rfl ?_; try refine Wp.norm (L' := [_, _, _, _]) rfl ?_) | refine brT (by first | assumption | decide | omega) ?_ | refine brF (by first | assumption | decide | omega) ?_ | refine brTn (by first | assumption | decide | omega) ?_ | refine brFn (by first | assumption | decide | omega) ?_ | ((first | change (_ → _) ∧ (_ → _) | change vp_in _ _ ∧ _ | change ¬ _ ∧ _); simp (disch := omega) only [nI_clamp, nI_leI, nI_ltI, nI_eq, nI_1, nI_add, nI_not_neg, nI_is_pos, nI_m1, nI_z]) | refine And.intro (vp_in_nI (by omega) (by decide)) ?_ | refine And.intro (vp_lit (by decide)) ?_ | refine divJ (by decide) ?_ | refine divI (by decide) ?_)
        try change _ ∧ _
        · first | rfl | (simp (disch := omega) only [nI_1, nI_add, nI_clamp] <;> first | done | rfl)
        · first | rfl | (simp (disch := omega) only [nI_1, nI_add, nI_clamp] <;> first | done | rfl)
    have ih := lp 0 (Nat.zero_le _) h (onlyJ.rfl _ _ h) (fun i hi => absurd hi (by omega))
    refine Wp.norm (L' := [_, _, _, _]) rfl ?_
    repeat (first | refine Wp.at ih rfl rfl ?_ rfl | (refine W1 rfl ?_; try refine Wp.norm (L' := [_, _, _, _]) rfl ?_) | refine brT (by first | assumption | decide | omega) ?_ | refine brF (by first | assumption | decide | omega) ?_ | refine brTn (by first | assumption | decide | omega) ?_ | refine brFn (by first | assumption | decide | omega) ?_ | ((first | change (_ → _) ∧ (_ → _) | change vp_in _ _ ∧ _ | change ¬ _ ∧ _); simp (disch := omega) only [nI_clamp, nI_leI, nI_ltI, nI_eq, nI_1, nI_add, nI_not_neg, nI_is_pos, nI_m1, nI_z]) | refine And.intro (vp_in_nI (by omega) (by decide)) ?_ | refine And.intro (vp_lit (by decide)) ?_ | refine divJ (by decide) ?_ | refine divI (by decide) ?_)
    try change _ ∧ _
    first | rfl | (simp (disch := omega) only [nI_1, nI_add, nI_clamp] <;> first | done | rfl))
  subst e
  exact ⟨h', r, O, A⟩
theorem r_fillJ_48 (h : HP) (x : Int64) : ∃ h', Run 0 j_Arrays_fillJ [.ref 48, .long x] h none h' ∧ onlyJ [] [48] h h' ∧ ∀ i, i < 96 → h'.2 48 i = x := by
  obtain ⟨w, h', r, e, O, A⟩ := Run.ofP (d := 0) (j := j_Arrays_fillJ) (as := [.ref 48, .long x]) (h := h) (P := fun w h' => w = none ∧ onlyJ [] [48] h h' ∧ ∀ i, i < 96 → h'.2 48 i = x) rfl (by
    have lp : ∀ n, n ≤ 96 → ∀ h', onlyJ [] [48] h h' → (∀ i, i < n → h'.2 48 i = x) → Wp 0 j_Arrays_fillJ 6 [.ref 48, .long x, .null, .int (nI n), .int (nI 96)] [] h' (fun w h' => w = none ∧ onlyJ [] [48] h h' ∧ ∀ i, i < 96 → h'.2 48 i = x) := by
      refine up_ind ?_ (fun n hn ih => ?_)
      · intro h' O A
        repeat (first | (refine W1 rfl ?_; try refine Wp.norm (L' := [_, _, _, _, _]) rfl ?_) | refine brT (by first | assumption | decide | omega) ?_ | refine brF (by first | assumption | decide | omega) ?_ | refine brTn (by first | assumption | decide | omega) ?_ | refine brFn (by first | assumption | decide | omega) ?_ | ((first | change (_ → _) ∧ (_ → _) | change vp_in _ _ ∧ _ | change ¬ _ ∧ _); simp (disch := omega) only [nI_clamp, nI_leI, nI_ltI, nI_eq, nI_1, nI_add, nI_not_neg, nI_is_pos, nI_m1, nI_z]) | refine And.intro (vp_in_nI (by omega) (by decide)) ?_ | refine And.intro (vp_lit (by decide)) ?_ | refine divJ (by decide) ?_ | refine divI (by decide) ?_)
        try change _ ∧ _
        exact ⟨rfl, O, A⟩
      · intro h' O A
        have ih := ih (wJ h' 48 n x) (O.addJ (by decide)) (fun i hi => by
          by_cases e : i = n
          · rw [e, wJ_same]
          · rw [wJ_ne2 _ _ e]; exact A i (by omega))
        (refine W1 rfl ?_; try refine Wp.norm (L' := [_, _, _, _, _]) rfl ?_)
        repeat (first | refine Wp.at ih rfl rfl ?_ ?_ | (refine W1 rfl ?_; try refine Wp.norm (L' := [_, _, _, _, _]) rfl ?_) | refine brT (by first | assumption | decide | omega) ?_ | refine brF (by first | assumption | decide | omega) ?_ | refine brTn (by first | assumption | decide | omega) ?_ | refine brFn (by first | assumption | decide | omega) ?_ | ((first | change (_ → _) ∧ (_ → _) | change vp_in _ _ ∧ _ | change ¬ _ ∧ _); simp (disch := omega) only [nI_clamp, nI_leI, nI_ltI, nI_eq, nI_1, nI_add, nI_not_neg, nI_is_pos, nI_m1, nI_z]) | refine And.intro (vp_in_nI (by omega) (by decide)) ?_ | refine And.intro (vp_lit (by decide)) ?_ | refine divJ (by decide) ?_ | refine divI (by decide) ?_)
        try change _ ∧ _
        · first | rfl | (simp (disch := omega) only [nI_1, nI_add, nI_clamp] <;> first | done | rfl)
        · first | rfl | (simp (disch := omega) only [nI_1, nI_add, nI_clamp] <;> first | done | rfl)
    have ih := lp 0 (Nat.zero_le _) h (onlyJ.rfl _ _ h) (fun i hi => absurd hi (by omega))
    refine Wp.norm (L' := [_, _, _, _, _]) rfl ?_
    repeat (first | refine Wp.at ih rfl rfl ?_ rfl | (refine W1 rfl ?_; try refine Wp.norm (L' := [_, _, _, _, _]) rfl ?_) | refine brT (by first | assumption | decide | omega) ?_ | refine brF (by first | assumption | decide | omega) ?_ | refine brTn (by first | assumption | decide | omega) ?_ | refine brFn (by first | assumption | decide | omega) ?_ | ((first | change (_ → _) ∧ (_ → _) | change vp_in _ _ ∧ _ | change ¬ _ ∧ _); simp (disch := omega) only [nI_clamp, nI_leI, nI_ltI, nI_eq, nI_1, nI_add, nI_not_neg, nI_is_pos, nI_m1, nI_z]) | refine And.intro (vp_in_nI (by omega) (by decide)) ?_ | refine And.intro (vp_lit (by decide)) ?_ | refine divJ (by decide) ?_ | refine divI (by decide) ?_)
    try change _ ∧ _
    first | rfl | (simp (disch := omega) only [nI_1, nI_add, nI_clamp] <;> first | done | rfl))
  subst e
  exact ⟨h', r, O, A⟩
theorem r_Rota_openAll (h : HP) : ∃ h', Run 1 j_Rota_openAll [.ref 45] h none h' ∧ onlyJ [46, 47] [] h h' ∧ ∀ i, i < 200 → h'.1 46 i = -1 ∧ h'.1 47 i = -1 := by
  obtain ⟨h1, r1, O1, A1⟩ := r_fill_46 h (-1)
  obtain ⟨h2, r2, O2, A2⟩ := r_fill_47 h1 (-1)
  refine ⟨h2, ?_, (O1.mono (by simp) (by simp)).trans (O2.mono (by simp) (by simp)), fun i hi => ⟨?_, A2 i hi⟩⟩
  · refine Run.of rfl ?_
    refine Wp.norm (L' := [_]) rfl ?_
    show Wp 1 j_Rota_openAll _ _ _ _ _
    repeat (first | (refine W1 rfl ?_; try refine Wp.norm (L' := [_]) rfl ?_) | refine brT (by first | assumption | decide | omega) ?_ | refine brF (by first | assumption | decide | omega) ?_ | refine brTn (by first | assumption | decide | omega) ?_ | refine brFn (by first | assumption | decide | omega) ?_ | ((first | change (_ → _) ∧ (_ → _) | change vp_in _ _ ∧ _ | change ¬ _ ∧ _); simp (disch := omega) only [nI_clamp, nI_leI, nI_ltI, nI_eq, nI_1, nI_add, nI_not_neg, nI_is_pos, nI_m1, nI_z]) | refine And.intro (vp_in_nI (by omega) (by decide)) ?_ | refine And.intro (vp_lit (by decide)) ?_ | refine divJ (by decide) ?_ | refine divI (by decide) ?_)
    try change _ ∧ _
    refine Cl.of r1 (by decide) ?_
    repeat (first | (refine W1 rfl ?_; try refine Wp.norm (L' := [_]) rfl ?_) | refine brT (by first | assumption | decide | omega) ?_ | refine brF (by first | assumption | decide | omega) ?_ | refine brTn (by first | assumption | decide | omega) ?_ | refine brFn (by first | assumption | decide | omega) ?_ | ((first | change (_ → _) ∧ (_ → _) | change vp_in _ _ ∧ _ | change ¬ _ ∧ _); simp (disch := omega) only [nI_clamp, nI_leI, nI_ltI, nI_eq, nI_1, nI_add, nI_not_neg, nI_is_pos, nI_m1, nI_z]) | refine And.intro (vp_in_nI (by omega) (by decide)) ?_ | refine And.intro (vp_lit (by decide)) ?_ | refine divJ (by decide) ?_ | refine divI (by decide) ?_)
    try change _ ∧ _
    refine Cl.of r2 (by decide) ?_
    repeat (first | (refine W1 rfl ?_; try refine Wp.norm (L' := [_]) rfl ?_) | refine brT (by first | assumption | decide | omega) ?_ | refine brF (by first | assumption | decide | omega) ?_ | refine brTn (by first | assumption | decide | omega) ?_ | refine brFn (by first | assumption | decide | omega) ?_ | ((first | change (_ → _) ∧ (_ → _) | change vp_in _ _ ∧ _ | change ¬ _ ∧ _); simp (disch := omega) only [nI_clamp, nI_leI, nI_ltI, nI_eq, nI_1, nI_add, nI_not_neg, nI_is_pos, nI_m1, nI_z]) | refine And.intro (vp_in_nI (by omega) (by decide)) ?_ | refine And.intro (vp_lit (by decide)) ?_ | refine divJ (by decide) ?_ | refine divI (by decide) ?_)
    try change _ ∧ _
    try first | exact ⟨rfl, rfl⟩ | exact ⟨Or.inr rfl, rfl, rfl⟩ | exact ⟨Or.inl rfl, rfl, rfl⟩ | exact ⟨trivial, trivial⟩ | exact ⟨rfl, trivial⟩ | exact ⟨Or.inr rfl, rfl, trivial⟩ | exact ⟨Or.inl rfl, rfl, trivial⟩
  · rw [O2.1 46 i (by decide)]; exact A1 i hi
/-! drawing -/
def nxL (x : Nat) : Nat := (1103515245 * x + 12345) % 2147483648
theorem lN_and31 {a : Nat} (ha : a < 2 ^ 63) : lN a &&& 2147483647 = lN (a % 2147483648) := by
  apply Int64.toBitVec_inj.mp
  apply BitVec.eq_of_toNat_eq
  rw [Int64.toBitVec_and, BitVec.toNat_and]
  have e1 : (lN a).toBitVec.toNat = a := by
    show (BitVec.ofNat 64 a).toNat = a
    rw [BitVec.toNat_ofNat]
    exact Nat.mod_eq_of_lt (by omega)
  have e2 : (lN (a % 2147483648)).toBitVec.toNat = a % 2147483648 := by
    show (BitVec.ofNat 64 _).toNat = _
    rw [BitVec.toNat_ofNat]
    exact Nat.mod_eq_of_lt (by omega)
  rw [e1, e2, show (2147483647 : Int64).toBitVec.toNat = 2 ^ 31 - 1 from rfl, Nat.and_two_pow_sub_one_eq_mod]
theorem r_Rota_drawn {h : HP} {x n : Nat} (hx : x < 2 ^ 31) (hl : h.2 45 5 = lN x) (hn : 0 < n) (hn2 : n ≤ 16) : Run 0 j_Rota_drawn [.ref 45, .int (nI n)] h (some (.int (nI (nxL x / 256 % n)))) (wJ h 45 5 (lN (nxL x))) := by
  have hd : nxL x / 256 % n < n := Nat.mod_lt _ hn
  have e : (1103515245 : Int64) * h.2 45 5 + 12345 &&& 2147483647 = lN (nxL x) := by
    rw [hl, show (1103515245 : Int64) = lN 1103515245 from rfl, show (12345 : Int64) = lN 12345 from rfl, lN_mul, lN_add, lN_and31 (by omega)]
    rfl
  have hx2 : nxL x < 2147483648 := Nat.mod_lt _ (by decide)
  refine Run.of rfl ?_
  refine Wp.norm (L' := [_, _]) rfl ?_
  repeat (first | (refine W1 rfl ?_; try refine Wp.norm (L' := [_, _]) rfl ?_) | refine brT (by first | assumption | decide | omega) ?_ | refine brF (by first | assumption | decide | omega) ?_ | refine brTn (by first | assumption | decide | omega) ?_ | refine brFn (by first | assumption | decide | omega) ?_ | ((first | change (_ → _) ∧ (_ → _) | change vp_in _ _ ∧ _ | change ¬ _ ∧ _); simp (disch := omega) only [nI_clamp, nI_leI, nI_ltI, nI_eq, nI_1, nI_add, nI_not_neg, nI_is_pos, nI_m1, nI_z, show (0 : Int32) = nI 0 from rfl]) | refine And.intro (vp_in_nI (by omega) (by decide)) ?_ | refine And.intro (vp_lit (by decide)) ?_ | refine divJ (by decide) ?_ | refine divI (by decide) ?_)
  try change _ ∧ _
  have hnl : (nI n).toInt64 = lN n := nI_l (by omega)
  have hn0 : ¬ lN n = 0 := fun z => by
    rw [show (0 : Int64) = lN 0 from rfl, pk_lEQ (by omega) (by decide)] at z
    omega
  refine ⟨by rw [hnl]; exact hn0, ?_⟩
  rw [wJ_same, e, hnl, show (256 : Int64) = lN 256 from rfl, pk_lDiv (by omega) (by decide) (by decide), pk_lRem (by omega) hn (by omega)]
  repeat (first | (refine W1 rfl ?_; try refine Wp.norm (L' := [_, _]) rfl ?_) | refine brT (by first | assumption | decide | omega) ?_ | refine brF (by first | assumption | decide | omega) ?_ | refine brTn (by first | assumption | decide | omega) ?_ | refine brFn (by first | assumption | decide | omega) ?_ | ((first | change (_ → _) ∧ (_ → _) | change vp_in _ _ ∧ _ | change ¬ _ ∧ _); simp (disch := omega) only [nI_clamp, nI_leI, nI_ltI, nI_eq, nI_1, nI_add, nI_not_neg, nI_is_pos, nI_m1, nI_z]) | refine And.intro (vp_in_nI (by omega) (by decide)) ?_ | refine And.intro (vp_lit (by decide)) ?_ | refine divJ (by decide) ?_ | refine divI (by decide) ?_)
  try change _ ∧ _
  rw [lN_i]
  try first | exact ⟨rfl, rfl⟩ | exact ⟨Or.inr rfl, rfl, rfl⟩ | exact ⟨Or.inl rfl, rfl, rfl⟩ | exact ⟨trivial, trivial⟩ | exact ⟨rfl, trivial⟩ | exact ⟨Or.inr rfl, rfl, trivial⟩ | exact ⟨Or.inl rfl, rfl, trivial⟩
/-! the one in its place among the chosen -/
def cB (B : Nat → Bool) (n : Nat) : Nat := cnt (fun q => B q = true) n
theorem cB_s (B : Nat → Bool) (n : Nat) : cB B (n + 1) = cB B n + (if B n = true then 1 else 0) := rfl
def fnd (B : Nat → Bool) (j : Nat) : Nat → Int32
  | 0 => -1
  | i + 1 => if B i = true ∧ cB B i = j then nI i else fnd B j i
theorem cB_lt {B : Nat → Bool} {a b : Nat} (hab : a < b) (ha : B a = true) : cB B a < cB B b := by
  have := cnt_mono (fun q => B q = true) (show a + 1 ≤ b by omega)
  have e := cB_s B a
  rw [if_pos ha] at e
  unfold cB at *
  omega
theorem cB_inj {B : Nat → Bool} {a b : Nat} (ha : B a = true) (hb : B b = true) (h : cB B a = cB B b) : a = b := by
  rcases Nat.lt_trichotomy a b with e | e | e
  · have := cB_lt e ha; omega
  · exact e
  · have := cB_lt e hb; omega
theorem fnd_at {B : Nat → Bool} {q j : Nat} : ∀ {n}, q < n → B q = true → cB B q = j → fnd B j n = nI q
  | 0, h, _, _ => absurd h (by omega)
  | n + 1, h, h1, h2 => by
    unfold fnd
    by_cases e : B n = true ∧ cB B n = j
    · rw [if_pos e, cB_inj h1 e.1 (by rw [h2, e.2])]
    · rw [if_neg e]
      by_cases e2 : q = n
      · subst e2; exact absurd ⟨h1, h2⟩ e
      · exact fnd_at (by omega) h1 h2
theorem r_Rota_bitInPlace {h : HP} {x : Int32} {B : Nat → Bool} {j : Nat} (hx : ∀ q, q < 16 → bt x q = B q) (hj : j < cB B 16) : Run 0 j_Rota_bitInPlace [.int x, .int (nI j)] h (some (.int (fnd B j 16))) h := by
  have h16 : cB B 16 ≤ 16 := cnt_le _ _
  have lp : ∀ b, b ≤ 16 → cB B b ≤ j → Wp 0 j_Rota_bitInPlace 4 [.int x, .int (nI j), .int (nI (j - cB B b)), .int (nI b)] [] h (fun v' h2 => v' = some (.int (fnd B j 16)) ∧ h2 = h) := by
    refine up_ind ?_ (fun b hb ih => ?_)
    · intro hle
      omega
    · intro hle
      have e := cB_s B b
      have hbl : cB B b ≤ b := cnt_le _ _
      repeat (first | (refine W1 rfl ?_; try refine Wp.norm (L' := [_, _, _, _]) rfl ?_) | refine brT (by first | assumption | decide | omega) ?_ | refine brF (by first | assumption | decide | omega) ?_ | refine brTn (by first | assumption | decide | omega) ?_ | refine brFn (by first | assumption | decide | omega) ?_ | ((first | change (_ → _) ∧ (_ → _) | change vp_in _ _ ∧ _ | change ¬ _ ∧ _); simp (disch := omega) only [nI_clamp, nI_leI, nI_ltI, nI_eq, nI_1, nI_add, nI_not_neg, nI_is_pos, nI_m1, nI_z, show (16 : Int32) = nI 16 from rfl]) | refine And.intro (vp_in_nI (by omega) (by decide)) ?_ | refine And.intro (vp_lit (by decide)) ?_ | refine divJ (by decide) ?_ | refine divI (by decide) ?_)
      try change _ ∧ _
      rw [shr1 x (by omega), hx b hb]
      cases hB : B b with
      | false =>
        rw [hB] at e
        have ih := ih (by rw [e]; simpa using hle)
        rw [e] at ih
        refine brT rfl ?_
        repeat (first | refine Wp.at ih rfl rfl ?_ rfl | (refine W1 rfl ?_; try refine Wp.norm (L' := [_, _, _, _]) rfl ?_) | refine brT (by first | assumption | decide | omega) ?_ | refine brF (by first | assumption | decide | omega) ?_ | refine brTn (by first | assumption | decide | omega) ?_ | refine brFn (by first | assumption | decide | omega) ?_ | ((first | change (_ → _) ∧ (_ → _) | change vp_in _ _ ∧ _ | change ¬ _ ∧ _); simp (disch := omega) only [nI_clamp, nI_leI, nI_ltI, nI_eq, nI_1, nI_add, nI_not_neg, nI_is_pos, nI_m1, nI_z]) | refine And.intro (vp_in_nI (by omega) (by decide)) ?_ | refine And.intro (vp_lit (by decide)) ?_ | refine divJ (by decide) ?_ | refine divI (by decide) ?_)
        try change _ ∧ _
        first | rfl | (simp (disch := omega) only [nI_1, nI_add, nI_clamp] <;> first | done | rfl)
      | true =>
        rw [hB, if_pos rfl] at e
        refine brF (by decide) ?_
        repeat (first | (refine W1 rfl ?_; try refine Wp.norm (L' := [_, _, _, _]) rfl ?_) | refine brT (by first | assumption | decide | omega) ?_ | refine brF (by first | assumption | decide | omega) ?_ | refine brTn (by first | assumption | decide | omega) ?_ | refine brFn (by first | assumption | decide | omega) ?_ | ((first | change (_ → _) ∧ (_ → _) | change vp_in _ _ ∧ _ | change ¬ _ ∧ _); simp (disch := omega) only [nI_clamp, nI_leI, nI_ltI, nI_eq, nI_1, nI_add, nI_not_neg, nI_is_pos, nI_m1, nI_z]) | refine And.intro (vp_in_nI (by omega) (by decide)) ?_ | refine And.intro (vp_lit (by decide)) ?_ | refine divJ (by decide) ?_ | refine divI (by decide) ?_)
        try change _ ∧ _
        refine ⟨fun q => ?_, fun q => ?_⟩
        · have ih := ih (by omega)
          rw [show j - cB B (b + 1) = j - cB B b - 1 by omega] at ih
          repeat (first | refine Wp.at ih rfl rfl ?_ rfl | (refine W1 rfl ?_; try refine Wp.norm (L' := [_, _, _, _]) rfl ?_) | refine brT (by first | assumption | decide | omega) ?_ | refine brF (by first | assumption | decide | omega) ?_ | refine brTn (by first | assumption | decide | omega) ?_ | refine brFn (by first | assumption | decide | omega) ?_ | ((first | change (_ → _) ∧ (_ → _) | change vp_in _ _ ∧ _ | change ¬ _ ∧ _); simp (disch := omega) only [nI_clamp, nI_leI, nI_ltI, nI_eq, nI_1, nI_add, nI_not_neg, nI_is_pos, nI_m1, nI_z]) | refine And.intro (vp_in_nI (by omega) (by decide)) ?_ | refine And.intro (vp_lit (by decide)) ?_ | refine divJ (by decide) ?_ | refine divI (by decide) ?_)
          try change _ ∧ _
          rw [nI_1, show j - cB B b = (j - cB B b - 1) + 1 by omega, pk_m1]
          rfl
        · repeat (first | (refine W1 rfl ?_; try refine Wp.norm (L' := [_, _, _, _]) rfl ?_) | refine brT (by first | assumption | decide | omega) ?_ | refine brF (by first | assumption | decide | omega) ?_ | refine brTn (by first | assumption | decide | omega) ?_ | refine brFn (by first | assumption | decide | omega) ?_ | ((first | change (_ → _) ∧ (_ → _) | change vp_in _ _ ∧ _ | change ¬ _ ∧ _); simp (disch := omega) only [nI_clamp, nI_leI, nI_ltI, nI_eq, nI_1, nI_add, nI_not_neg, nI_is_pos, nI_m1, nI_z]) | refine And.intro (vp_in_nI (by omega) (by decide)) ?_ | refine And.intro (vp_lit (by decide)) ?_ | refine divJ (by decide) ?_ | refine divI (by decide) ?_)
          try change _ ∧ _
          rw [fnd_at hb hB (by omega)]
          try first | exact ⟨rfl, rfl⟩ | exact ⟨Or.inr rfl, rfl, rfl⟩ | exact ⟨Or.inl rfl, rfl, rfl⟩ | exact ⟨trivial, trivial⟩ | exact ⟨rfl, trivial⟩ | exact ⟨Or.inr rfl, rfl, trivial⟩ | exact ⟨Or.inl rfl, rfl, trivial⟩
  refine Run.of rfl ?_
  refine Wp.norm (L' := [_, _, _, _]) rfl ?_
  have ih := lp 0 (Nat.zero_le _) (Nat.zero_le _)
  repeat (first | refine Wp.at ih rfl rfl ?_ rfl | (refine W1 rfl ?_; try refine Wp.norm (L' := [_, _, _, _]) rfl ?_) | refine brT (by first | assumption | decide | omega) ?_ | refine brF (by first | assumption | decide | omega) ?_ | refine brTn (by first | assumption | decide | omega) ?_ | refine brFn (by first | assumption | decide | omega) ?_ | ((first | change (_ → _) ∧ (_ → _) | change vp_in _ _ ∧ _ | change ¬ _ ∧ _); simp (disch := omega) only [nI_clamp, nI_leI, nI_ltI, nI_eq, nI_1, nI_add, nI_not_neg, nI_is_pos, nI_m1, nI_z]) | refine And.intro (vp_in_nI (by omega) (by decide)) ?_ | refine And.intro (vp_lit (by decide)) ?_ | refine divJ (by decide) ?_ | refine divI (by decide) ?_)
  try change _ ∧ _
  first | rfl | (simp (disch := omega) only [nI_1, nI_add, nI_clamp] <;> first | done | rfl)
