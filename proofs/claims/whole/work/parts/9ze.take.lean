/-! ===== THE CLASS TAKES WHAT WAS READ ===== -/
section CTK
variable {h h' : HP}
theorem wC_same {k k2 n i : Nat} (hi : i < n) : (wC h k k2 0 0 n).1 k2 i = h.1 k i := by
  unfold wC va_up
  simp only [reduceIte]
  exact sb_cpy0 hi
theorem wC_ne {k k2 k3 n : Nat} (hk : k3 ≠ k2) : (wC h k k2 0 0 n).1 k3 = h.1 k3 := by
  unfold wC va_up
  simp only [if_neg hk]
theorem onlyJ.addC {K KJ : List Nat} {k k2 n : Nat} (H : onlyJ K KJ h h') (hk : k2 ∈ K) : onlyJ K KJ h (wC h' k k2 0 0 n) := ⟨fun k' i' hn => by rw [wC_ne (fun e => hn (by rw [e]; exact hk))]; exact H.1 k' i' hn, H.2⟩
def tkL : List Nat := [7, 8, 9, 10, 11, 12, 13, 14, 15, 16]
theorem c_take (h : HP) : ∃ h', Run 0 j_House_take [.ref 7, .ref 18] h none h' ∧ onlyJ tkL [] h h' ∧ (h'.1 7 0 = h.1 18 0 ∧ h'.1 7 1 = h.1 18 1 ∧ h'.1 7 2 = h.1 18 2 ∧ h'.1 7 3 = h.1 18 3 ∧ h'.1 7 4 = h.1 18 4) ∧ (∀ i, i < 16 → h'.1 8 i = h.1 19 i ∧ h'.1 9 i = h.1 20 i ∧ h'.1 10 i = h.1 21 i ∧ h'.1 11 i = h.1 22 i ∧ h'.1 12 i = h.1 23 i ∧ h'.1 13 i = h.1 24 i) ∧ (∀ i, i < 6 → h'.1 14 i = h.1 25 i ∧ h'.1 15 i = h.1 26 i) ∧ (∀ i, i < 36 → h'.1 16 i = h.1 27 i) := by
  have e0 : Int32.toNatClampNeg 16 = 16 := rfl
  have e1 : Int32.toNatClampNeg 6 = 6 := rfl
  have e2 : Int32.toNatClampNeg 36 = 36 := rfl
  let h1 : HP := wI (wI (wI (wI (wI h 7 0 (h.1 18 0)) 7 1 (h.1 18 1)) 7 2 (h.1 18 2)) 7 3 (h.1 18 3)) 7 4 (h.1 18 4)
  have O1 : onlyJ tkL [] h h1 := (((((onlyJ.rfl _ _ h).addI (by decide)).addI (by decide)).addI (by decide)).addI (by decide)).addI (by decide)
  refine ⟨wC (wC (wC (wC (wC (wC (wC (wC (wC h1 19 8 0 0 16) 20 9 0 0 16) 21 10 0 0 16) 22 11 0 0 16) 23 12 0 0 16) 24 13 0 0 16) 25 14 0 0 6) 26 15 0 0 6) 27 16 0 0 36, ?_, ((((((((O1.addC (by decide)).addC (by decide)).addC (by decide)).addC (by decide)).addC (by decide)).addC (by decide)).addC (by decide)).addC (by decide)).addC (by decide), ⟨rfl, rfl, rfl, rfl, rfl⟩, fun i hi => ⟨?_, ?_, ?_, ?_, ?_, ?_⟩, fun i hi => ⟨?_, ?_⟩, fun i hi => ?_⟩
  · show Run 0 j_House_take _ _ _ _
    refine Run.of rfl ?_
    refine Wp.norm (L' := [_, _]) rfl ?_
    repeat (first | (refine W1 rfl ?_; try refine Wp.norm (L' := [_, _]) rfl ?_) | refine And.intro (by decide) ?_)
    first | exact ⟨rfl, rfl⟩ | exact rfl
  · rw [wC_ne (by decide), wC_ne (by decide), wC_ne (by decide), wC_ne (by decide), wC_ne (by decide), wC_ne (by decide), wC_ne (by decide), wC_ne (by decide), wC_same hi]; rfl
  · rw [wC_ne (by decide), wC_ne (by decide), wC_ne (by decide), wC_ne (by decide), wC_ne (by decide), wC_ne (by decide), wC_ne (by decide), wC_same hi, wC_ne (by decide)]; rfl
  · rw [wC_ne (by decide), wC_ne (by decide), wC_ne (by decide), wC_ne (by decide), wC_ne (by decide), wC_ne (by decide), wC_same hi, wC_ne (by decide), wC_ne (by decide)]; rfl
  · rw [wC_ne (by decide), wC_ne (by decide), wC_ne (by decide), wC_ne (by decide), wC_ne (by decide), wC_same hi, wC_ne (by decide), wC_ne (by decide), wC_ne (by decide)]; rfl
  · rw [wC_ne (by decide), wC_ne (by decide), wC_ne (by decide), wC_ne (by decide), wC_same hi, wC_ne (by decide), wC_ne (by decide), wC_ne (by decide), wC_ne (by decide)]; rfl
  · rw [wC_ne (by decide), wC_ne (by decide), wC_ne (by decide), wC_same hi, wC_ne (by decide), wC_ne (by decide), wC_ne (by decide), wC_ne (by decide), wC_ne (by decide)]; rfl
  · rw [wC_ne (by decide), wC_ne (by decide), wC_same hi, wC_ne (by decide), wC_ne (by decide), wC_ne (by decide), wC_ne (by decide), wC_ne (by decide), wC_ne (by decide)]; rfl
  · rw [wC_ne (by decide), wC_same hi, wC_ne (by decide), wC_ne (by decide), wC_ne (by decide), wC_ne (by decide), wC_ne (by decide), wC_ne (by decide), wC_ne (by decide)]; rfl
  · rw [wC_same hi, wC_ne (by decide), wC_ne (by decide), wC_ne (by decide), wC_ne (by decide), wC_ne (by decide), wC_ne (by decide), wC_ne (by decide), wC_ne (by decide)]; rfl
theorem c_openAll (h : HP) : ∃ h', Run 1 j_Rota_openAll [.ref 45] h none h' ∧ onlyJ [46, 47] [] h h' ∧ ∀ i, i < 200 → h'.1 46 i = -1 ∧ h'.1 47 i = -1 := by
  obtain ⟨h1, r1, O1, A1⟩ := r_fill_46 h (-1)
  obtain ⟨h2, r2, O2, A2⟩ := r_fill_47 h1 (-1)
  refine ⟨h2, ?_, (O1.mono (fun k hk => by simp at hk; simp [hk]) (fun k hk => hk)).trans (O2.mono (fun k hk => by simp at hk; simp [hk]) (fun k hk => hk)), fun i hi => ⟨?_, A2 i hi⟩⟩
  · show Run 1 j_Rota_openAll _ _ _ _
    refine Run.of rfl ?_
    refine Wp.norm (L' := [_]) rfl ?_
    repeat (first | (refine W1 rfl ?_; try refine Wp.norm (L' := [_]) rfl ?_) | ((first | change (_ → _) ∧ (_ → _) | change vp_in _ _ ∧ _ | change ¬ _ ∧ _); simp (disch := omega) only [nI_clamp, nI_leI, nI_ltI, nI_eq, nI_1, nI_add, nI_not_neg, nI_is_pos, nI_m1, nI_z]) | refine brT (by first | assumption | decide | omega) ?_ | refine brF (by first | assumption | decide | omega) ?_ | refine brTn (by first | assumption | decide | omega) ?_ | refine brFn (by first | assumption | decide | omega) ?_ | refine And.intro (vp_in_nI (by omega) (by decide)) ?_ | refine And.intro (vp_lit (by decide)) ?_ | refine divJ (by decide) ?_ | refine divI (by decide) ?_)
    try change _ ∧ _
    refine Cl.of r1 (by decide) ?_
    show Wp 1 j_Rota_openAll _ _ _ _ _
    repeat (first | (refine W1 rfl ?_; try refine Wp.norm (L' := [_]) rfl ?_) | ((first | change (_ → _) ∧ (_ → _) | change vp_in _ _ ∧ _ | change ¬ _ ∧ _); simp (disch := omega) only [nI_clamp, nI_leI, nI_ltI, nI_eq, nI_1, nI_add, nI_not_neg, nI_is_pos, nI_m1, nI_z]) | refine brT (by first | assumption | decide | omega) ?_ | refine brF (by first | assumption | decide | omega) ?_ | refine brTn (by first | assumption | decide | omega) ?_ | refine brFn (by first | assumption | decide | omega) ?_ | refine And.intro (vp_in_nI (by omega) (by decide)) ?_ | refine And.intro (vp_lit (by decide)) ?_ | refine divJ (by decide) ?_ | refine divI (by decide) ?_)
    try change _ ∧ _
    refine Cl.of r2 (by decide) ?_
    show Wp 1 j_Rota_openAll _ _ _ _ _
    repeat (first | (refine W1 rfl ?_; try refine Wp.norm (L' := [_]) rfl ?_) | ((first | change (_ → _) ∧ (_ → _) | change vp_in _ _ ∧ _ | change ¬ _ ∧ _); simp (disch := omega) only [nI_clamp, nI_leI, nI_ltI, nI_eq, nI_1, nI_add, nI_not_neg, nI_is_pos, nI_m1, nI_z]) | refine brT (by first | assumption | decide | omega) ?_ | refine brF (by first | assumption | decide | omega) ?_ | refine brTn (by first | assumption | decide | omega) ?_ | refine brFn (by first | assumption | decide | omega) ?_ | refine And.intro (vp_in_nI (by omega) (by decide)) ?_ | refine And.intro (vp_lit (by decide)) ?_ | refine divJ (by decide) ?_ | refine divI (by decide) ?_)
    try change _ ∧ _
    try first | exact ⟨rfl, rfl⟩ | exact ⟨Or.inr rfl, rfl, rfl⟩ | exact ⟨Or.inl rfl, rfl, rfl⟩ | exact ⟨trivial, trivial⟩ | exact ⟨rfl, trivial⟩ | exact ⟨Or.inr rfl, rfl, trivial⟩ | exact ⟨Or.inl rfl, rfl, trivial⟩
  · rw [O2.1 46 i (by decide)]; exact A1 i hi
theorem c_forgetE (h : HP) : Run 0 j_Evener_forget [.ref 50] h none (wI (wI h 50 6 (-1)) 50 7 (-1)) := by
  refine Run.of rfl ?_
  refine Wp.norm (L' := [_]) rfl ?_
  repeat (first | (refine W1 rfl ?_; try refine Wp.norm (L' := [_]) rfl ?_) | ((first | change (_ → _) ∧ (_ → _) | change vp_in _ _ ∧ _ | change ¬ _ ∧ _); simp (disch := omega) only [nI_clamp, nI_leI, nI_ltI, nI_eq, nI_1, nI_add, nI_not_neg, nI_is_pos, nI_m1, nI_z]) | refine brT (by first | assumption | decide | omega) ?_ | refine brF (by first | assumption | decide | omega) ?_ | refine brTn (by first | assumption | decide | omega) ?_ | refine brFn (by first | assumption | decide | omega) ?_ | refine And.intro (vp_in_nI (by omega) (by decide)) ?_ | refine And.intro (vp_lit (by decide)) ?_ | refine divJ (by decide) ?_ | refine divI (by decide) ?_)
  try change _ ∧ _
  try first | exact ⟨rfl, rfl⟩ | exact ⟨Or.inr rfl, rfl, rfl⟩ | exact ⟨Or.inl rfl, rfl, rfl⟩ | exact ⟨trivial, trivial⟩ | exact ⟨rfl, trivial⟩ | exact ⟨Or.inr rfl, rfl, trivial⟩ | exact ⟨Or.inl rfl, rfl, trivial⟩
theorem c_forgetS (h : HP) : Run 0 j_Swapper_forget [.ref 54] h none (wI h 54 8 (-1)) := by
  refine Run.of rfl ?_
  refine Wp.norm (L' := [_]) rfl ?_
  repeat (first | (refine W1 rfl ?_; try refine Wp.norm (L' := [_]) rfl ?_) | ((first | change (_ → _) ∧ (_ → _) | change vp_in _ _ ∧ _ | change ¬ _ ∧ _); simp (disch := omega) only [nI_clamp, nI_leI, nI_ltI, nI_eq, nI_1, nI_add, nI_not_neg, nI_is_pos, nI_m1, nI_z]) | refine brT (by first | assumption | decide | omega) ?_ | refine brF (by first | assumption | decide | omega) ?_ | refine brTn (by first | assumption | decide | omega) ?_ | refine brFn (by first | assumption | decide | omega) ?_ | refine And.intro (vp_in_nI (by omega) (by decide)) ?_ | refine And.intro (vp_lit (by decide)) ?_ | refine divJ (by decide) ?_ | refine divI (by decide) ?_)
  try change _ ∧ _
  try first | exact ⟨rfl, rfl⟩ | exact ⟨Or.inr rfl, rfl, rfl⟩ | exact ⟨Or.inl rfl, rfl, rfl⟩ | exact ⟨trivial, trivial⟩ | exact ⟨rfl, trivial⟩ | exact ⟨Or.inr rfl, rfl, trivial⟩ | exact ⟨Or.inl rfl, rfl, trivial⟩
theorem c_clear (h : HP) : ∃ h', Run 1 j_House_clear [.ref 18] h none h' ∧ onlyJ [18, 23, 24, 27] [] h h' ∧ (h'.1 18 0 = 28 ∧ h'.1 18 1 = 0 ∧ h'.1 18 2 = 0 ∧ h'.1 18 3 = 0 ∧ h'.1 18 4 = 0) ∧ (∀ i, i < 16 → h'.1 23 i = 0 ∧ h'.1 24 i = 0) ∧ (∀ i, i < 36 → h'.1 27 i = 0) := by
  obtain ⟨h1, r1, O1, A1⟩ := r_fill_23 (wI (wI (wI (wI (wI h 18 0 28) 18 1 0) 18 2 0) 18 3 0) 18 4 0) 0
  obtain ⟨h2, r2, O2, A2⟩ := r_fill_24 h1 0
  obtain ⟨h3, r3, O3, A3⟩ := r_fill_27 h2 0
  have O0 : onlyJ [18, 23, 24, 27] [] h (wI (wI (wI (wI (wI h 18 0 28) 18 1 0) 18 2 0) 18 3 0) 18 4 0) := (((((onlyJ.rfl _ _ h).addI (by decide)).addI (by decide)).addI (by decide)).addI (by decide)).addI (by decide)
  refine ⟨h3, ?_, ((O0.trans (O1.mono (fun k hk => by simp at hk; simp [hk]) (fun k hk => hk))).trans (O2.mono (fun k hk => by simp at hk; simp [hk]) (fun k hk => hk))).trans (O3.mono (fun k hk => by simp at hk; simp [hk]) (fun k hk => hk)), ⟨?_, ?_, ?_, ?_, ?_⟩, fun i hi => ⟨?_, ?_⟩, A3⟩
  · show Run 1 j_House_clear _ _ _ _
    refine Run.of rfl ?_
    refine Wp.norm (L' := [_]) rfl ?_
    repeat (first | (refine W1 rfl ?_; try refine Wp.norm (L' := [_]) rfl ?_) | ((first | change (_ → _) ∧ (_ → _) | change vp_in _ _ ∧ _ | change ¬ _ ∧ _); simp (disch := omega) only [nI_clamp, nI_leI, nI_ltI, nI_eq, nI_1, nI_add, nI_not_neg, nI_is_pos, nI_m1, nI_z]) | refine brT (by first | assumption | decide | omega) ?_ | refine brF (by first | assumption | decide | omega) ?_ | refine brTn (by first | assumption | decide | omega) ?_ | refine brFn (by first | assumption | decide | omega) ?_ | refine And.intro (vp_in_nI (by omega) (by decide)) ?_ | refine And.intro (vp_lit (by decide)) ?_ | refine divJ (by decide) ?_ | refine divI (by decide) ?_)
    try change _ ∧ _
    refine Cl.of r1 (by decide) ?_
    show Wp 1 j_House_clear _ _ _ _ _
    repeat (first | (refine W1 rfl ?_; try refine Wp.norm (L' := [_]) rfl ?_) | ((first | change (_ → _) ∧ (_ → _) | change vp_in _ _ ∧ _ | change ¬ _ ∧ _); simp (disch := omega) only [nI_clamp, nI_leI, nI_ltI, nI_eq, nI_1, nI_add, nI_not_neg, nI_is_pos, nI_m1, nI_z]) | refine brT (by first | assumption | decide | omega) ?_ | refine brF (by first | assumption | decide | omega) ?_ | refine brTn (by first | assumption | decide | omega) ?_ | refine brFn (by first | assumption | decide | omega) ?_ | refine And.intro (vp_in_nI (by omega) (by decide)) ?_ | refine And.intro (vp_lit (by decide)) ?_ | refine divJ (by decide) ?_ | refine divI (by decide) ?_)
    try change _ ∧ _
    refine Cl.of r2 (by decide) ?_
    show Wp 1 j_House_clear _ _ _ _ _
    repeat (first | (refine W1 rfl ?_; try refine Wp.norm (L' := [_]) rfl ?_) | ((first | change (_ → _) ∧ (_ → _) | change vp_in _ _ ∧ _ | change ¬ _ ∧ _); simp (disch := omega) only [nI_clamp, nI_leI, nI_ltI, nI_eq, nI_1, nI_add, nI_not_neg, nI_is_pos, nI_m1, nI_z]) | refine brT (by first | assumption | decide | omega) ?_ | refine brF (by first | assumption | decide | omega) ?_ | refine brTn (by first | assumption | decide | omega) ?_ | refine brFn (by first | assumption | decide | omega) ?_ | refine And.intro (vp_in_nI (by omega) (by decide)) ?_ | refine And.intro (vp_lit (by decide)) ?_ | refine divJ (by decide) ?_ | refine divI (by decide) ?_)
    try change _ ∧ _
    refine Cl.of r3 (by decide) ?_
    show Wp 1 j_House_clear _ _ _ _ _
    repeat (first | (refine W1 rfl ?_; try refine Wp.norm (L' := [_]) rfl ?_) | ((first | change (_ → _) ∧ (_ → _) | change vp_in _ _ ∧ _ | change ¬ _ ∧ _); simp (disch := omega) only [nI_clamp, nI_leI, nI_ltI, nI_eq, nI_1, nI_add, nI_not_neg, nI_is_pos, nI_m1, nI_z]) | refine brT (by first | assumption | decide | omega) ?_ | refine brF (by first | assumption | decide | omega) ?_ | refine brTn (by first | assumption | decide | omega) ?_ | refine brFn (by first | assumption | decide | omega) ?_ | refine And.intro (vp_in_nI (by omega) (by decide)) ?_ | refine And.intro (vp_lit (by decide)) ?_ | refine divJ (by decide) ?_ | refine divI (by decide) ?_)
    try change _ ∧ _
    try first | exact ⟨rfl, rfl⟩ | exact ⟨Or.inr rfl, rfl, rfl⟩ | exact ⟨Or.inl rfl, rfl, rfl⟩ | exact ⟨trivial, trivial⟩ | exact ⟨rfl, trivial⟩ | exact ⟨Or.inr rfl, rfl, trivial⟩ | exact ⟨Or.inl rfl, rfl, trivial⟩
  · rw [O3.1 18 0 (by decide), O2.1 18 0 (by decide), O1.1 18 0 (by decide)]; rfl
  · rw [O3.1 18 1 (by decide), O2.1 18 1 (by decide), O1.1 18 1 (by decide)]; rfl
  · rw [O3.1 18 2 (by decide), O2.1 18 2 (by decide), O1.1 18 2 (by decide)]; rfl
  · rw [O3.1 18 3 (by decide), O2.1 18 3 (by decide), O1.1 18 3 (by decide)]; rfl
  · rw [O3.1 18 4 (by decide), O2.1 18 4 (by decide), O1.1 18 4 (by decide)]; rfl
  · rw [O3.1 23 i (by decide), O2.1 23 i (by decide)]; exact A1 i hi
  · rw [O3.1 24 i (by decide)]; exact A2 i hi
theorem c_clearT (h : HP) : Run 0 j_Tests_clear [.ref 28] h none (wI (wI h 28 1 0) 28 2 0) := by
  refine Run.of rfl ?_
  refine Wp.norm (L' := [_]) rfl ?_
  repeat (first | (refine W1 rfl ?_; try refine Wp.norm (L' := [_]) rfl ?_) | ((first | change (_ → _) ∧ (_ → _) | change vp_in _ _ ∧ _ | change ¬ _ ∧ _); simp (disch := omega) only [nI_clamp, nI_leI, nI_ltI, nI_eq, nI_1, nI_add, nI_not_neg, nI_is_pos, nI_m1, nI_z]) | refine brT (by first | assumption | decide | omega) ?_ | refine brF (by first | assumption | decide | omega) ?_ | refine brTn (by first | assumption | decide | omega) ?_ | refine brFn (by first | assumption | decide | omega) ?_ | refine And.intro (vp_in_nI (by omega) (by decide)) ?_ | refine And.intro (vp_lit (by decide)) ?_ | refine divJ (by decide) ?_ | refine divI (by decide) ?_)
  try change _ ∧ _
  try first | exact ⟨rfl, rfl⟩ | exact ⟨Or.inr rfl, rfl, rfl⟩ | exact ⟨Or.inl rfl, rfl, rfl⟩ | exact ⟨trivial, trivial⟩ | exact ⟨rfl, trivial⟩ | exact ⟨Or.inr rfl, rfl, trivial⟩ | exact ⟨Or.inl rfl, rfl, trivial⟩
end CTK
