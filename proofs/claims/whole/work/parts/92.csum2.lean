/-! ===== THE CLASS READS SUMS: the loop ===== -/
def pendL (f t : Nat) : List Nat := (if f = 0 then [] else [f]) ++ (if t = 0 then [] else [t])
section CSM2
variable {b : Nat → Nat} {n : Nat} {s : ST} {C : List Nat} {h h' : HP}
theorem pendL_0 : pendL 0 0 = [] := rfl
theorem pendL_f {f t : Nat} (h : f ≠ 0) : pendL f t = f :: pendL 0 t := by unfold pendL; rw [if_neg h, if_pos rfl]; rfl
theorem pendL_t {t : Nat} (h : t ≠ 0) : pendL 0 t = [t] := by unfold pendL; rw [if_pos rfl, if_neg h]; rfl
theorem c_sign {i q : Nat} (X : CS b n i s C q h) : Run 0 j_Tokens_signAt [.ref 3, .int (h.1 17 4)] h (some (.int (if tS b n i = 6 then nI (tV b n i) else -1))) h := by
  have r := r_signAt X.K X.hi
  rw [← X.at] at r
  exact r
theorem sum_f90 {d f p : Nat} {dp wf wt k : Int32} {Q : QT} (X : CF b n f p h) (hQ : ∀ h', CF b n f p h' → onlyJ rdL [] h h' → Q none h') : Wp (d + 1) j_Reader_readSum 90 [.ref 17, .int dp, .int wf, .int wt, .int k] [] h Q := by
  have X1 := X.w (i := 4) (x := h.1 17 4 + 1) (Or.inl rfl)
  have hne := X1.ne
  show Wp (d + 1) j_Reader_readSum _ _ _ _ _
  repeat (first | (refine W1 rfl ?_; try refine Wp.norm (L' := [_, _, _, _, _]) rfl ?_) | ((first | change (_ → _) ∧ (_ → _) | change vp_in _ _ ∧ _ | change ¬ _ ∧ _); simp (disch := omega) only [nI_clamp, nI_leI, nI_ltI, nI_eq, nI_1, nI_add, nI_not_neg, nI_is_pos, nI_m1, nI_z]) | refine brT (by first | assumption | decide | omega) ?_ | refine brF (by first | assumption | decide | omega) ?_ | refine brTn (by first | assumption | decide | omega) ?_ | refine brFn (by first | assumption | decide | omega) ?_ | refine And.intro (vp_in_nI (by omega) (by decide)) ?_ | refine And.intro (vp_lit (by decide)) ?_ | refine divJ (by decide) ?_ | refine divI (by decide) ?_)
  try change _ ∧ _
  refine ⟨fun z => ?_, fun z => ?_⟩
  · repeat (first | (refine W1 rfl ?_; try refine Wp.norm (L' := [_, _, _, _, _]) rfl ?_) | ((first | change (_ → _) ∧ (_ → _) | change vp_in _ _ ∧ _ | change ¬ _ ∧ _); simp (disch := omega) only [nI_clamp, nI_leI, nI_ltI, nI_eq, nI_1, nI_add, nI_not_neg, nI_is_pos, nI_m1, nI_z]) | refine brT (by first | assumption | decide | omega) ?_ | refine brF (by first | assumption | decide | omega) ?_ | refine brTn (by first | assumption | decide | omega) ?_ | refine brFn (by first | assumption | decide | omega) ?_ | refine And.intro (vp_in_nI (by omega) (by decide)) ?_ | refine And.intro (vp_lit (by decide)) ?_ | refine divJ (by decide) ?_ | refine divI (by decide) ?_)
    try change _ ∧ _
    exact hQ _ X1 (o17 (onlyJ.rfl _ _ h))
  · repeat (first | (refine W1 rfl ?_; try refine Wp.norm (L' := [_, _, _, _, _]) rfl ?_) | ((first | change (_ → _) ∧ (_ → _) | change vp_in _ _ ∧ _ | change ¬ _ ∧ _); simp (disch := omega) only [nI_clamp, nI_leI, nI_ltI, nI_eq, nI_1, nI_add, nI_not_neg, nI_is_pos, nI_m1, nI_z]) | refine brT (by first | assumption | decide | omega) ?_ | refine brF (by first | assumption | decide | omega) ?_ | refine brTn (by first | assumption | decide | omega) ?_ | refine brFn (by first | assumption | decide | omega) ?_ | refine And.intro (vp_in_nI (by omega) (by decide)) ?_ | refine And.intro (vp_lit (by decide)) ?_ | refine divJ (by decide) ?_ | refine divI (by decide) ?_)
    try change _ ∧ _
    exact hQ _ X1 (o17 (onlyJ.rfl _ _ h))
theorem sum_f70 {d f p : Nat} {dp wf wt k : Int32} {Q : QT} (X : CF b n f p h) (hQ : ∀ h', CF b n f p h' → onlyJ rdL [] h h' → Q none h') : Wp (d + 1) j_Reader_readSum 70 [.ref 17, .int dp, .int wf, .int wt, .int k] [] h Q := by
  obtain ⟨w1, r1⟩ := x_signAt X.1 (h.1 17 4)
  have r2 := r_termOp h w1
  show Wp (d + 1) j_Reader_readSum _ _ _ _ _
  repeat (first | (refine W1 rfl ?_; try refine Wp.norm (L' := [_, _, _, _, _]) rfl ?_) | ((first | change (_ → _) ∧ (_ → _) | change vp_in _ _ ∧ _ | change ¬ _ ∧ _); simp (disch := omega) only [nI_clamp, nI_leI, nI_ltI, nI_eq, nI_1, nI_add, nI_not_neg, nI_is_pos, nI_m1, nI_z]) | refine brT (by first | assumption | decide | omega) ?_ | refine brF (by first | assumption | decide | omega) ?_ | refine brTn (by first | assumption | decide | omega) ?_ | refine brFn (by first | assumption | decide | omega) ?_ | refine And.intro (vp_in_nI (by omega) (by decide)) ?_ | refine And.intro (vp_lit (by decide)) ?_ | refine divJ (by decide) ?_ | refine divI (by decide) ?_)
  try change _ ∧ _
  refine Cl.of r1 (by omega) ?_
  repeat (first | (refine W1 rfl ?_; try refine Wp.norm (L' := [_, _, _, _, _]) rfl ?_) | ((first | change (_ → _) ∧ (_ → _) | change vp_in _ _ ∧ _ | change ¬ _ ∧ _); simp (disch := omega) only [nI_clamp, nI_leI, nI_ltI, nI_eq, nI_1, nI_add, nI_not_neg, nI_is_pos, nI_m1, nI_z]) | refine brT (by first | assumption | decide | omega) ?_ | refine brF (by first | assumption | decide | omega) ?_ | refine brTn (by first | assumption | decide | omega) ?_ | refine brFn (by first | assumption | decide | omega) ?_ | refine And.intro (vp_in_nI (by omega) (by decide)) ?_ | refine And.intro (vp_lit (by decide)) ?_ | refine divJ (by decide) ?_ | refine divI (by decide) ?_)
  try change _ ∧ _
  refine Cl.of r2 (by omega) ?_
  show Wp (d + 1) j_Reader_readSum _ _ _ _ _
  repeat (first | (refine W1 rfl ?_; try refine Wp.norm (L' := [_, _, _, _, _]) rfl ?_) | ((first | change (_ → _) ∧ (_ → _) | change vp_in _ _ ∧ _ | change ¬ _ ∧ _); simp (disch := omega) only [nI_clamp, nI_leI, nI_ltI, nI_eq, nI_1, nI_add, nI_not_neg, nI_is_pos, nI_m1, nI_z]) | refine brT (by first | assumption | decide | omega) ?_ | refine brF (by first | assumption | decide | omega) ?_ | refine brTn (by first | assumption | decide | omega) ?_ | refine brFn (by first | assumption | decide | omega) ?_ | refine And.intro (vp_in_nI (by omega) (by decide)) ?_ | refine And.intro (vp_lit (by decide)) ?_ | refine divJ (by decide) ?_ | refine divI (by decide) ?_)
  try change _ ∧ _
  refine ⟨fun z => ?_, fun z => ?_⟩
  · exact sum_f90 X hQ
  · repeat (first | (refine W1 rfl ?_; try refine Wp.norm (L' := [_, _, _, _, _]) rfl ?_) | ((first | change (_ → _) ∧ (_ → _) | change vp_in _ _ ∧ _ | change ¬ _ ∧ _); simp (disch := omega) only [nI_clamp, nI_leI, nI_ltI, nI_eq, nI_1, nI_add, nI_not_neg, nI_is_pos, nI_m1, nI_z]) | refine brT (by first | assumption | decide | omega) ?_ | refine brF (by first | assumption | decide | omega) ?_ | refine brTn (by first | assumption | decide | omega) ?_ | refine brFn (by first | assumption | decide | omega) ?_ | refine And.intro (vp_in_nI (by omega) (by decide)) ?_ | refine And.intro (vp_lit (by decide)) ?_ | refine divJ (by decide) ?_ | refine divI (by decide) ?_)
    try change _ ∧ _
    exact hQ _ X (onlyJ.rfl _ _ h)
theorem sum_f39 {d f p : Nat} {dp wf wt k : Int32} {Q : QT} (X : CF b n f p h) (hQ : ∀ h', CF b n f p h' → onlyJ rdL [] h h' → Q none h') : Wp (d + 1) j_Reader_readSum 39 [.ref 17, .int dp, .int wf, .int wt, .int k] [] h Q := by
  obtain ⟨w1, r1⟩ := x_signAt X.1 (h.1 17 4)
  have r2 := r_factorOp h w1
  obtain ⟨h1, r3, O1, X1⟩ := f_emit wt X
  show Wp (d + 1) j_Reader_readSum _ _ _ _ _
  repeat (first | (refine W1 rfl ?_; try refine Wp.norm (L' := [_, _, _, _, _]) rfl ?_) | ((first | change (_ → _) ∧ (_ → _) | change vp_in _ _ ∧ _ | change ¬ _ ∧ _); simp (disch := omega) only [nI_clamp, nI_leI, nI_ltI, nI_eq, nI_1, nI_add, nI_not_neg, nI_is_pos, nI_m1, nI_z]) | refine brT (by first | assumption | decide | omega) ?_ | refine brF (by first | assumption | decide | omega) ?_ | refine brTn (by first | assumption | decide | omega) ?_ | refine brFn (by first | assumption | decide | omega) ?_ | refine And.intro (vp_in_nI (by omega) (by decide)) ?_ | refine And.intro (vp_lit (by decide)) ?_ | refine divJ (by decide) ?_ | refine divI (by decide) ?_)
  try change _ ∧ _
  refine Cl.of r1 (by omega) ?_
  repeat (first | (refine W1 rfl ?_; try refine Wp.norm (L' := [_, _, _, _, _]) rfl ?_) | ((first | change (_ → _) ∧ (_ → _) | change vp_in _ _ ∧ _ | change ¬ _ ∧ _); simp (disch := omega) only [nI_clamp, nI_leI, nI_ltI, nI_eq, nI_1, nI_add, nI_not_neg, nI_is_pos, nI_m1, nI_z]) | refine brT (by first | assumption | decide | omega) ?_ | refine brF (by first | assumption | decide | omega) ?_ | refine brTn (by first | assumption | decide | omega) ?_ | refine brFn (by first | assumption | decide | omega) ?_ | refine And.intro (vp_in_nI (by omega) (by decide)) ?_ | refine And.intro (vp_lit (by decide)) ?_ | refine divJ (by decide) ?_ | refine divI (by decide) ?_)
  try change _ ∧ _
  refine Cl.of r2 (by omega) ?_
  show Wp (d + 1) j_Reader_readSum _ _ _ _ _
  repeat (first | (refine W1 rfl ?_; try refine Wp.norm (L' := [_, _, _, _, _]) rfl ?_) | ((first | change (_ → _) ∧ (_ → _) | change vp_in _ _ ∧ _ | change ¬ _ ∧ _); simp (disch := omega) only [nI_clamp, nI_leI, nI_ltI, nI_eq, nI_1, nI_add, nI_not_neg, nI_is_pos, nI_m1, nI_z]) | refine brT (by first | assumption | decide | omega) ?_ | refine brF (by first | assumption | decide | omega) ?_ | refine brTn (by first | assumption | decide | omega) ?_ | refine brFn (by first | assumption | decide | omega) ?_ | refine And.intro (vp_in_nI (by omega) (by decide)) ?_ | refine And.intro (vp_lit (by decide)) ?_ | refine divJ (by decide) ?_ | refine divI (by decide) ?_)
  try change _ ∧ _
  refine ⟨fun z => ?_, fun z => ?_⟩
  · exact sum_f90 X hQ
  · repeat (first | (refine W1 rfl ?_; try refine Wp.norm (L' := [_, _, _, _, _]) rfl ?_) | ((first | change (_ → _) ∧ (_ → _) | change vp_in _ _ ∧ _ | change ¬ _ ∧ _); simp (disch := omega) only [nI_clamp, nI_leI, nI_ltI, nI_eq, nI_1, nI_add, nI_not_neg, nI_is_pos, nI_m1, nI_z]) | refine brT (by first | assumption | decide | omega) ?_ | refine brF (by first | assumption | decide | omega) ?_ | refine brTn (by first | assumption | decide | omega) ?_ | refine brFn (by first | assumption | decide | omega) ?_ | refine And.intro (vp_in_nI (by omega) (by decide)) ?_ | refine And.intro (vp_lit (by decide)) ?_ | refine divJ (by decide) ?_ | refine divI (by decide) ?_)
    try change _ ∧ _
    refine ⟨fun z => ?_, fun z => ?_⟩
    · exact sum_f70 X hQ
    · repeat (first | (refine W1 rfl ?_; try refine Wp.norm (L' := [_, _, _, _, _]) rfl ?_) | ((first | change (_ → _) ∧ (_ → _) | change vp_in _ _ ∧ _ | change ¬ _ ∧ _); simp (disch := omega) only [nI_clamp, nI_leI, nI_ltI, nI_eq, nI_1, nI_add, nI_not_neg, nI_is_pos, nI_m1, nI_z]) | refine brT (by first | assumption | decide | omega) ?_ | refine brF (by first | assumption | decide | omega) ?_ | refine brTn (by first | assumption | decide | omega) ?_ | refine brFn (by first | assumption | decide | omega) ?_ | refine And.intro (vp_in_nI (by omega) (by decide)) ?_ | refine And.intro (vp_lit (by decide)) ?_ | refine divJ (by decide) ?_ | refine divI (by decide) ?_)
      try change _ ∧ _
      refine Cl.of r3 (by omega) ?_
      exact sum_f70 X1 (fun h' Y O => hQ h' Y (O1.trans O))
theorem sum_f27 {d f p : Nat} {dp wf wt k : Int32} {Q : QT} (X : CF b n f p h) (hQ : ∀ h', CF b n f p h' → onlyJ rdL [] h h' → Q none h') : Wp (d + 1) j_Reader_readSum 27 [.ref 17, .int dp, .int wf, .int wt, .int k] [] h Q := by
  obtain ⟨h1, r3, O1, X1⟩ := f_emit wf X
  show Wp (d + 1) j_Reader_readSum _ _ _ _ _
  repeat (first | (refine W1 rfl ?_; try refine Wp.norm (L' := [_, _, _, _, _]) rfl ?_) | ((first | change (_ → _) ∧ (_ → _) | change vp_in _ _ ∧ _ | change ¬ _ ∧ _); simp (disch := omega) only [nI_clamp, nI_leI, nI_ltI, nI_eq, nI_1, nI_add, nI_not_neg, nI_is_pos, nI_m1, nI_z]) | refine brT (by first | assumption | decide | omega) ?_ | refine brF (by first | assumption | decide | omega) ?_ | refine brTn (by first | assumption | decide | omega) ?_ | refine brFn (by first | assumption | decide | omega) ?_ | refine And.intro (vp_in_nI (by omega) (by decide)) ?_ | refine And.intro (vp_lit (by decide)) ?_ | refine divJ (by decide) ?_ | refine divI (by decide) ?_)
  try change _ ∧ _
  refine ⟨fun z => ?_, fun z => ?_⟩
  · exact sum_f39 X hQ
  · repeat (first | (refine W1 rfl ?_; try refine Wp.norm (L' := [_, _, _, _, _]) rfl ?_) | ((first | change (_ → _) ∧ (_ → _) | change vp_in _ _ ∧ _ | change ¬ _ ∧ _); simp (disch := omega) only [nI_clamp, nI_leI, nI_ltI, nI_eq, nI_1, nI_add, nI_not_neg, nI_is_pos, nI_m1, nI_z]) | refine brT (by first | assumption | decide | omega) ?_ | refine brF (by first | assumption | decide | omega) ?_ | refine brTn (by first | assumption | decide | omega) ?_ | refine brFn (by first | assumption | decide | omega) ?_ | refine And.intro (vp_in_nI (by omega) (by decide)) ?_ | refine And.intro (vp_lit (by decide)) ?_ | refine divJ (by decide) ?_ | refine divI (by decide) ?_)
    try change _ ∧ _
    refine Cl.of r3 (by omega) ?_
    exact sum_f39 X1 (fun h' Y O => hQ h' Y (O1.trans O))
theorem c_sum {d dp q : Nat} (hdp : dp ≤ 6) (hP : ∀ h i C, CS b n i s C q h → C.length ≤ i → ∃ w h', Run d j_Reader_readPart [.ref 17, .int (nI dp)] h w h' ∧ (w = none ∧ onlyJ rdL [] h h' ∧ PO b n i dp C s q h')) {h0 : HP} {i0 : Nat} {C0 : List Nat} (X0 : CS b n i0 s C0 q h0) (hl0 : C0.length ≤ i0) : ∃ w h', Run (d + 1) j_Reader_readSum [.ref 17, .int (nI dp)] h0 w h' ∧ (w = none ∧ onlyJ rdL [] h0 h' ∧ SO b n i0 dp C0 s q h') := by
  refine Run.ofP rfl ?_
  refine Wp.norm (L' := [_, _, _, _, _]) rfl ?_
  generalize hQQ : (fun (w : Option Value) (h' : HP) => w = none ∧ onlyJ rdL [] h0 h' ∧ SO b n i0 dp C0 s q h') = QQ
  have lp : ∀ e i C h f t k, 901 ≤ i + e → CS b n i s C q h → (f = 0 ∨ isPr f) → (t = 0 ∨ isTr t) → onlyJ rdL [] h0 h → (∀ x W, ¬ isPr x → ¬ isTr x → qGo b n (0, i0, x :: W, dp, C0, s) (0, i, pendL f t ++ x :: W, dp, C, s)) → i0 + 2 * k ≤ i → C.length + (pendL f t).length + i0 ≤ C0.length + i → Wp (d + 1) j_Reader_readSum 7 [.ref 17, .int (nI dp), .int (cz f), .int (cz t), .int (nI k)] [] h QQ := by
    intro e
    induction e with
    | zero =>
      intro i C h f t k he X
      have := X.i9
      omega
    | succ e ih =>
      intro i C h f t k he X hf ht O go hk hlen
      have i9 := X.i9
      have f0 := X.f0
      obtain ⟨w, h1, r1, rfl, O1, P1⟩ := hP h i C X (by omega)
      repeat (first | (refine W1 rfl ?_; try refine Wp.norm (L' := [_, _, _, _, _]) rfl ?_) | ((first | change (_ → _) ∧ (_ → _) | change vp_in _ _ ∧ _ | change ¬ _ ∧ _); simp (disch := omega) only [nI_clamp, nI_leI, nI_ltI, nI_eq, nI_1, nI_add, nI_not_neg, nI_is_pos, nI_m1, nI_z, f0, show (900 : Int32) = nI 900 from rfl]) | refine brT (by first | assumption | decide | omega) ?_ | refine brF (by first | assumption | decide | omega) ?_ | refine brTn (by first | assumption | decide | omega) ?_ | refine brFn (by first | assumption | decide | omega) ?_ | refine And.intro (vp_in_nI (by omega) (by decide)) ?_ | refine And.intro (vp_lit (by decide)) ?_ | refine divJ (by decide) ?_ | refine divI (by decide) ?_)
      try change _ ∧ _
      refine Cl.of r1 (by omega) ?_
      show Wp (d + 1) j_Reader_readSum 27 _ _ _ _
      rcases P1 with ⟨i', C', Y, hii, hll, gp⟩ | ⟨f', p, Y, gp⟩
      · have a70 : ∀ C2 h2 (wf wt : Int32), CS b n i' s C2 q h2 → onlyJ rdL [] h0 h2 → fctC (sgV b n i') = 0 → (∀ x W, ¬ isPr x → ¬ isTr x → qGo b n (0, i0, x :: W, dp, C0, s) (1, i', x :: W, dp, C2, s)) → C2.length + i0 ≤ C0.length + i' → Wp (d + 1) j_Reader_readSum 70 [.ref 17, .int (nI dp), .int 0, .int wt, .int (nI k)] [] h2 QQ := by
          intro C2 h2 wf wt X2 O2 hfc g2 l2
          have ha := X2.at
          have i92 := X2.i9
          have r2 := c_sign X2
          have r3 := r_termOp h2 (if tS b n i' = 6 then nI (tV b n i') else -1)
          rw [tm_sg X2.hb] at r3
          repeat (first | (refine W1 rfl ?_; try refine Wp.norm (L' := [_, _, _, _, _]) rfl ?_) | ((first | change (_ → _) ∧ (_ → _) | change vp_in _ _ ∧ _ | change ¬ _ ∧ _); simp (disch := omega) only [nI_clamp, nI_leI, nI_ltI, nI_eq, nI_1, nI_add, nI_not_neg, nI_is_pos, nI_m1, nI_z]) | refine brT (by first | assumption | decide | omega) ?_ | refine brF (by first | assumption | decide | omega) ?_ | refine brTn (by first | assumption | decide | omega) ?_ | refine brFn (by first | assumption | decide | omega) ?_ | refine And.intro (vp_in_nI (by omega) (by decide)) ?_ | refine And.intro (vp_lit (by decide)) ?_ | refine divJ (by decide) ?_ | refine divI (by decide) ?_)
          try change _ ∧ _
          refine Cl.of r2 (by omega) ?_
          repeat (first | (refine W1 rfl ?_; try refine Wp.norm (L' := [_, _, _, _, _]) rfl ?_) | ((first | change (_ → _) ∧ (_ → _) | change vp_in _ _ ∧ _ | change ¬ _ ∧ _); simp (disch := omega) only [nI_clamp, nI_leI, nI_ltI, nI_eq, nI_1, nI_add, nI_not_neg, nI_is_pos, nI_m1, nI_z]) | refine brT (by first | assumption | decide | omega) ?_ | refine brF (by first | assumption | decide | omega) ?_ | refine brTn (by first | assumption | decide | omega) ?_ | refine brFn (by first | assumption | decide | omega) ?_ | refine And.intro (vp_in_nI (by omega) (by decide)) ?_ | refine And.intro (vp_lit (by decide)) ?_ | refine divJ (by decide) ?_ | refine divI (by decide) ?_)
          try change _ ∧ _
          refine Cl.of r3 (by omega) ?_
          show Wp (d + 1) j_Reader_readSum _ _ _ _ _
          have hr := trmC_r (sgV b n i')
          by_cases c : trmC (sgV b n i') = 0
          · rw [c, cz_0]
            repeat (first | (refine W1 rfl ?_; try refine Wp.norm (L' := [_, _, _, _, _]) rfl ?_) | ((first | change (_ → _) ∧ (_ → _) | change vp_in _ _ ∧ _ | change ¬ _ ∧ _); simp (disch := omega) only [nI_clamp, nI_leI, nI_ltI, nI_eq, nI_1, nI_add, nI_not_neg, nI_is_pos, nI_m1, nI_z]) | refine brT (by first | assumption | decide | omega) ?_ | refine brF (by first | assumption | decide | omega) ?_ | refine brTn (by first | assumption | decide | omega) ?_ | refine brFn (by first | assumption | decide | omega) ?_ | refine And.intro (vp_in_nI (by omega) (by decide)) ?_ | refine And.intro (vp_lit (by decide)) ?_ | refine divJ (by decide) ?_ | refine divI (by decide) ?_)
            try change _ ∧ _
            rw [← hQQ]
            exact ⟨rfl, O2, Or.inl ⟨i', C2, X2, by omega, by omega, ⟨hfc, c⟩, g2⟩⟩
          · have hr := hr.resolve_left c
            have hcz := cz_ne (Or.inr hr)
            have X3 := X2.nx (sg_ps (b := b) (n := n) (i := i') (fun z => c (by rw [z]; rfl)))
            have ih := ih (i' + 1) C2 _ 0 (trmC (sgV b n i')) (k + 1) (by omega) X3 (Or.inl rfl) (Or.inr hr) (o17 O2) (fun x W hx1 hx2 => (g2 x W hx1 hx2).trans (qGo.one (by rw [qA_t hx1 hfc hx2 c, pendL_t c]; rfl))) (by omega) (by rw [pendL_t c]; show C2.length + 1 + i0 ≤ _; omega)
            rw [cz_0] at ih
            repeat (first | refine Wp.at ih rfl rfl ?_ ?_ | (refine W1 rfl ?_; try refine Wp.norm (L' := [_, _, _, _, _]) rfl ?_) | ((first | change (_ → _) ∧ (_ → _) | change vp_in _ _ ∧ _ | change ¬ _ ∧ _); simp (disch := omega) only [nI_clamp, nI_leI, nI_ltI, nI_eq, nI_1, nI_add, nI_not_neg, nI_is_pos, nI_m1, nI_z]) | refine brT (by first | assumption | decide | omega) ?_ | refine brF (by first | assumption | decide | omega) ?_ | refine brTn (by first | assumption | decide | omega) ?_ | refine brFn (by first | assumption | decide | omega) ?_ | refine And.intro (vp_in_nI (by omega) (by decide)) ?_ | refine And.intro (vp_lit (by decide)) ?_ | refine divJ (by decide) ?_ | refine divI (by decide) ?_)
            try change _ ∧ _
            · first | done | rfl | (simp (disch := omega) only [nI_1, nI_add, nI_clamp] <;> first | done | rfl)
            · rw [ha]
              first | done | rfl | (simp (disch := omega) only [nI_1, nI_add, nI_clamp] <;> first | done | rfl)
        have a39 : ∀ C1 h1 (wf : Int32), CS b n i' s C1 q h1 → onlyJ rdL [] h0 h1 → (∀ x W, ¬ isPr x → ¬ isTr x → qGo b n (0, i0, x :: W, dp, C0, s) (1, i', pendL 0 t ++ x :: W, dp, C1, s)) → C1.length + (pendL 0 t).length + i0 ≤ C0.length + i' → Wp (d + 1) j_Reader_readSum 39 [.ref 17, .int (nI dp), .int wf, .int (cz t), .int (nI k)] [] h1 QQ := by
          intro C1 h1 wf X1 O1 g1 l1
          have ha := X1.at
          have i92 := X1.i9
          have r2 := c_sign X1
          have r3 := r_factorOp h1 (if tS b n i' = 6 then nI (tV b n i') else -1)
          rw [fc_sg X1.hb] at r3
          repeat (first | (refine W1 rfl ?_; try refine Wp.norm (L' := [_, _, _, _, _]) rfl ?_) | ((first | change (_ → _) ∧ (_ → _) | change vp_in _ _ ∧ _ | change ¬ _ ∧ _); simp (disch := omega) only [nI_clamp, nI_leI, nI_ltI, nI_eq, nI_1, nI_add, nI_not_neg, nI_is_pos, nI_m1, nI_z]) | refine brT (by first | assumption | decide | omega) ?_ | refine brF (by first | assumption | decide | omega) ?_ | refine brTn (by first | assumption | decide | omega) ?_ | refine brFn (by first | assumption | decide | omega) ?_ | refine And.intro (vp_in_nI (by omega) (by decide)) ?_ | refine And.intro (vp_lit (by decide)) ?_ | refine divJ (by decide) ?_ | refine divI (by decide) ?_)
          try change _ ∧ _
          refine Cl.of r2 (by omega) ?_
          repeat (first | (refine W1 rfl ?_; try refine Wp.norm (L' := [_, _, _, _, _]) rfl ?_) | ((first | change (_ → _) ∧ (_ → _) | change vp_in _ _ ∧ _ | change ¬ _ ∧ _); simp (disch := omega) only [nI_clamp, nI_leI, nI_ltI, nI_eq, nI_1, nI_add, nI_not_neg, nI_is_pos, nI_m1, nI_z]) | refine brT (by first | assumption | decide | omega) ?_ | refine brF (by first | assumption | decide | omega) ?_ | refine brTn (by first | assumption | decide | omega) ?_ | refine brFn (by first | assumption | decide | omega) ?_ | refine And.intro (vp_in_nI (by omega) (by decide)) ?_ | refine And.intro (vp_lit (by decide)) ?_ | refine divJ (by decide) ?_ | refine divI (by decide) ?_)
          try change _ ∧ _
          refine Cl.of r3 (by omega) ?_
          show Wp (d + 1) j_Reader_readSum _ _ _ _ _
          have hr := fctC_r (sgV b n i')
          by_cases c : fctC (sgV b n i') = 0
          · rw [c, cz_0]
            by_cases ct : t = 0
            · subst ct
              rw [cz_0]
              have ih := a70 C1 h1 0 0 X1 O1 c (fun x W h1 h2 => g1 x W h1 h2) (by have : C1.length + 0 + i0 ≤ C0.length + i' := l1; omega)
              repeat (first | refine Wp.at ih rfl rfl ?_ rfl | (refine W1 rfl ?_; try refine Wp.norm (L' := [_, _, _, _, _]) rfl ?_) | ((first | change (_ → _) ∧ (_ → _) | change vp_in _ _ ∧ _ | change ¬ _ ∧ _); simp (disch := omega) only [nI_clamp, nI_leI, nI_ltI, nI_eq, nI_1, nI_add, nI_not_neg, nI_is_pos, nI_m1, nI_z]) | refine brT (by first | assumption | decide | omega) ?_ | refine brF (by first | assumption | decide | omega) ?_ | refine brTn (by first | assumption | decide | omega) ?_ | refine brFn (by first | assumption | decide | omega) ?_ | refine And.intro (vp_in_nI (by omega) (by decide)) ?_ | refine And.intro (vp_lit (by decide)) ?_ | refine divJ (by decide) ?_ | refine divI (by decide) ?_)
              try change _ ∧ _
              first | done | rfl | (simp (disch := omega) only [nI_1, nI_add, nI_clamp] <;> first | done | rfl)
            · have htr := ht.resolve_left ct
              have hcz := cz_ne (Or.inr htr)
              rw [pendL_t ct] at g1 l1
              have l1 : C1.length + 1 + i0 ≤ C0.length + i' := l1
              obtain ⟨h2, re, O2, X2⟩ := c_emit (x := t) (y := cz t) X1 (by omega) (cz_cv (Or.inr htr))
              repeat (first | (refine W1 rfl ?_; try refine Wp.norm (L' := [_, _, _, _, _]) rfl ?_) | ((first | change (_ → _) ∧ (_ → _) | change vp_in _ _ ∧ _ | change ¬ _ ∧ _); simp (disch := omega) only [nI_clamp, nI_leI, nI_ltI, nI_eq, nI_1, nI_add, nI_not_neg, nI_is_pos, nI_m1, nI_z]) | refine brT (by first | assumption | decide | omega) ?_ | refine brF (by first | assumption | decide | omega) ?_ | refine brTn (by first | assumption | decide | omega) ?_ | refine brFn (by first | assumption | decide | omega) ?_ | refine And.intro (vp_in_nI (by omega) (by decide)) ?_ | refine And.intro (vp_lit (by decide)) ?_ | refine divJ (by decide) ?_ | refine divI (by decide) ?_)
              try change _ ∧ _
              refine Cl.of re (by omega) ?_
              show Wp (d + 1) j_Reader_readSum 70 _ _ _ _
              refine a70 (C1 ++ [t]) h2 0 (cz t) X2 (O1.trans O2) c (fun x W h1 h2 => (g1 x W h1 h2).trans (qGo.one (qA_tr (by rcases htr with rfl | rfl <;> decide) c htr))) (by rw [List.length_append]; exact l1)
          · have hr := hr.resolve_left c
            have hcz := cz_ne (Or.inl hr)
            have X3 := X1.nx (sg_ps (b := b) (n := n) (i := i') (fun z => c (by rw [z]; rfl)))
            have ih := ih (i' + 1) C1 _ (fctC (sgV b n i')) t (k + 1) (by omega) X3 (Or.inr hr) ht (o17 O1) (fun x W hx1 hx2 => (g1 x W hx1 hx2).trans (by
              rw [pendL_f c]
              by_cases ct : t = 0
              · subst ct
                exact qGo.one (qA_f hx1 c)
              · rw [pendL_t ct]
                exact qGo.one (qA_f (by rcases ht.resolve_left ct with rfl | rfl <;> decide) c))) (by omega) (by rw [pendL_f c]; show C1.length + ((pendL 0 t).length + 1) + i0 ≤ _; omega)
            repeat (first | refine Wp.at ih rfl rfl ?_ ?_ | (refine W1 rfl ?_; try refine Wp.norm (L' := [_, _, _, _, _]) rfl ?_) | ((first | change (_ → _) ∧ (_ → _) | change vp_in _ _ ∧ _ | change ¬ _ ∧ _); simp (disch := omega) only [nI_clamp, nI_leI, nI_ltI, nI_eq, nI_1, nI_add, nI_not_neg, nI_is_pos, nI_m1, nI_z]) | refine brT (by first | assumption | decide | omega) ?_ | refine brF (by first | assumption | decide | omega) ?_ | refine brTn (by first | assumption | decide | omega) ?_ | refine brFn (by first | assumption | decide | omega) ?_ | refine And.intro (vp_in_nI (by omega) (by decide)) ?_ | refine And.intro (vp_lit (by decide)) ?_ | refine divJ (by decide) ?_ | refine divI (by decide) ?_)
            try change _ ∧ _
            · first | done | rfl | (simp (disch := omega) only [nI_1, nI_add, nI_clamp] <;> first | done | rfl)
            · rw [ha]
              first | done | rfl | (simp (disch := omega) only [nI_1, nI_add, nI_clamp] <;> first | done | rfl)
        by_cases cf : f = 0
        · subst cf
          rw [cz_0]
          have ih := a39 C' h1 0 Y (O.trans O1) (fun x W h1 h2 => (go x W h1 h2).trans (gp _)) (by omega)
          repeat (first | refine Wp.at ih rfl rfl ?_ rfl | (refine W1 rfl ?_; try refine Wp.norm (L' := [_, _, _, _, _]) rfl ?_) | ((first | change (_ → _) ∧ (_ → _) | change vp_in _ _ ∧ _ | change ¬ _ ∧ _); simp (disch := omega) only [nI_clamp, nI_leI, nI_ltI, nI_eq, nI_1, nI_add, nI_not_neg, nI_is_pos, nI_m1, nI_z]) | refine brT (by first | assumption | decide | omega) ?_ | refine brF (by first | assumption | decide | omega) ?_ | refine brTn (by first | assumption | decide | omega) ?_ | refine brFn (by first | assumption | decide | omega) ?_ | refine And.intro (vp_in_nI (by omega) (by decide)) ?_ | refine And.intro (vp_lit (by decide)) ?_ | refine divJ (by decide) ?_ | refine divI (by decide) ?_)
          try change _ ∧ _
          first | done | rfl | (simp (disch := omega) only [nI_1, nI_add, nI_clamp] <;> first | done | rfl)
        · have hfr := hf.resolve_left cf
          have hcz := cz_ne (Or.inl hfr)
          rw [pendL_f cf] at go hlen
          have hlen : C.length + ((pendL 0 t).length + 1) + i0 ≤ C0.length + i := hlen
          have i92 := Y.i9
          obtain ⟨h2, re, O2, X2⟩ := c_emit (x := f) (y := cz f) Y (by omega) (cz_cv (Or.inl hfr))
          repeat (first | (refine W1 rfl ?_; try refine Wp.norm (L' := [_, _, _, _, _]) rfl ?_) | ((first | change (_ → _) ∧ (_ → _) | change vp_in _ _ ∧ _ | change ¬ _ ∧ _); simp (disch := omega) only [nI_clamp, nI_leI, nI_ltI, nI_eq, nI_1, nI_add, nI_not_neg, nI_is_pos, nI_m1, nI_z]) | refine brT (by first | assumption | decide | omega) ?_ | refine brF (by first | assumption | decide | omega) ?_ | refine brTn (by first | assumption | decide | omega) ?_ | refine brFn (by first | assumption | decide | omega) ?_ | refine And.intro (vp_in_nI (by omega) (by decide)) ?_ | refine And.intro (vp_lit (by decide)) ?_ | refine divJ (by decide) ?_ | refine divI (by decide) ?_)
          try change _ ∧ _
          refine Cl.of re (by omega) ?_
          show Wp (d + 1) j_Reader_readSum 39 _ _ _ _
          exact a39 (C' ++ [f]) h2 (cz f) X2 ((O.trans O1).trans O2) (fun x W h1 h2 => ((go x W h1 h2).trans (gp _)).trans (qGo.one (qA_pr hfr))) (by rw [List.length_append]; show C'.length + 1 + (pendL 0 t).length + i0 ≤ _; omega)
      · refine sum_f27 Y (fun h' Z O2 => ?_)
        rw [← hQQ]
        exact ⟨rfl, (O.trans O1).trans O2, Or.inr ⟨f', p, Z, fun x W h1 h2 => (go x W h1 h2).trans (gp _)⟩⟩
  have ih := lp 901 i0 C0 h0 0 0 0 (by omega) X0 (Or.inl rfl) (Or.inl rfl) (onlyJ.rfl _ _ h0) (fun x W _ _ => qGo.rfl _) (by omega) (by rw [pendL_0]; exact Nat.le_refl _)
  rw [cz_0] at ih
  repeat (first | refine Wp.at ih rfl rfl ?_ rfl | (refine W1 rfl ?_; try refine Wp.norm (L' := [_, _, _, _, _]) rfl ?_) | ((first | change (_ → _) ∧ (_ → _) | change vp_in _ _ ∧ _ | change ¬ _ ∧ _); simp (disch := omega) only [nI_clamp, nI_leI, nI_ltI, nI_eq, nI_1, nI_add, nI_not_neg, nI_is_pos, nI_m1, nI_z]) | refine brT (by first | assumption | decide | omega) ?_ | refine brF (by first | assumption | decide | omega) ?_ | refine brTn (by first | assumption | decide | omega) ?_ | refine brFn (by first | assumption | decide | omega) ?_ | refine And.intro (vp_in_nI (by omega) (by decide)) ?_ | refine And.intro (vp_lit (by decide)) ?_ | refine divJ (by decide) ?_ | refine divI (by decide) ?_)
  try change _ ∧ _
  first | done | rfl | (simp (disch := omega) only [nI_1, nI_add, nI_clamp] <;> first | done | rfl)
/-- the depth -/
theorem c_sums (q : Nat) : ∀ e dp, dp + e = 6 → ∀ h i C, CS b n i s C q h → C.length ≤ i → ∃ h', Run (2 * e + 2) j_Reader_readSum [.ref 17, .int (nI dp)] h none h' ∧ onlyJ rdL [] h h' ∧ SO b n i dp C s q h' := by
  intro e
  induction e with
  | zero =>
    intro dp he h i C X hl
    obtain ⟨w, h', r, rfl, O, S⟩ := c_sum (d := 1) (dp := dp) (by omega) (fun h i C X hl => c_part (d := 0) (dp := dp) (by omega) (fun z => by omega) X hl) X hl
    exact ⟨h', r, O, S⟩
  | succ e ih =>
    intro dp he h i C X hl
    obtain ⟨w, h', r, rfl, O, S⟩ := c_sum (d := 2 * e + 3) (dp := dp) (by omega) (fun h i C X hl => c_part (d := 2 * e + 2) (dp := dp) (by omega) (fun _ h i C X hl => ih (dp + 1) (by omega) h i C X hl) X hl) X hl
    exact ⟨h', r, O, S⟩
end CSM2
