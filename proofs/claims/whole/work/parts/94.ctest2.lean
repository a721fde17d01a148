/-! ===== THE CLASS READS TESTS: the loop ===== -/
def pendT (a o : Bool) : List Nat := (if a = true then [14] else []) ++ (if o = true then [15] else [])
section CTS2
variable {b : Nat → Nat} {n : Nat} {s : ST} {C : List Nat} {h h' : HP}
theorem tst_f90 {d f p : Nat} {dp wf wt k : Int32} {Q : QT} (X : CF b n f p h) (hQ : ∀ h', CF b n f p h' → onlyJ rdL [] h h' → Q none h') : Wp (d + 1) j_Reader_readTest 90 [.ref 17, .int dp, .int wf, .int wt, .int k] [] h Q := by
  have X1 := X.w (i := 4) (x := h.1 17 4 + 1) (Or.inl rfl)
  have hne := X1.ne
  show Wp (d + 1) j_Reader_readTest _ _ _ _ _
  repeat (first | (refine W1 rfl ?_; try refine Wp.norm (L' := [_, _, _, _, _]) rfl ?_) | ((first | change (_ → _) ∧ (_ → _) | change vp_in _ _ ∧ _ | change ¬ _ ∧ _); simp (disch := omega) only [nI_clamp, nI_leI, nI_ltI, nI_eq, nI_1, nI_add, nI_not_neg, nI_is_pos, nI_m1, nI_z]) | refine brT (by first | assumption | decide | omega) ?_ | refine brF (by first | assumption | decide | omega) ?_ | refine brTn (by first | assumption | decide | omega) ?_ | refine brFn (by first | assumption | decide | omega) ?_ | refine And.intro (vp_in_nI (by omega) (by decide)) ?_ | refine And.intro (vp_lit (by decide)) ?_ | refine divJ (by decide) ?_ | refine divI (by decide) ?_)
  try change _ ∧ _
  refine ⟨fun z => ?_, fun z => ?_⟩
  · repeat (first | (refine W1 rfl ?_; try refine Wp.norm (L' := [_, _, _, _, _]) rfl ?_) | ((first | change (_ → _) ∧ (_ → _) | change vp_in _ _ ∧ _ | change ¬ _ ∧ _); simp (disch := omega) only [nI_clamp, nI_leI, nI_ltI, nI_eq, nI_1, nI_add, nI_not_neg, nI_is_pos, nI_m1, nI_z]) | refine brT (by first | assumption | decide | omega) ?_ | refine brF (by first | assumption | decide | omega) ?_ | refine brTn (by first | assumption | decide | omega) ?_ | refine brFn (by first | assumption | decide | omega) ?_ | refine And.intro (vp_in_nI (by omega) (by decide)) ?_ | refine And.intro (vp_lit (by decide)) ?_ | refine divJ (by decide) ?_ | refine divI (by decide) ?_)
    try change _ ∧ _
    exact hQ _ X1 (o17 (onlyJ.rfl _ _ h))
  · repeat (first | (refine W1 rfl ?_; try refine Wp.norm (L' := [_, _, _, _, _]) rfl ?_) | ((first | change (_ → _) ∧ (_ → _) | change vp_in _ _ ∧ _ | change ¬ _ ∧ _); simp (disch := omega) only [nI_clamp, nI_leI, nI_ltI, nI_eq, nI_1, nI_add, nI_not_neg, nI_is_pos, nI_m1, nI_z]) | refine brT (by first | assumption | decide | omega) ?_ | refine brF (by first | assumption | decide | omega) ?_ | refine brTn (by first | assumption | decide | omega) ?_ | refine brFn (by first | assumption | decide | omega) ?_ | refine And.intro (vp_in_nI (by omega) (by decide)) ?_ | refine And.intro (vp_lit (by decide)) ?_ | refine divJ (by decide) ?_ | refine divI (by decide) ?_)
    try change _ ∧ _
    exact hQ _ X1 (o17 (onlyJ.rfl _ _ h))
theorem tst_f71 {d f p : Nat} {dp wf wt k : Int32} {Q : QT} (X : CF b n f p h) (hQ : ∀ h', CF b n f p h' → onlyJ rdL [] h h' → Q none h') : Wp (d + 1) j_Reader_readTest 71 [.ref 17, .int dp, .int wf, .int wt, .int k] [] h Q := by
  obtain ⟨w1, r1⟩ := x_isOwn X.1 (h.1 17 4) 13
  show Wp (d + 1) j_Reader_readTest _ _ _ _ _
  repeat (first | (refine W1 rfl ?_; try refine Wp.norm (L' := [_, _, _, _, _]) rfl ?_) | ((first | change (_ → _) ∧ (_ → _) | change vp_in _ _ ∧ _ | change ¬ _ ∧ _); simp (disch := omega) only [nI_clamp, nI_leI, nI_ltI, nI_eq, nI_1, nI_add, nI_not_neg, nI_is_pos, nI_m1, nI_z]) | refine brT (by first | assumption | decide | omega) ?_ | refine brF (by first | assumption | decide | omega) ?_ | refine brTn (by first | assumption | decide | omega) ?_ | refine brFn (by first | assumption | decide | omega) ?_ | refine And.intro (vp_in_nI (by omega) (by decide)) ?_ | refine And.intro (vp_lit (by decide)) ?_ | refine divJ (by decide) ?_ | refine divI (by decide) ?_)
  try change _ ∧ _
  refine Cl.of r1 (by omega) ?_
  show Wp (d + 1) j_Reader_readTest _ _ _ _ _
  repeat (first | (refine W1 rfl ?_; try refine Wp.norm (L' := [_, _, _, _, _]) rfl ?_) | ((first | change (_ → _) ∧ (_ → _) | change vp_in _ _ ∧ _ | change ¬ _ ∧ _); simp (disch := omega) only [nI_clamp, nI_leI, nI_ltI, nI_eq, nI_1, nI_add, nI_not_neg, nI_is_pos, nI_m1, nI_z]) | refine brT (by first | assumption | decide | omega) ?_ | refine brF (by first | assumption | decide | omega) ?_ | refine brTn (by first | assumption | decide | omega) ?_ | refine brFn (by first | assumption | decide | omega) ?_ | refine And.intro (vp_in_nI (by omega) (by decide)) ?_ | refine And.intro (vp_lit (by decide)) ?_ | refine divJ (by decide) ?_ | refine divI (by decide) ?_)
  try change _ ∧ _
  refine ⟨fun z => ?_, fun z => ?_⟩
  · exact tst_f90 X hQ
  · repeat (first | (refine W1 rfl ?_; try refine Wp.norm (L' := [_, _, _, _, _]) rfl ?_) | ((first | change (_ → _) ∧ (_ → _) | change vp_in _ _ ∧ _ | change ¬ _ ∧ _); simp (disch := omega) only [nI_clamp, nI_leI, nI_ltI, nI_eq, nI_1, nI_add, nI_not_neg, nI_is_pos, nI_m1, nI_z]) | refine brT (by first | assumption | decide | omega) ?_ | refine brF (by first | assumption | decide | omega) ?_ | refine brTn (by first | assumption | decide | omega) ?_ | refine brFn (by first | assumption | decide | omega) ?_ | refine And.intro (vp_in_nI (by omega) (by decide)) ?_ | refine And.intro (vp_lit (by decide)) ?_ | refine divJ (by decide) ?_ | refine divI (by decide) ?_)
    try change _ ∧ _
    exact hQ _ X (onlyJ.rfl _ _ h)
theorem tst_f40 {d f p : Nat} {dp wf wt k : Int32} {Q : QT} (X : CF b n f p h) (hQ : ∀ h', CF b n f p h' → onlyJ rdL [] h h' → Q none h') : Wp (d + 1) j_Reader_readTest 40 [.ref 17, .int dp, .int wf, .int wt, .int k] [] h Q := by
  obtain ⟨w1, r1⟩ := x_isOwn X.1 (h.1 17 4) 14
  obtain ⟨h1, r3, O1, X1⟩ := f_emit (-15) X
  show Wp (d + 1) j_Reader_readTest _ _ _ _ _
  repeat (first | (refine W1 rfl ?_; try refine Wp.norm (L' := [_, _, _, _, _]) rfl ?_) | ((first | change (_ → _) ∧ (_ → _) | change vp_in _ _ ∧ _ | change ¬ _ ∧ _); simp (disch := omega) only [nI_clamp, nI_leI, nI_ltI, nI_eq, nI_1, nI_add, nI_not_neg, nI_is_pos, nI_m1, nI_z]) | refine brT (by first | assumption | decide | omega) ?_ | refine brF (by first | assumption | decide | omega) ?_ | refine brTn (by first | assumption | decide | omega) ?_ | refine brFn (by first | assumption | decide | omega) ?_ | refine And.intro (vp_in_nI (by omega) (by decide)) ?_ | refine And.intro (vp_lit (by decide)) ?_ | refine divJ (by decide) ?_ | refine divI (by decide) ?_)
  try change _ ∧ _
  refine Cl.of r1 (by omega) ?_
  show Wp (d + 1) j_Reader_readTest _ _ _ _ _
  repeat (first | (refine W1 rfl ?_; try refine Wp.norm (L' := [_, _, _, _, _]) rfl ?_) | ((first | change (_ → _) ∧ (_ → _) | change vp_in _ _ ∧ _ | change ¬ _ ∧ _); simp (disch := omega) only [nI_clamp, nI_leI, nI_ltI, nI_eq, nI_1, nI_add, nI_not_neg, nI_is_pos, nI_m1, nI_z]) | refine brT (by first | assumption | decide | omega) ?_ | refine brF (by first | assumption | decide | omega) ?_ | refine brTn (by first | assumption | decide | omega) ?_ | refine brFn (by first | assumption | decide | omega) ?_ | refine And.intro (vp_in_nI (by omega) (by decide)) ?_ | refine And.intro (vp_lit (by decide)) ?_ | refine divJ (by decide) ?_ | refine divI (by decide) ?_)
  try change _ ∧ _
  refine ⟨fun z => ?_, fun z => ?_⟩
  · exact tst_f90 X hQ
  · repeat (first | (refine W1 rfl ?_; try refine Wp.norm (L' := [_, _, _, _, _]) rfl ?_) | ((first | change (_ → _) ∧ (_ → _) | change vp_in _ _ ∧ _ | change ¬ _ ∧ _); simp (disch := omega) only [nI_clamp, nI_leI, nI_ltI, nI_eq, nI_1, nI_add, nI_not_neg, nI_is_pos, nI_m1, nI_z]) | refine brT (by first | assumption | decide | omega) ?_ | refine brF (by first | assumption | decide | omega) ?_ | refine brTn (by first | assumption | decide | omega) ?_ | refine brFn (by first | assumption | decide | omega) ?_ | refine And.intro (vp_in_nI (by omega) (by decide)) ?_ | refine And.intro (vp_lit (by decide)) ?_ | refine divJ (by decide) ?_ | refine divI (by decide) ?_)
    try change _ ∧ _
    refine ⟨fun z => ?_, fun z => ?_⟩
    · exact tst_f71 X hQ
    · repeat (first | (refine W1 rfl ?_; try refine Wp.norm (L' := [_, _, _, _, _]) rfl ?_) | ((first | change (_ → _) ∧ (_ → _) | change vp_in _ _ ∧ _ | change ¬ _ ∧ _); simp (disch := omega) only [nI_clamp, nI_leI, nI_ltI, nI_eq, nI_1, nI_add, nI_not_neg, nI_is_pos, nI_m1, nI_z]) | refine brT (by first | assumption | decide | omega) ?_ | refine brF (by first | assumption | decide | omega) ?_ | refine brTn (by first | assumption | decide | omega) ?_ | refine brFn (by first | assumption | decide | omega) ?_ | refine And.intro (vp_in_nI (by omega) (by decide)) ?_ | refine And.intro (vp_lit (by decide)) ?_ | refine divJ (by decide) ?_ | refine divI (by decide) ?_)
      try change _ ∧ _
      refine Cl.of r3 (by omega) ?_
      exact tst_f71 X1 (fun h' Y O => hQ h' Y (O1.trans O))
theorem tst_f27 {d f p : Nat} {dp wf wt k : Int32} {Q : QT} (X : CF b n f p h) (hQ : ∀ h', CF b n f p h' → onlyJ rdL [] h h' → Q none h') : Wp (d + 1) j_Reader_readTest 27 [.ref 17, .int dp, .int wf, .int wt, .int k] [] h Q := by
  obtain ⟨h1, r3, O1, X1⟩ := f_emit (-14) X
  show Wp (d + 1) j_Reader_readTest _ _ _ _ _
  repeat (first | (refine W1 rfl ?_; try refine Wp.norm (L' := [_, _, _, _, _]) rfl ?_) | ((first | change (_ → _) ∧ (_ → _) | change vp_in _ _ ∧ _ | change ¬ _ ∧ _); simp (disch := omega) only [nI_clamp, nI_leI, nI_ltI, nI_eq, nI_1, nI_add, nI_not_neg, nI_is_pos, nI_m1, nI_z]) | refine brT (by first | assumption | decide | omega) ?_ | refine brF (by first | assumption | decide | omega) ?_ | refine brTn (by first | assumption | decide | omega) ?_ | refine brFn (by first | assumption | decide | omega) ?_ | refine And.intro (vp_in_nI (by omega) (by decide)) ?_ | refine And.intro (vp_lit (by decide)) ?_ | refine divJ (by decide) ?_ | refine divI (by decide) ?_)
  try change _ ∧ _
  refine ⟨fun z => ?_, fun z => ?_⟩
  · exact tst_f40 X hQ
  · repeat (first | (refine W1 rfl ?_; try refine Wp.norm (L' := [_, _, _, _, _]) rfl ?_) | ((first | change (_ → _) ∧ (_ → _) | change vp_in _ _ ∧ _ | change ¬ _ ∧ _); simp (disch := omega) only [nI_clamp, nI_leI, nI_ltI, nI_eq, nI_1, nI_add, nI_not_neg, nI_is_pos, nI_m1, nI_z]) | refine brT (by first | assumption | decide | omega) ?_ | refine brF (by first | assumption | decide | omega) ?_ | refine brTn (by first | assumption | decide | omega) ?_ | refine brFn (by first | assumption | decide | omega) ?_ | refine And.intro (vp_in_nI (by omega) (by decide)) ?_ | refine And.intro (vp_lit (by decide)) ?_ | refine divJ (by decide) ?_ | refine divI (by decide) ?_)
    try change _ ∧ _
    refine Cl.of r3 (by omega) ?_
    exact tst_f40 X1 (fun h' Y O => hQ h' Y (O1.trans O))
theorem c_test {d dp q : Nat} (hdp : dp ≤ 6) (hP : ∀ h i C, CS b n i s C q h → C.length ≤ i → ∃ w h', Run d j_Reader_readFact [.ref 17, .int (nI dp)] h w h' ∧ (w = none ∧ onlyJ rdL [] h h' ∧ FT b n i dp C s q h')) {h0 : HP} {i0 : Nat} {C0 : List Nat} (X0 : CS b n i0 s C0 q h0) (hl0 : C0.length ≤ i0) : ∃ w h', Run (d + 1) j_Reader_readTest [.ref 17, .int (nI dp)] h0 w h' ∧ (w = none ∧ onlyJ rdL [] h0 h' ∧ TT b n i0 dp C0 s q h') := by
  refine Run.ofP rfl ?_
  refine Wp.norm (L' := [_, _, _, _, _]) rfl ?_
  generalize hQQ : (fun (w : Option Value) (h' : HP) => w = none ∧ onlyJ rdL [] h0 h' ∧ TT b n i0 dp C0 s q h') = QQ
  have lp : ∀ e i C h (f t : Bool) k, 901 ≤ i + e → CS b n i s C q h → onlyJ rdL [] h0 h → (∀ W, bot W → qGo b n (3, i0, W, dp, C0, s) (3, i, pendT f t ++ W, dp, C, s)) → i0 + 2 * k ≤ i → C.length + (pendT f t).length + i0 ≤ C0.length + i → Wp (d + 1) j_Reader_readTest 7 [.ref 17, .int (nI dp), .int (bI f), .int (bI t), .int (nI k)] [] h QQ := by
    intro e
    induction e with
    | zero =>
      intro i C h f t k he X
      have := X.i9
      omega
    | succ e ih =>
      intro i C h f t k he X O go hk hlen
      have i9 := X.i9
      have f0 := X.f0
      obtain ⟨w, h1, r1, rfl, O1, P1⟩ := hP h i C X (by omega)
      repeat (first | (refine W1 rfl ?_; try refine Wp.norm (L' := [_, _, _, _, _]) rfl ?_) | ((first | change (_ → _) ∧ (_ → _) | change vp_in _ _ ∧ _ | change ¬ _ ∧ _); simp (disch := omega) only [nI_clamp, nI_leI, nI_ltI, nI_eq, nI_1, nI_add, nI_not_neg, nI_is_pos, nI_m1, nI_z, f0, show (900 : Int32) = nI 900 from rfl]) | refine brT (by first | assumption | decide | omega) ?_ | refine brF (by first | assumption | decide | omega) ?_ | refine brTn (by first | assumption | decide | omega) ?_ | refine brFn (by first | assumption | decide | omega) ?_ | refine And.intro (vp_in_nI (by omega) (by decide)) ?_ | refine And.intro (vp_lit (by decide)) ?_ | refine divJ (by decide) ?_ | refine divI (by decide) ?_)
      try change _ ∧ _
      refine Cl.of r1 (by omega) ?_
      show Wp (d + 1) j_Reader_readTest 27 _ _ _ _
      rcases P1 with ⟨i', C', Y, hii, hll, gp⟩ | ⟨f', p, Y, gp⟩
      · have a71 : ∀ C2 h2 (wf wt : Int32), CS b n i' s C2 q h2 → onlyJ rdL [] h0 h2 → owV b n i' ≠ 14 → (∀ W, bot W → qGo b n (3, i0, W, dp, C0, s) (4, i', W, dp, C2, s)) → C2.length + i0 ≤ C0.length + i' → Wp (d + 1) j_Reader_readTest 71 [.ref 17, .int (nI dp), .int (bI false), .int wt, .int (nI k)] [] h2 QQ := by
          intro C2 h2 wf wt X2 O2 hfc g2 l2
          have ha := X2.at
          have i92 := X2.i9
          have r2 := c_isOwn (w := 13) X2 (by decide)
          repeat (first | (refine W1 rfl ?_; try refine Wp.norm (L' := [_, _, _, _, _]) rfl ?_) | ((first | change (_ → _) ∧ (_ → _) | change vp_in _ _ ∧ _ | change ¬ _ ∧ _); simp (disch := omega) only [nI_clamp, nI_leI, nI_ltI, nI_eq, nI_1, nI_add, nI_not_neg, nI_is_pos, nI_m1, nI_z]) | refine brT (by first | assumption | decide | omega) ?_ | refine brF (by first | assumption | decide | omega) ?_ | refine brTn (by first | assumption | decide | omega) ?_ | refine brFn (by first | assumption | decide | omega) ?_ | refine And.intro (vp_in_nI (by omega) (by decide)) ?_ | refine And.intro (vp_lit (by decide)) ?_ | refine divJ (by decide) ?_ | refine divI (by decide) ?_)
          try change _ ∧ _
          refine Cl.of r2 (by omega) ?_
          show Wp (d + 1) j_Reader_readTest _ _ _ _ _
          by_cases c : owV b n i' = 13
          · rw [decide_eq_true c]
            have X3 := X2.nx (ow_ps (b := b) (n := n) (i := i') (by omega))
            have ih := ih (i' + 1) C2 _ false true (k + 1) (by omega) X3 (o17 O2) (fun W hW => (g2 W hW).trans (by
              rcases hW with rfl | ⟨V, rfl⟩
              · exact qGo.one (qF_nO c)
              · exact qGo.one (qF_or rfl c))) (by omega) (by show C2.length + 1 + i0 ≤ _; omega)
            rw [bI_t] at ih ⊢
            repeat (first | refine Wp.at ih rfl rfl ?_ ?_ | (refine W1 rfl ?_; try refine Wp.norm (L' := [_, _, _, _, _]) rfl ?_) | ((first | change (_ → _) ∧ (_ → _) | change vp_in _ _ ∧ _ | change ¬ _ ∧ _); simp (disch := omega) only [nI_clamp, nI_leI, nI_ltI, nI_eq, nI_1, nI_add, nI_not_neg, nI_is_pos, nI_m1, nI_z]) | refine brT (by first | assumption | decide | omega) ?_ | refine brF (by first | assumption | decide | omega) ?_ | refine brTn (by first | assumption | decide | omega) ?_ | refine brFn (by first | assumption | decide | omega) ?_ | refine And.intro (vp_in_nI (by omega) (by decide)) ?_ | refine And.intro (vp_lit (by decide)) ?_ | refine divJ (by decide) ?_ | refine divI (by decide) ?_)
            try change _ ∧ _
            · first | done | rfl | (simp (disch := omega) only [nI_1, nI_add, nI_clamp] <;> first | done | rfl)
            · rw [ha]
              first | done | rfl | (simp (disch := omega) only [nI_1, nI_add, nI_clamp] <;> first | done | rfl)
          · rw [decide_eq_false c]
            simp only [bI_f]
            repeat (first | (refine W1 rfl ?_; try refine Wp.norm (L' := [_, _, _, _, _]) rfl ?_) | ((first | change (_ → _) ∧ (_ → _) | change vp_in _ _ ∧ _ | change ¬ _ ∧ _); simp (disch := omega) only [nI_clamp, nI_leI, nI_ltI, nI_eq, nI_1, nI_add, nI_not_neg, nI_is_pos, nI_m1, nI_z]) | refine brT (by first | assumption | decide | omega) ?_ | refine brF (by first | assumption | decide | omega) ?_ | refine brTn (by first | assumption | decide | omega) ?_ | refine brFn (by first | assumption | decide | omega) ?_ | refine And.intro (vp_in_nI (by omega) (by decide)) ?_ | refine And.intro (vp_lit (by decide)) ?_ | refine divJ (by decide) ?_ | refine divI (by decide) ?_)
            try change _ ∧ _
            rw [← hQQ]
            exact ⟨rfl, O2, Or.inl ⟨i', C2, X2, by omega, by omega, ⟨hfc, c⟩, g2⟩⟩
        have a40 : ∀ C1 h1 (wf : Int32), CS b n i' s C1 q h1 → onlyJ rdL [] h0 h1 → (∀ W, bot W → qGo b n (3, i0, W, dp, C0, s) (4, i', pendT false t ++ W, dp, C1, s)) → C1.length + (pendT false t).length + i0 ≤ C0.length + i' → Wp (d + 1) j_Reader_readTest 40 [.ref 17, .int (nI dp), .int wf, .int (bI t), .int (nI k)] [] h1 QQ := by
          intro C1 h1 wf X1 O1 g1 l1
          have ha := X1.at
          have i92 := X1.i9
          have r2 := c_isOwn (w := 14) X1 (by decide)
          repeat (first | (refine W1 rfl ?_; try refine Wp.norm (L' := [_, _, _, _, _]) rfl ?_) | ((first | change (_ → _) ∧ (_ → _) | change vp_in _ _ ∧ _ | change ¬ _ ∧ _); simp (disch := omega) only [nI_clamp, nI_leI, nI_ltI, nI_eq, nI_1, nI_add, nI_not_neg, nI_is_pos, nI_m1, nI_z]) | refine brT (by first | assumption | decide | omega) ?_ | refine brF (by first | assumption | decide | omega) ?_ | refine brTn (by first | assumption | decide | omega) ?_ | refine brFn (by first | assumption | decide | omega) ?_ | refine And.intro (vp_in_nI (by omega) (by decide)) ?_ | refine And.intro (vp_lit (by decide)) ?_ | refine divJ (by decide) ?_ | refine divI (by decide) ?_)
          try change _ ∧ _
          refine Cl.of r2 (by omega) ?_
          show Wp (d + 1) j_Reader_readTest _ _ _ _ _
          by_cases c : owV b n i' = 14
          · rw [decide_eq_true c]
            have X3 := X1.nx (ow_ps (b := b) (n := n) (i := i') (by omega))
            have ih := ih (i' + 1) C1 _ true t (k + 1) (by omega) X3 (o17 O1) (fun W hW => (g1 W hW).trans (by
              cases t with
              | true => exact qGo.one (qF_and (by decide) (by decide) c)
              | false =>
                rcases hW with rfl | ⟨V, rfl⟩
                · exact qGo.one (qF_nA c)
                · exact qGo.one (qF_and (by decide) (by decide) c))) (by omega) (by
                cases t with
                | true => (show C1.length + 2 + i0 ≤ _; have l1 : C1.length + 1 + i0 ≤ C0.length + i' := l1; omega)
                | false => (show C1.length + 1 + i0 ≤ _; have l1 : C1.length + 0 + i0 ≤ C0.length + i' := l1; omega))
            rw [bI_t] at ih ⊢
            repeat (first | refine Wp.at ih rfl rfl ?_ ?_ | (refine W1 rfl ?_; try refine Wp.norm (L' := [_, _, _, _, _]) rfl ?_) | ((first | change (_ → _) ∧ (_ → _) | change vp_in _ _ ∧ _ | change ¬ _ ∧ _); simp (disch := omega) only [nI_clamp, nI_leI, nI_ltI, nI_eq, nI_1, nI_add, nI_not_neg, nI_is_pos, nI_m1, nI_z]) | refine brT (by first | assumption | decide | omega) ?_ | refine brF (by first | assumption | decide | omega) ?_ | refine brTn (by first | assumption | decide | omega) ?_ | refine brFn (by first | assumption | decide | omega) ?_ | refine And.intro (vp_in_nI (by omega) (by decide)) ?_ | refine And.intro (vp_lit (by decide)) ?_ | refine divJ (by decide) ?_ | refine divI (by decide) ?_)
            try change _ ∧ _
            · first | done | rfl | (simp (disch := omega) only [nI_1, nI_add, nI_clamp] <;> first | done | rfl)
            · rw [ha]
              first | done | rfl | (simp (disch := omega) only [nI_1, nI_add, nI_clamp] <;> first | done | rfl)
          · rw [decide_eq_false c]
            cases t with
            | false =>
              have ih := a71 C1 h1 0 0 X1 O1 c (fun W hW => g1 W hW) (by have : C1.length + 0 + i0 ≤ C0.length + i' := l1; omega)
              rw [bI_f] at ih ⊢
              repeat (first | refine Wp.at ih rfl rfl ?_ rfl | (refine W1 rfl ?_; try refine Wp.norm (L' := [_, _, _, _, _]) rfl ?_) | ((first | change (_ → _) ∧ (_ → _) | change vp_in _ _ ∧ _ | change ¬ _ ∧ _); simp (disch := omega) only [nI_clamp, nI_leI, nI_ltI, nI_eq, nI_1, nI_add, nI_not_neg, nI_is_pos, nI_m1, nI_z]) | refine brT (by first | assumption | decide | omega) ?_ | refine brF (by first | assumption | decide | omega) ?_ | refine brTn (by first | assumption | decide | omega) ?_ | refine brFn (by first | assumption | decide | omega) ?_ | refine And.intro (vp_in_nI (by omega) (by decide)) ?_ | refine And.intro (vp_lit (by decide)) ?_ | refine divJ (by decide) ?_ | refine divI (by decide) ?_)
              try change _ ∧ _
              first | done | rfl | (simp (disch := omega) only [nI_1, nI_add, nI_clamp] <;> first | done | rfl)
            | true =>
              have l1 : C1.length + 1 + i0 ≤ C0.length + i' := l1
              obtain ⟨h2, re, O2, X2⟩ := c_emit (x := 15) (y := -15) X1 (by omega) (by decide)
              have ih := a71 (C1 ++ [15]) h2 0 (bI true) X2 (O1.trans O2) c (fun W hW => (g1 W hW).trans (qGo.one (qF_15 rfl c))) (by rw [List.length_append]; exact l1)
              simp only [bI_f, bI_t] at ih ⊢
              repeat (first | (refine W1 rfl ?_; try refine Wp.norm (L' := [_, _, _, _, _]) rfl ?_) | ((first | change (_ → _) ∧ (_ → _) | change vp_in _ _ ∧ _ | change ¬ _ ∧ _); simp (disch := omega) only [nI_clamp, nI_leI, nI_ltI, nI_eq, nI_1, nI_add, nI_not_neg, nI_is_pos, nI_m1, nI_z]) | refine brT (by first | assumption | decide | omega) ?_ | refine brF (by first | assumption | decide | omega) ?_ | refine brTn (by first | assumption | decide | omega) ?_ | refine brFn (by first | assumption | decide | omega) ?_ | refine And.intro (vp_in_nI (by omega) (by decide)) ?_ | refine And.intro (vp_lit (by decide)) ?_ | refine divJ (by decide) ?_ | refine divI (by decide) ?_)
              try change _ ∧ _
              refine Cl.of re (by omega) ?_
              repeat (first | refine Wp.at ih rfl rfl ?_ rfl | (refine W1 rfl ?_; try refine Wp.norm (L' := [_, _, _, _, _]) rfl ?_) | ((first | change (_ → _) ∧ (_ → _) | change vp_in _ _ ∧ _ | change ¬ _ ∧ _); simp (disch := omega) only [nI_clamp, nI_leI, nI_ltI, nI_eq, nI_1, nI_add, nI_not_neg, nI_is_pos, nI_m1, nI_z]) | refine brT (by first | assumption | decide | omega) ?_ | refine brF (by first | assumption | decide | omega) ?_ | refine brTn (by first | assumption | decide | omega) ?_ | refine brFn (by first | assumption | decide | omega) ?_ | refine And.intro (vp_in_nI (by omega) (by decide)) ?_ | refine And.intro (vp_lit (by decide)) ?_ | refine divJ (by decide) ?_ | refine divI (by decide) ?_)
              try change _ ∧ _
              first | done | rfl | (simp (disch := omega) only [nI_1, nI_add, nI_clamp] <;> first | done | rfl)
        cases f with
        | false =>
          have ih := a40 C' h1 0 Y (O.trans O1) (fun W hW => (go W hW).trans (gp _)) (by omega)
          rw [bI_f]
          repeat (first | refine Wp.at ih rfl rfl ?_ rfl | (refine W1 rfl ?_; try refine Wp.norm (L' := [_, _, _, _, _]) rfl ?_) | ((first | change (_ → _) ∧ (_ → _) | change vp_in _ _ ∧ _ | change ¬ _ ∧ _); simp (disch := omega) only [nI_clamp, nI_leI, nI_ltI, nI_eq, nI_1, nI_add, nI_not_neg, nI_is_pos, nI_m1, nI_z]) | refine brT (by first | assumption | decide | omega) ?_ | refine brF (by first | assumption | decide | omega) ?_ | refine brTn (by first | assumption | decide | omega) ?_ | refine brFn (by first | assumption | decide | omega) ?_ | refine And.intro (vp_in_nI (by omega) (by decide)) ?_ | refine And.intro (vp_lit (by decide)) ?_ | refine divJ (by decide) ?_ | refine divI (by decide) ?_)
          try change _ ∧ _
          first | done | rfl | (simp (disch := omega) only [nI_1, nI_add, nI_clamp] <;> first | done | rfl)
        | true =>
          have hlen : C.length + ((pendT false t).length + 1) + i0 ≤ C0.length + i := hlen
          have i92 := Y.i9
          obtain ⟨h2, re, O2, X2⟩ := c_emit (x := 14) (y := -14) Y (by omega) (by decide)
          have ih := a40 (C' ++ [14]) h2 1 X2 ((O.trans O1).trans O2) (fun W hW => ((go W hW).trans (gp _)).trans (qGo.one (qF_14 rfl))) (by rw [List.length_append]; show C'.length + 1 + (pendT false t).length + i0 ≤ _; omega)
          rw [bI_t]
          repeat (first | (refine W1 rfl ?_; try refine Wp.norm (L' := [_, _, _, _, _]) rfl ?_) | ((first | change (_ → _) ∧ (_ → _) | change vp_in _ _ ∧ _ | change ¬ _ ∧ _); simp (disch := omega) only [nI_clamp, nI_leI, nI_ltI, nI_eq, nI_1, nI_add, nI_not_neg, nI_is_pos, nI_m1, nI_z]) | refine brT (by first | assumption | decide | omega) ?_ | refine brF (by first | assumption | decide | omega) ?_ | refine brTn (by first | assumption | decide | omega) ?_ | refine brFn (by first | assumption | decide | omega) ?_ | refine And.intro (vp_in_nI (by omega) (by decide)) ?_ | refine And.intro (vp_lit (by decide)) ?_ | refine divJ (by decide) ?_ | refine divI (by decide) ?_)
          try change _ ∧ _
          refine Cl.of re (by omega) ?_
          repeat (first | refine Wp.at ih rfl rfl ?_ rfl | (refine W1 rfl ?_; try refine Wp.norm (L' := [_, _, _, _, _]) rfl ?_) | ((first | change (_ → _) ∧ (_ → _) | change vp_in _ _ ∧ _ | change ¬ _ ∧ _); simp (disch := omega) only [nI_clamp, nI_leI, nI_ltI, nI_eq, nI_1, nI_add, nI_not_neg, nI_is_pos, nI_m1, nI_z]) | refine brT (by first | assumption | decide | omega) ?_ | refine brF (by first | assumption | decide | omega) ?_ | refine brTn (by first | assumption | decide | omega) ?_ | refine brFn (by first | assumption | decide | omega) ?_ | refine And.intro (vp_in_nI (by omega) (by decide)) ?_ | refine And.intro (vp_lit (by decide)) ?_ | refine divJ (by decide) ?_ | refine divI (by decide) ?_)
          try change _ ∧ _
          first | done | rfl | (simp (disch := omega) only [nI_1, nI_add, nI_clamp] <;> first | done | rfl)
      · refine tst_f27 Y (fun h' Z O2 => ?_)
        rw [← hQQ]
        exact ⟨rfl, (O.trans O1).trans O2, Or.inr ⟨f', p, Z, fun W hW => (go W hW).trans (gp _)⟩⟩
  have ih := lp 901 i0 C0 h0 false false 0 (by omega) X0 (onlyJ.rfl _ _ h0) (fun W _ => qGo.rfl _) (by omega) (by show C0.length + 0 + i0 ≤ _; omega)
  rw [bI_f] at ih
  repeat (first | refine Wp.at ih rfl rfl ?_ rfl | (refine W1 rfl ?_; try refine Wp.norm (L' := [_, _, _, _, _]) rfl ?_) | ((first | change (_ → _) ∧ (_ → _) | change vp_in _ _ ∧ _ | change ¬ _ ∧ _); simp (disch := omega) only [nI_clamp, nI_leI, nI_ltI, nI_eq, nI_1, nI_add, nI_not_neg, nI_is_pos, nI_m1, nI_z]) | refine brT (by first | assumption | decide | omega) ?_ | refine brF (by first | assumption | decide | omega) ?_ | refine brTn (by first | assumption | decide | omega) ?_ | refine brFn (by first | assumption | decide | omega) ?_ | refine And.intro (vp_in_nI (by omega) (by decide)) ?_ | refine And.intro (vp_lit (by decide)) ?_ | refine divJ (by decide) ?_ | refine divI (by decide) ?_)
  try change _ ∧ _
  first | done | rfl | (simp (disch := omega) only [nI_1, nI_add, nI_clamp] <;> first | done | rfl)
theorem c_tests (q : Nat) : ∀ e dp, dp + e = 6 → (∀ h i C, CS b n i s C q h → C.length ≤ i → ∃ h', Run (2 * e + 16) j_Reader_readFact [.ref 17, .int (nI dp)] h none h' ∧ onlyJ rdL [] h h' ∧ FT b n i dp C s q h') ∧ (∀ h i C, CS b n i s C q h → C.length ≤ i → ∃ h', Run (2 * e + 17) j_Reader_readTest [.ref 17, .int (nI dp)] h none h' ∧ onlyJ rdL [] h h' ∧ TT b n i dp C s q h') := by
  intro e
  induction e with
  | zero =>
    intro dp he
    have F : ∀ h i C, CS b n i s C q h → C.length ≤ i → ∃ w h', Run 16 j_Reader_readFact [.ref 17, .int (nI dp)] h w h' ∧ (w = none ∧ onlyJ rdL [] h h' ∧ FT b n i dp C s q h') := fun h i C X hl => c_fact (d := 15) (dp := dp) (by omega) (by omega) (fun h i C X hl => by
      obtain ⟨h', r, O, S⟩ := c_sums q 0 dp (by omega) h i C X hl
      exact ⟨h', r.mono (by omega), O, S⟩) (fun z => by omega) (fun z => by omega) X hl
    refine ⟨fun h i C X hl => ?_, fun h i C X hl => ?_⟩
    · obtain ⟨w, h', r, rfl, O, S⟩ := F h i C X hl
      exact ⟨h', r, O, S⟩
    · obtain ⟨w, h', r, rfl, O, S⟩ := c_test (d := 16) (dp := dp) (by omega) F X hl
      exact ⟨h', r, O, S⟩
  | succ e ih =>
    intro dp he
    obtain ⟨i1, i2⟩ := ih (dp + 1) (by omega)
    have F : ∀ h i C, CS b n i s C q h → C.length ≤ i → ∃ w h', Run (2 * e + 18) j_Reader_readFact [.ref 17, .int (nI dp)] h w h' ∧ (w = none ∧ onlyJ rdL [] h h' ∧ FT b n i dp C s q h') := fun h i C X hl => c_fact (d := 2 * e + 17) (dp := dp) (by omega) (by omega) (fun h i C X hl => by
      obtain ⟨h', r, O, S⟩ := c_sums q (e + 1) dp (by omega) h i C X hl
      exact ⟨h', r.mono (by omega), O, S⟩) (fun _ h i C X hl => by
      obtain ⟨h', r, O, S⟩ := i1 h i C X hl
      exact ⟨h', r.mono (by omega), O, S⟩) (fun _ h i C X hl => i2 h i C X hl) X hl
    refine ⟨fun h i C X hl => ?_, fun h i C X hl => ?_⟩
    · obtain ⟨w, h', r, rfl, O, S⟩ := F h i C X hl
      exact ⟨h', r, O, S⟩
    · obtain ⟨w, h', r, rfl, O, S⟩ := c_test (d := 2 * e + 18) (dp := dp) (by omega) F X hl
      exact ⟨h', r, O, S⟩
end CTS2
