/-! ===== THE CLASS DIVIDES A TAPE: all of it ===== -/
/-- the class's words, numbers, signs -/
def TK (b : Nat → Nat) (n : Nat) (h : HP) : Prop := ∃ m, m ≤ 900 ∧ ps b n m = n ∧ (∀ k, k < m → ps b n k < n) ∧ h.1 3 3 = nI (m + 1) ∧ ∀ k, k ≤ m → h.1 4 k = nI (tS b n k) ∧ h.1 5 k = nI (ps b n k) ∧ h.1 6 k = nI (tV b n k)
section DIV2
variable {b : Nat → Nat} {n : Nat} {h : HP}
theorem TB.o {K KJ : List Nat} {h' : HP} (T : TB b n h) (O : onlyJ K KJ h h') (h1 : ¬ 1 ∈ K := by decide) (h2 : ¬ 2 ∈ K := by decide) : TB b n h' := ⟨T.1, by rw [O.1 1 1 h1]; exact T.2.1, fun k hk => by rw [O.1 2 k h2]; exact T.2.2 k hk⟩
theorem adT_o {h' : HP} {i : Nat} {x y z : Int32} (O : onlyJ [3, 4, 5, 6] [] h h') : onlyJ [3, 4, 5, 6] [] h (adT h' i x y z) := (((O.addI (by decide)).addI (by decide)).addI (by decide)).addI (by decide)
theorem adT_c (h : HP) (i : Nat) (x y z : Int32) : (adT h i x y z).1 3 3 = nI (i + 1) := wI_same _ _ _ _
theorem adT_k (h : HP) {i k : Nat} (x y z : Int32) (hk : k ≠ i) : (adT h i x y z).1 4 k = h.1 4 k ∧ (adT h i x y z).1 5 k = h.1 5 k ∧ (adT h i x y z).1 6 k = h.1 6 k := by
  unfold adT
  refine ⟨?_, ?_, ?_⟩
  · rw [wI_ne _ _ _ (by decide), wI_ne _ _ _ (by decide), wI_ne _ _ _ (by decide), wI_ne2 _ _ hk]
  · rw [wI_ne _ _ _ (by decide), wI_ne _ _ _ (by decide), wI_ne2 _ _ hk, wI_ne _ _ _ (by decide)]
  · rw [wI_ne _ _ _ (by decide), wI_ne2 _ _ hk, wI_ne _ _ _ (by decide), wI_ne _ _ _ (by decide)]
theorem adT_i (h : HP) (i : Nat) (x y z : Int32) : (adT h i x y z).1 4 i = x ∧ (adT h i x y z).1 5 i = y ∧ (adT h i x y z).1 6 i = z := by
  unfold adT
  refine ⟨?_, ?_, ?_⟩
  · rw [wI_ne _ _ _ (by decide), wI_ne _ _ _ (by decide), wI_ne _ _ _ (by decide), wI_same]
  · rw [wI_ne _ _ _ (by decide), wI_ne _ _ _ (by decide), wI_same]
  · rw [wI_ne _ _ _ (by decide), wI_same]
/-- i of them stand, a is reached -/
def DI (b : Nat → Nat) (n : Nat) (h0 : HP) (i a : Nat) (jf : Bool) (h : HP) : Prop := onlyJ [3, 4, 5, 6] [] h0 h ∧ a ≤ n ∧ ps b n i = sk b n a ∧ jn b n i = (jf && decide (sk b n a = a)) ∧ (∀ k, k < i → ps b n k < n) ∧ h.1 3 3 = nI i ∧ ∀ k, k < i → h.1 4 k = nI (tS b n k) ∧ h.1 5 k = nI (ps b n k) ∧ h.1 6 k = nI (tV b n k)
theorem DI.nx {h0 : HP} {i a : Nat} {jf : Bool} (D : DI b n h0 i a jf h) (ha : a < n) (hs : sk b n a = a) : DI b n h0 (i + 1) (te b n a) (wnB b a) (adT h i (nI (sP b n a jf)) (nI a) (nI (vP b n a jf))) := by
  obtain ⟨O, h1, h2, h3, h4, h5, h6⟩ := D
  have hpi : ps b n i = a := by rw [h2, hs]
  have hji : jn b n i = jf := by rw [h3, decide_eq_true hs, Bool.and_true]
  refine ⟨adT_o O, te_le ha, ?_, ?_, fun k hk => ?_, adT_c _ _ _ _ _, fun k hk => ?_⟩
  · rw [ps_s (by rw [hpi]; exact ha), hpi]
  · show (decide (ps b n i < n) && wnB b (ps b n i) && decide (ps b n (i + 1) = te b n (ps b n i))) = _
    rw [ps_s (by rw [hpi]; exact ha), hpi, decide_eq_true ha, Bool.true_and]
  · by_cases e : k = i
    · rw [e, hpi]; exact ha
    · exact h4 k (by omega)
  · by_cases e : k = i
    · subst e
      obtain ⟨a1, a2, a3⟩ := adT_i h k (nI (sP b n a jf)) (nI a) (nI (vP b n a jf))
      rw [a1, a2, a3]
      unfold tS tV
      rw [hpi, hji]
      exact ⟨rfl, rfl, rfl⟩
    · obtain ⟨a1, a2, a3⟩ := adT_k h (nI (sP b n a jf)) (nI a) (nI (vP b n a jf)) e
      rw [a1, a2, a3]
      exact h6 k (by omega)
theorem w_divide (T : TB b n h) : ∃ h', Run 2 j_Tokens_divide [.ref 3, .ref 1] h none h' ∧ onlyJ [3, 4, 5, 6] [] h h' ∧ TK b n h' := by
  have hn := T.1
  obtain ⟨w, h', r, e, O, A⟩ := Run.ofP (d := 2) (j := j_Tokens_divide) (as := [.ref 3, .ref 1]) (h := h) (P := fun w h' => w = none ∧ onlyJ [3, 4, 5, 6] [] h h' ∧ TK b n h') rfl (by
    refine Wp.norm (L' := [_, _, _, _, _, _, _, _]) rfl ?_
    have lp : ∀ f a q i jf h' x7, a + f = n → q ≤ a → DI b n h i a jf h' → Wp 2 j_Tokens_divide 24 [.ref 3, .ref 1, .ref 2, .int (nI n), .int (nI a), .int (bI jf), .int (nI q), x7] [] h' (fun w h' => w = none ∧ onlyJ [3, 4, 5, 6] [] h h' ∧ TK b n h') := by
      intro f
      induction f using Nat.strongRecOn with
      | _ f ihf =>
        intro a q i jf h' x7 haf hqa D
        have T' := T.o D.1
        have hl := T'.2.1
        have hi : i ≤ 900 := by
          have := ps_i i D.2.2.2.2.1
          have := ps_le (b := b) (n := n) i
          omega
        by_cases hf : f = 0
        · have han : a = n := by omega
          have hpn : ps b n i = n := by rw [D.2.2.1, han]; exact re_n
          have fin : Wp 2 j_Tokens_divide 163 [.ref 3, .ref 1, .ref 2, .int (nI n), .int (nI a), .int (bI jf), .int (nI q), x7] [] h' (fun w h' => w = none ∧ onlyJ [3, 4, 5, 6] [] h h' ∧ TK b n h') := by
            repeat (first | (refine W1 rfl ?_; try refine Wp.norm (L' := [_, _, _, _, _, _, _, _]) rfl ?_) | ((first | change (_ → _) ∧ (_ → _) | change vp_in _ _ ∧ _ | change ¬ _ ∧ _); simp (disch := omega) only [nI_clamp, nI_leI, nI_ltI, nI_eq, nI_1, nI_add, nI_not_neg, nI_is_pos, nI_m1, nI_z]) | refine brT (by first | assumption | decide | omega) ?_ | refine brF (by first | assumption | decide | omega) ?_ | refine brTn (by first | assumption | decide | omega) ?_ | refine brFn (by first | assumption | decide | omega) ?_ | refine And.intro (vp_in_nI (by omega) (by decide)) ?_ | refine And.intro (vp_lit (by decide)) ?_ | refine divJ (by decide) ?_ | refine divI (by decide) ?_)
            try change _ ∧ _
            refine Cl.of (r_add (show i < 901 by omega) D.2.2.2.2.2.1 0 (nI n) 0) (by decide) ?_
            repeat (first | (refine W1 rfl ?_; try refine Wp.norm (L' := [_, _, _, _, _, _, _, _]) rfl ?_) | ((first | change (_ → _) ∧ (_ → _) | change vp_in _ _ ∧ _ | change ¬ _ ∧ _); simp (disch := omega) only [nI_clamp, nI_leI, nI_ltI, nI_eq, nI_1, nI_add, nI_not_neg, nI_is_pos, nI_m1, nI_z]) | refine brT (by first | assumption | decide | omega) ?_ | refine brF (by first | assumption | decide | omega) ?_ | refine brTn (by first | assumption | decide | omega) ?_ | refine brFn (by first | assumption | decide | omega) ?_ | refine And.intro (vp_in_nI (by omega) (by decide)) ?_ | refine And.intro (vp_lit (by decide)) ?_ | refine divJ (by decide) ?_ | refine divI (by decide) ?_)
            try change _ ∧ _
            refine ⟨rfl, adT_o D.1, i, hi, hpn, D.2.2.2.2.1, adT_c _ _ _ _ _, fun k hk => ?_⟩
            by_cases e : k = i
            · subst e
              obtain ⟨a1, a2, a3⟩ := adT_i h' k 0 (nI n) 0
              rw [a1, a2, a3]
              unfold tS tV sP vP
              rw [hpn, if_pos (Nat.le_refl _), if_pos (Nat.le_refl _)]
              exact ⟨rfl, rfl, rfl⟩
            · obtain ⟨a1, a2, a3⟩ := adT_k h' 0 (nI n) 0 e
              rw [a1, a2, a3]
              exact D.2.2.2.2.2.2 k (by omega)
          have ih := fin
          by_cases h9 : q < 900
          · (refine W1 rfl ?_; try refine Wp.norm (L' := [_, _, _, _, _, _, _, _]) rfl ?_)
            repeat (first | refine Wp.at ih rfl rfl ?_ rfl | (refine W1 rfl ?_; try refine Wp.norm (L' := [_, _, _, _, _, _, _, _]) rfl ?_) | ((first | change (_ → _) ∧ (_ → _) | change vp_in _ _ ∧ _ | change ¬ _ ∧ _); simp (disch := omega) only [nI_clamp, nI_leI, nI_ltI, nI_eq, nI_1, nI_add, nI_not_neg, nI_is_pos, nI_m1, nI_z, show (900 : Int32) = nI 900 from rfl]) | refine brT (by first | assumption | decide | omega) ?_ | refine brF (by first | assumption | decide | omega) ?_ | refine brTn (by first | assumption | decide | omega) ?_ | refine brFn (by first | assumption | decide | omega) ?_ | refine And.intro (vp_in_nI (by omega) (by decide)) ?_ | refine And.intro (vp_lit (by decide)) ?_ | refine divJ (by decide) ?_ | refine divI (by decide) ?_)
            try change _ ∧ _
            first | done | rfl | (simp (disch := omega) only [nI_1, nI_add, nI_clamp] <;> first | done | rfl)
          · (refine W1 rfl ?_; try refine Wp.norm (L' := [_, _, _, _, _, _, _, _]) rfl ?_)
            repeat (first | refine Wp.at ih rfl rfl ?_ rfl | (refine W1 rfl ?_; try refine Wp.norm (L' := [_, _, _, _, _, _, _, _]) rfl ?_) | ((first | change (_ → _) ∧ (_ → _) | change vp_in _ _ ∧ _ | change ¬ _ ∧ _); simp (disch := omega) only [nI_clamp, nI_leI, nI_ltI, nI_eq, nI_1, nI_add, nI_not_neg, nI_is_pos, nI_m1, nI_z, show (900 : Int32) = nI 900 from rfl]) | refine brT (by first | assumption | decide | omega) ?_ | refine brF (by first | assumption | decide | omega) ?_ | refine brTn (by first | assumption | decide | omega) ?_ | refine brFn (by first | assumption | decide | omega) ?_ | refine And.intro (vp_in_nI (by omega) (by decide)) ?_ | refine And.intro (vp_lit (by decide)) ?_ | refine divJ (by decide) ?_ | refine divI (by decide) ?_)
            try change _ ∧ _
            first | done | rfl | (simp (disch := omega) only [nI_1, nI_add, nI_clamp] <;> first | done | rfl)
        · have ha : a < n := by omega
          obtain ⟨hba, hb256⟩ := T'.2.2 a ha
          (refine W1 rfl ?_; try refine Wp.norm (L' := [_, _, _, _, _, _, _, _]) rfl ?_)
          repeat (first | (refine W1 rfl ?_; try refine Wp.norm (L' := [_, _, _, _, _, _, _, _]) rfl ?_) | ((first | change (_ → _) ∧ (_ → _) | change vp_in _ _ ∧ _ | change ¬ _ ∧ _); simp (disch := omega) only [nI_clamp, nI_leI, nI_ltI, nI_eq, nI_1, nI_add, nI_not_neg, nI_is_pos, nI_m1, nI_z, show (900 : Int32) = nI 900 from rfl]) | refine brT (by first | assumption | decide | omega) ?_ | refine brF (by first | assumption | decide | omega) ?_ | refine brTn (by first | assumption | decide | omega) ?_ | refine brFn (by first | assumption | decide | omega) ?_ | refine And.intro (vp_in_nI (by omega) (by decide)) ?_ | refine And.intro (vp_lit (by decide)) ?_ | refine divJ (by decide) ?_ | refine divI (by decide) ?_)
          try change _ ∧ _
          refine Cl.ofA (r_isBl h' hb256) (by first | done | rfl | (simp (disch := omega) only [nI_1, nI_add, nI_clamp, hba] <;> first | done | rfl)) (by decide) ?_
          cases eb : blB b a with
          | true =>
            have sk1 : sk b n a = sk b n (a + 1) := re_step ha eb
            have skg := sk_ge (b := b) (show a + 1 ≤ n by omega)
            have ih := ihf (f - 1) (by omega) (a + 1) (q + 1) i false h' (.int (nI a)) (by omega) (by omega) (by
              obtain ⟨O, h1, h2, h3, h4⟩ := D
              refine ⟨O, by omega, by rw [h2, sk1], ?_, h4⟩
              rw [h3, decide_eq_false (show ¬ sk b n a = a by omega), Bool.and_false, Bool.false_and])
            rw [bI_f] at ih
            repeat (first | refine Wp.at ih rfl rfl ?_ rfl | (refine W1 rfl ?_; try refine Wp.norm (L' := [_, _, _, _, _, _, _, _]) rfl ?_) | ((first | change (_ → _) ∧ (_ → _) | change vp_in _ _ ∧ _ | change ¬ _ ∧ _); simp (disch := omega) only [nI_clamp, nI_leI, nI_ltI, nI_eq, nI_1, nI_add, nI_not_neg, nI_is_pos, nI_m1, nI_z, bI_t]) | refine brT (by first | assumption | decide | omega) ?_ | refine brF (by first | assumption | decide | omega) ?_ | refine brTn (by first | assumption | decide | omega) ?_ | refine brFn (by first | assumption | decide | omega) ?_ | refine And.intro (vp_in_nI (by omega) (by decide)) ?_ | refine And.intro (vp_lit (by decide)) ?_ | refine divJ (by decide) ?_ | refine divI (by decide) ?_)
            try change _ ∧ _
            first | done | rfl | (simp (disch := omega) only [nI_1, nI_add, nI_clamp] <;> first | done | rfl)
          | false =>
            have hs : sk b n a = a := re_self (by omega) (fun _ => eb)
            have D2 := D.nx ha hs
            have tg := te_gt (b := b) ha
            have tle := te_le (b := b) ha
            have hcnt := D.2.2.2.2.2.1
            repeat (first | (refine W1 rfl ?_; try refine Wp.norm (L' := [_, _, _, _, _, _, _, _]) rfl ?_) | ((first | change (_ → _) ∧ (_ → _) | change vp_in _ _ ∧ _ | change ¬ _ ∧ _); simp (disch := omega) only [nI_clamp, nI_leI, nI_ltI, nI_eq, nI_1, nI_add, nI_not_neg, nI_is_pos, nI_m1, nI_z, bI_f]) | refine brT (by first | assumption | decide | omega) ?_ | refine brF (by first | assumption | decide | omega) ?_ | refine brTn (by first | assumption | decide | omega) ?_ | refine brFn (by first | assumption | decide | omega) ?_ | refine And.intro (vp_in_nI (by omega) (by decide)) ?_ | refine And.intro (vp_lit (by decide)) ?_ | refine divJ (by decide) ?_ | refine divI (by decide) ?_)
            try change _ ∧ _
            refine Cl.ofA (r_isLt h' hb256) (by first | done | rfl | (simp (disch := omega) only [nI_1, nI_add, nI_clamp, hba] <;> first | done | rfl)) (by decide) ?_
            cases el : ltB b a with
            | true =>
              have hw : wnB b a = true := by unfold wnB; rw [el]; rfl
              rw [hw] at D2
              have ih := ihf (n - te b n a) (by omega) (te b n a) (q + 1) (i + 1) true _ (.int (nI a)) (by omega) (by omega) D2
              rw [bI_t] at ih
              have r2 := r_runEnd T' (a := a) (lo := 97) (hi := 122) (by omega) (by decide) (by decide)
              rw [show re (fun k => decide (97 ≤ b k) && decide (b k ≤ 122)) n a = te b n a from (lt_te ha el).symm] at r2
              repeat (first | (refine W1 rfl ?_; try refine Wp.norm (L' := [_, _, _, _, _, _, _, _]) rfl ?_) | ((first | change (_ → _) ∧ (_ → _) | change vp_in _ _ ∧ _ | change ¬ _ ∧ _); simp (disch := omega) only [nI_clamp, nI_leI, nI_ltI, nI_eq, nI_1, nI_add, nI_not_neg, nI_is_pos, nI_m1, nI_z, bI_t]) | refine brT (by first | assumption | decide | omega) ?_ | refine brF (by first | assumption | decide | omega) ?_ | refine brTn (by first | assumption | decide | omega) ?_ | refine brFn (by first | assumption | decide | omega) ?_ | refine And.intro (vp_in_nI (by omega) (by decide)) ?_ | refine And.intro (vp_lit (by decide)) ?_ | refine divJ (by decide) ?_ | refine divI (by decide) ?_)
              try change _ ∧ _
              refine Cl.of r2 (by decide) ?_
              repeat (first | (refine W1 rfl ?_; try refine Wp.norm (L' := [_, _, _, _, _, _, _, _]) rfl ?_) | ((first | change (_ → _) ∧ (_ → _) | change vp_in _ _ ∧ _ | change ¬ _ ∧ _); simp (disch := omega) only [nI_clamp, nI_leI, nI_ltI, nI_eq, nI_1, nI_add, nI_not_neg, nI_is_pos, nI_m1, nI_z]) | refine brT (by first | assumption | decide | omega) ?_ | refine brF (by first | assumption | decide | omega) ?_ | refine brTn (by first | assumption | decide | omega) ?_ | refine brFn (by first | assumption | decide | omega) ?_ | refine And.intro (vp_in_nI (by omega) (by decide)) ?_ | refine And.intro (vp_lit (by decide)) ?_ | refine divJ (by decide) ?_ | refine divI (by decide) ?_)
              try change _ ∧ _
              refine Cl.of (w_addWord T' ha el jf (by omega) hcnt) (by decide) ?_
              repeat (first | refine Wp.at ih rfl rfl ?_ rfl | (refine W1 rfl ?_; try refine Wp.norm (L' := [_, _, _, _, _, _, _, _]) rfl ?_) | ((first | change (_ → _) ∧ (_ → _) | change vp_in _ _ ∧ _ | change ¬ _ ∧ _); simp (disch := omega) only [nI_clamp, nI_leI, nI_ltI, nI_eq, nI_1, nI_add, nI_not_neg, nI_is_pos, nI_m1, nI_z]) | refine brT (by first | assumption | decide | omega) ?_ | refine brF (by first | assumption | decide | omega) ?_ | refine brTn (by first | assumption | decide | omega) ?_ | refine brFn (by first | assumption | decide | omega) ?_ | refine And.intro (vp_in_nI (by omega) (by decide)) ?_ | refine And.intro (vp_lit (by decide)) ?_ | refine divJ (by decide) ?_ | refine divI (by decide) ?_)
              try change _ ∧ _
              first | done | rfl | (simp (disch := omega) only [nI_1, nI_add, nI_clamp] <;> first | done | rfl)
            | false =>
              repeat (first | (refine W1 rfl ?_; try refine Wp.norm (L' := [_, _, _, _, _, _, _, _]) rfl ?_) | ((first | change (_ → _) ∧ (_ → _) | change vp_in _ _ ∧ _ | change ¬ _ ∧ _); simp (disch := omega) only [nI_clamp, nI_leI, nI_ltI, nI_eq, nI_1, nI_add, nI_not_neg, nI_is_pos, nI_m1, nI_z, bI_f]) | refine brT (by first | assumption | decide | omega) ?_ | refine brF (by first | assumption | decide | omega) ?_ | refine brTn (by first | assumption | decide | omega) ?_ | refine brFn (by first | assumption | decide | omega) ?_ | refine And.intro (vp_in_nI (by omega) (by decide)) ?_ | refine And.intro (vp_lit (by decide)) ?_ | refine divJ (by decide) ?_ | refine divI (by decide) ?_)
              try change _ ∧ _
              refine Cl.ofA (r_isDg h' hb256) (by first | done | rfl | (simp (disch := omega) only [nI_1, nI_add, nI_clamp, hba] <;> first | done | rfl)) (by decide) ?_
              cases ed : dgB b a with
              | true =>
                have hw : wnB b a = true := by unfold wnB; rw [ed, Bool.or_true]
                rw [hw] at D2
                have ih := ihf (n - te b n a) (by omega) (te b n a) (q + 1) (i + 1) true _ (.int (nI a)) (by omega) (by omega) D2
                rw [bI_t] at ih
                have r2 := r_runEnd T' (a := a) (lo := 48) (hi := 57) (by omega) (by decide) (by decide)
                rw [show re (fun k => decide (48 ≤ b k) && decide (b k ≤ 57)) n a = te b n a from (dg_te ed).symm] at r2
                repeat (first | (refine W1 rfl ?_; try refine Wp.norm (L' := [_, _, _, _, _, _, _, _]) rfl ?_) | ((first | change (_ → _) ∧ (_ → _) | change vp_in _ _ ∧ _ | change ¬ _ ∧ _); simp (disch := omega) only [nI_clamp, nI_leI, nI_ltI, nI_eq, nI_1, nI_add, nI_not_neg, nI_is_pos, nI_m1, nI_z, bI_t]) | refine brT (by first | assumption | decide | omega) ?_ | refine brF (by first | assumption | decide | omega) ?_ | refine brTn (by first | assumption | decide | omega) ?_ | refine brFn (by first | assumption | decide | omega) ?_ | refine And.intro (vp_in_nI (by omega) (by decide)) ?_ | refine And.intro (vp_lit (by decide)) ?_ | refine divJ (by decide) ?_ | refine divI (by decide) ?_)
                try change _ ∧ _
                refine Cl.of r2 (by decide) ?_
                repeat (first | (refine W1 rfl ?_; try refine Wp.norm (L' := [_, _, _, _, _, _, _, _]) rfl ?_) | ((first | change (_ → _) ∧ (_ → _) | change vp_in _ _ ∧ _ | change ¬ _ ∧ _); simp (disch := omega) only [nI_clamp, nI_leI, nI_ltI, nI_eq, nI_1, nI_add, nI_not_neg, nI_is_pos, nI_m1, nI_z]) | refine brT (by first | assumption | decide | omega) ?_ | refine brF (by first | assumption | decide | omega) ?_ | refine brTn (by first | assumption | decide | omega) ?_ | refine brFn (by first | assumption | decide | omega) ?_ | refine And.intro (vp_in_nI (by omega) (by decide)) ?_ | refine And.intro (vp_lit (by decide)) ?_ | refine divJ (by decide) ?_ | refine divI (by decide) ?_)
                try change _ ∧ _
                refine Cl.of (w_addNumber T' ha ed jf (by omega) hcnt) (by decide) ?_
                repeat (first | refine Wp.at ih rfl rfl ?_ rfl | (refine W1 rfl ?_; try refine Wp.norm (L' := [_, _, _, _, _, _, _, _]) rfl ?_) | ((first | change (_ → _) ∧ (_ → _) | change vp_in _ _ ∧ _ | change ¬ _ ∧ _); simp (disch := omega) only [nI_clamp, nI_leI, nI_ltI, nI_eq, nI_1, nI_add, nI_not_neg, nI_is_pos, nI_m1, nI_z]) | refine brT (by first | assumption | decide | omega) ?_ | refine brF (by first | assumption | decide | omega) ?_ | refine brTn (by first | assumption | decide | omega) ?_ | refine brFn (by first | assumption | decide | omega) ?_ | refine And.intro (vp_in_nI (by omega) (by decide)) ?_ | refine And.intro (vp_lit (by decide)) ?_ | refine divJ (by decide) ?_ | refine divI (by decide) ?_)
                try change _ ∧ _
                first | done | rfl | (simp (disch := omega) only [nI_1, nI_add, nI_clamp] <;> first | done | rfl)
              | false =>
                have hw : wnB b a = false := by unfold wnB; rw [el, ed]; rfl
                have ht : te b n a = a + 1 := sg_te hw
                have e6 : sP b n a jf = 6 := by unfold sP; rw [if_neg (show ¬ n ≤ a by omega), if_neg (by rw [el]; decide), if_neg (by rw [ed]; decide)]
                have ev : vP b n a jf = b a := by unfold vP; rw [if_neg (show ¬ n ≤ a by omega), if_neg (by rw [el]; decide), if_neg (by rw [ed]; decide)]
                rw [hw, ht, e6, ev] at D2
                have ih := ihf (n - (a + 1)) (by omega) (a + 1) (q + 1) (i + 1) false _ (.int (nI a)) (by omega) (by omega) D2
                rw [bI_f] at ih
                repeat (first | (refine W1 rfl ?_; try refine Wp.norm (L' := [_, _, _, _, _, _, _, _]) rfl ?_) | ((first | change (_ → _) ∧ (_ → _) | change vp_in _ _ ∧ _ | change ¬ _ ∧ _); simp (disch := omega) only [nI_clamp, nI_leI, nI_ltI, nI_eq, nI_1, nI_add, nI_not_neg, nI_is_pos, nI_m1, nI_z, bI_f]) | refine brT (by first | assumption | decide | omega) ?_ | refine brF (by first | assumption | decide | omega) ?_ | refine brTn (by first | assumption | decide | omega) ?_ | refine brFn (by first | assumption | decide | omega) ?_ | refine And.intro (vp_in_nI (by omega) (by decide)) ?_ | refine And.intro (vp_lit (by decide)) ?_ | refine divJ (by decide) ?_ | refine divI (by decide) ?_)
                try change _ ∧ _
                refine Cl.ofA (r_add (show i < 901 by omega) hcnt (nI 6) (nI a) (nI (b a))) (by first | done | rfl | (simp (disch := omega) only [nI_1, nI_add, nI_clamp, hba] <;> first | done | rfl)) (by decide) ?_
                repeat (first | refine Wp.at ih rfl rfl ?_ rfl | (refine W1 rfl ?_; try refine Wp.norm (L' := [_, _, _, _, _, _, _, _]) rfl ?_) | ((first | change (_ → _) ∧ (_ → _) | change vp_in _ _ ∧ _ | change ¬ _ ∧ _); simp (disch := omega) only [nI_clamp, nI_leI, nI_ltI, nI_eq, nI_1, nI_add, nI_not_neg, nI_is_pos, nI_m1, nI_z]) | refine brT (by first | assumption | decide | omega) ?_ | refine brF (by first | assumption | decide | omega) ?_ | refine brTn (by first | assumption | decide | omega) ?_ | refine brFn (by first | assumption | decide | omega) ?_ | refine And.intro (vp_in_nI (by omega) (by decide)) ?_ | refine And.intro (vp_lit (by decide)) ?_ | refine divJ (by decide) ?_ | refine divI (by decide) ?_)
                try change _ ∧ _
                first | done | rfl | (simp (disch := omega) only [nI_1, nI_add, nI_clamp] <;> first | done | rfl)
    have ih := lp n 0 0 0 false (wI h 3 3 0) .null (by omega) (Nat.le_refl _) ⟨(onlyJ.rfl _ _ h).addI (by decide), Nat.zero_le _, rfl, rfl, fun k hk => absurd hk (by omega), wI_same _ _ _ _, fun k hk => absurd hk (by omega)⟩
    rw [bI_f] at ih
    have hl := T.2.1
    repeat (first | refine Wp.at ih rfl rfl ?_ rfl | (refine W1 rfl ?_; try refine Wp.norm (L' := [_, _, _, _, _, _, _, _]) rfl ?_) | ((first | change (_ → _) ∧ (_ → _) | change vp_in _ _ ∧ _ | change ¬ _ ∧ _); simp (disch := omega) only [nI_clamp, nI_leI, nI_ltI, nI_eq, nI_1, nI_add, nI_not_neg, nI_is_pos, nI_m1, nI_z]) | refine brT (by first | assumption | decide | omega) ?_ | refine brF (by first | assumption | decide | omega) ?_ | refine brTn (by first | assumption | decide | omega) ?_ | refine brFn (by first | assumption | decide | omega) ?_ | refine And.intro (vp_in_nI (by omega) (by decide)) ?_ | refine And.intro (vp_lit (by decide)) ?_ | refine divJ (by decide) ?_ | refine divI (by decide) ?_)
    try change _ ∧ _
    first | done | rfl | (simp (disch := omega) only [nI_1, nI_add, nI_clamp, hl] <;> first | done | rfl))
  subst e
  exact ⟨h', r, O, A⟩
end DIV2
