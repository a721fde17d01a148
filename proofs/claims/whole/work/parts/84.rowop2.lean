/-! ===== ROUND AND BLOCK: the clauses ===== -/
section ROWX
variable {s : ST} {c v : RT} {b : Nat → Nat} {n : Nat} {h : HP}
/-- what is laid -/
def rbG (bw : Bool) (s : ST) (b : Nat → Nat) (n k : Nat) : Nat → Int32 := if bw = true then bkG s b n k else rdG s b n
theorem w_laysRow (R : RM s c v h) (o : OK s) (bw : Bool) {k : Nat} (hk : k < zK s) (hn : n ≤ 900) (hl1 : h.1 65 1 = nI n) (hb : ∀ k, k < n → h.1 66 k = nI (b k) ∧ b k < 256) (c1 : 0 < rq s b n ∧ tS b n (rq s b n) = 0) : ∃ w h', Run 3 j_M_laysRow [.ref 65, .int (nI k), .int (bI bw)] h w h' ∧ (w = some (.int (nI (cO s (some k) (zT s)))) ∧ (∃ h1, rwF h h1 ∧ h1.1 65 1 = 0 ∧ onlyJ [110, 111] [] h1 h') ∧ RM s (cEF s k (rbG bw s b n k) c) (cEF s k (rbG bw s b n k) v) h') := by
  have hT := o.T; have hP := o.P; have hK := o.K; have hD := o.D; have hO := o.O; have hQ := o.Q; have hL := o.L
  have hq := rq_20 (s := s) (b := b) (n := n)
  obtain ⟨w, h1, r1, e1, F1, L1, A1⟩ := w_takesRow R o hn hl1 hb
  obtain ⟨N1, W1'⟩ := A1 c1
  have R1 := F1.M R
  rw [decide_eq_true c1, bI_t] at e1
  subst e1
  have c10 := c1.1
  obtain ⟨q, hqq⟩ : ∃ q, rq s b n = q := ⟨_, rfl⟩
  rw [hqq] at hq c10 N1 W1'
  refine Run.ofP rfl ?_
  refine Wp.norm (L' := [_, _, _, _, _]) rfl ?_
  generalize hQQ : (fun (w : Option Value) (h' : HP) => w = some (.int (nI (cO s (some k) (zT s)))) ∧ (∃ h1, rwF h h1 ∧ h1.1 65 1 = 0 ∧ onlyJ [110, 111] [] h1 h') ∧ RM s (cEF s k (rbG bw s b n k) c) (cEF s k (rbG bw s b n k) v) h') = QQ
  have hcl : ∀ i, cO s (some k) i ≤ i := fun i => cO_le s (some k) i
  have hcs : ∀ i, cO s (some k) (i + 1) = cO s (some k) i + (if tK s i = k then 1 else 0) := fun i => by
    rw [cO_some, cO_some]; rfl
  have lp : ∀ i, i ≤ zT s → ∀ h', onlyJ [110, 111] [] h1 h' → RM s (cEM s k (rbG bw s b n k) i c) (cEM s k (rbG bw s b n k) i v) h' → Wp 3 j_M_laysRow 22 [.ref 65, .int (nI k), .int (bI bw), .int (nI (cO s (some k) i)), .int (nI i)] [] h' QQ := by
    refine up_ind ?_ (fun i hi ih => ?_)
    · intro h' O R'
      rw [← hQQ]
      repeat (first | (refine W1 rfl ?_; try refine Wp.norm (L' := [_, _, _, _, _]) rfl ?_) | ((first | change (_ → _) ∧ (_ → _) | change vp_in _ _ ∧ _ | change ¬ _ ∧ _); simp (disch := omega) only [nI_clamp, nI_leI, nI_ltI, nI_eq, nI_1, nI_add, nI_not_neg, nI_is_pos, nI_m1, nI_z, R'.T]) | refine brT (by first | assumption | decide | omega) ?_ | refine brF (by first | assumption | decide | omega) ?_ | refine brTn (by first | assumption | decide | omega) ?_ | refine brFn (by first | assumption | decide | omega) ?_ | refine And.intro (vp_in_nI (by omega) (by decide)) ?_ | refine And.intro (vp_lit (by decide)) ?_ | refine divJ (by decide) ?_ | refine divI (by decide) ?_)
      try change _ ∧ _
      exact ⟨rfl, ⟨h1, F1, L1, O⟩, R'.cg (fun t ht => cEM_F k _ c ht) (fun t ht => cEM_F k _ v ht)⟩
    · intro h' O R'
      have hki := o.knd hi
      have hd := o.day hi
      have es := hcs i
      have hci := hcl i
      have N' : h'.1 65 66 = nI q := by rw [O.1 65 66 (by decide)]; exact N1
      repeat (first | (refine W1 rfl ?_; try refine Wp.norm (L' := [_, _, _, _, _]) rfl ?_) | ((first | change (_ → _) ∧ (_ → _) | change vp_in _ _ ∧ _ | change ¬ _ ∧ _); simp (disch := omega) only [nI_clamp, nI_leI, nI_ltI, nI_eq, nI_1, nI_add, nI_not_neg, nI_is_pos, nI_m1, nI_z, R'.T, R'.knd]) | refine brT (by first | assumption | decide | omega) ?_ | refine brF (by first | assumption | decide | omega) ?_ | refine brTn (by first | assumption | decide | omega) ?_ | refine brFn (by first | assumption | decide | omega) ?_ | refine And.intro (vp_in_nI (by omega) (by decide)) ?_ | refine And.intro (vp_lit (by decide)) ?_ | refine divJ (by decide) ?_ | refine divI (by decide) ?_)
      try change _ ∧ _
      refine ⟨fun z => ?_, fun z => ?_⟩
      · have etN : tN s i = cO s (some k) i := by rw [← tN_eq o hi, z]
        have etA : tA s (some k) (cO s (some k) i) = i := tA_of o hi (by unfold isO; simp [z])
        rw [if_pos z] at es
        obtain ⟨u, hu, hul⟩ : ∃ u, u = (if bw = true then tD s i / 7 else cO s (some k) i) ∧ u < 201 := ⟨_, rfl, by split <;> omega⟩
        have hg : rbG bw s b n k (tN s i) = h'.1 114 (u % q) := by
          rw [O.1 114 _ (by decide), W1' _ (Nat.mod_lt _ c10), hu, etN]
          unfold rbG bkG rdG
          cases bw with
          | true =>
            rw [if_pos rfl, if_pos rfl, etA, hqq]
          | false =>
            rw [if_neg (by decide), if_neg (by decide), hqq]
        have er : nI u - nI u / nI q * nI q = nI (u % q) := pk_rem (by omega) c10 (by omega)
        have hmq : u % q < q := Nat.mod_lt _ c10
        generalize u % q = m at hg er hmq
        have ih := ih (layM h' i (rbG bw s b n k (tN s i))) ((O.addI (by decide)).addI (by decide)) (by rw [← cEM_s k i _ c z, ← cEM_s k i _ v z]; exact R'.lay _ _)
        rw [es] at ih
        cases bw with
        | true =>
          rw [if_pos rfl] at hu
          have edy := R'.day hi
          have ed : nI (tD s i) / 7 = nI u := by rw [show (7 : Int32) = nI 7 from rfl, pk_div (by omega) (by decide) (by decide), ← hu]
          have e1 : bI true = 1 := rfl
          rw [e1] at ih ⊢
          repeat (first | (refine W1 rfl ?_; try refine Wp.norm (L' := [_, _, _, _, _]) rfl ?_) | ((first | change (_ → _) ∧ (_ → _) | change vp_in _ _ ∧ _ | change ¬ _ ∧ _); simp (disch := omega) only [nI_clamp, nI_leI, nI_ltI, nI_eq, nI_1, nI_add, nI_not_neg, nI_is_pos, nI_m1, nI_z, N', edy, ed]) | refine brT (by first | assumption | decide | omega) ?_ | refine brF (by first | assumption | decide | omega) ?_ | refine brTn (by first | assumption | decide | omega) ?_ | refine brFn (by first | assumption | decide | omega) ?_ | refine And.intro (vp_in_nI (by omega) (by decide)) ?_ | refine And.intro (vp_lit (by decide)) ?_ | refine divJ (by decide) ?_ | refine divI (by decide) ?_)
          try change _ ∧ _
          refine ⟨by omega, ?_⟩
          repeat (first | (refine W1 rfl ?_; try refine Wp.norm (L' := [_, _, _, _, _]) rfl ?_) | ((first | change (_ → _) ∧ (_ → _) | change vp_in _ _ ∧ _ | change ¬ _ ∧ _); simp (disch := omega) only [nI_clamp, nI_leI, nI_ltI, nI_eq, nI_1, nI_add, nI_not_neg, nI_is_pos, nI_m1, nI_z, er]) | refine brT (by first | assumption | decide | omega) ?_ | refine brF (by first | assumption | decide | omega) ?_ | refine brTn (by first | assumption | decide | omega) ?_ | refine brFn (by first | assumption | decide | omega) ?_ | refine And.intro (vp_in_nI (by omega) (by decide)) ?_ | refine And.intro (vp_lit (by decide)) ?_ | refine divJ (by decide) ?_ | refine divI (by decide) ?_)
          try change _ ∧ _
          refine Cl.ofA (r_M_laysFor (t := i) (rbG true s b n k (tN s i)) (by omega)) (by rw [hg]; first | done | rfl | (simp (disch := omega) only [nI_1, nI_add, nI_clamp] <;> first | done | rfl)) (by decide) ?_
          repeat (first | refine Wp.at ih rfl rfl ?_ rfl | (refine W1 rfl ?_; try refine Wp.norm (L' := [_, _, _, _, _]) rfl ?_) | ((first | change (_ → _) ∧ (_ → _) | change vp_in _ _ ∧ _ | change ¬ _ ∧ _); simp (disch := omega) only [nI_clamp, nI_leI, nI_ltI, nI_eq, nI_1, nI_add, nI_not_neg, nI_is_pos, nI_m1, nI_z]) | refine brT (by first | assumption | decide | omega) ?_ | refine brF (by first | assumption | decide | omega) ?_ | refine brTn (by first | assumption | decide | omega) ?_ | refine brFn (by first | assumption | decide | omega) ?_ | refine And.intro (vp_in_nI (by omega) (by decide)) ?_ | refine And.intro (vp_lit (by decide)) ?_ | refine divJ (by decide) ?_ | refine divI (by decide) ?_)
          try change _ ∧ _
          first | done | rfl | (simp (disch := omega) only [nI_1, nI_add, nI_clamp] <;> first | done | rfl)
        | false =>
          rw [if_neg (by decide)] at hu
          rw [← hu] at ih ⊢
          have e1 : bI false = 0 := rfl
          rw [e1] at ih ⊢
          repeat (first | (refine W1 rfl ?_; try refine Wp.norm (L' := [_, _, _, _, _]) rfl ?_) | ((first | change (_ → _) ∧ (_ → _) | change vp_in _ _ ∧ _ | change ¬ _ ∧ _); simp (disch := omega) only [nI_clamp, nI_leI, nI_ltI, nI_eq, nI_1, nI_add, nI_not_neg, nI_is_pos, nI_m1, nI_z, N']) | refine brT (by first | assumption | decide | omega) ?_ | refine brF (by first | assumption | decide | omega) ?_ | refine brTn (by first | assumption | decide | omega) ?_ | refine brFn (by first | assumption | decide | omega) ?_ | refine And.intro (vp_in_nI (by omega) (by decide)) ?_ | refine And.intro (vp_lit (by decide)) ?_ | refine divJ (by decide) ?_ | refine divI (by decide) ?_)
          try change _ ∧ _
          refine ⟨by omega, ?_⟩
          repeat (first | (refine W1 rfl ?_; try refine Wp.norm (L' := [_, _, _, _, _]) rfl ?_) | ((first | change (_ → _) ∧ (_ → _) | change vp_in _ _ ∧ _ | change ¬ _ ∧ _); simp (disch := omega) only [nI_clamp, nI_leI, nI_ltI, nI_eq, nI_1, nI_add, nI_not_neg, nI_is_pos, nI_m1, nI_z, er]) | refine brT (by first | assumption | decide | omega) ?_ | refine brF (by first | assumption | decide | omega) ?_ | refine brTn (by first | assumption | decide | omega) ?_ | refine brFn (by first | assumption | decide | omega) ?_ | refine And.intro (vp_in_nI (by omega) (by decide)) ?_ | refine And.intro (vp_lit (by decide)) ?_ | refine divJ (by decide) ?_ | refine divI (by decide) ?_)
          try change _ ∧ _
          refine Cl.ofA (r_M_laysFor (t := i) (rbG false s b n k (tN s i)) (by omega)) (by rw [hg]; first | done | rfl | (simp (disch := omega) only [nI_1, nI_add, nI_clamp] <;> first | done | rfl)) (by decide) ?_
          repeat (first | refine Wp.at ih rfl rfl ?_ rfl | (refine W1 rfl ?_; try refine Wp.norm (L' := [_, _, _, _, _]) rfl ?_) | ((first | change (_ → _) ∧ (_ → _) | change vp_in _ _ ∧ _ | change ¬ _ ∧ _); simp (disch := omega) only [nI_clamp, nI_leI, nI_ltI, nI_eq, nI_1, nI_add, nI_not_neg, nI_is_pos, nI_m1, nI_z]) | refine brT (by first | assumption | decide | omega) ?_ | refine brF (by first | assumption | decide | omega) ?_ | refine brTn (by first | assumption | decide | omega) ?_ | refine brFn (by first | assumption | decide | omega) ?_ | refine And.intro (vp_in_nI (by omega) (by decide)) ?_ | refine And.intro (vp_lit (by decide)) ?_ | refine divJ (by decide) ?_ | refine divI (by decide) ?_)
          try change _ ∧ _
          first | done | rfl | (simp (disch := omega) only [nI_1, nI_add, nI_clamp] <;> first | done | rfl)
      · rw [if_neg z, Nat.add_zero] at es
        have ih := ih h' O (by rw [← cEM_n k i _ c z, ← cEM_n k i _ v z]; exact R')
        rw [es] at ih
        repeat (first | refine Wp.at ih rfl rfl ?_ rfl | (refine W1 rfl ?_; try refine Wp.norm (L' := [_, _, _, _, _]) rfl ?_) | ((first | change (_ → _) ∧ (_ → _) | change vp_in _ _ ∧ _ | change ¬ _ ∧ _); simp (disch := omega) only [nI_clamp, nI_leI, nI_ltI, nI_eq, nI_1, nI_add, nI_not_neg, nI_is_pos, nI_m1, nI_z]) | refine brT (by first | assumption | decide | omega) ?_ | refine brF (by first | assumption | decide | omega) ?_ | refine brTn (by first | assumption | decide | omega) ?_ | refine brFn (by first | assumption | decide | omega) ?_ | refine And.intro (vp_in_nI (by omega) (by decide)) ?_ | refine And.intro (vp_lit (by decide)) ?_ | refine divJ (by decide) ?_ | refine divI (by decide) ?_)
        try change _ ∧ _
        first | done | rfl | (simp (disch := omega) only [nI_1, nI_add, nI_clamp] <;> first | done | rfl)
  have ih := lp 0 (Nat.zero_le _) h1 (onlyJ.rfl _ _ h1) (by rw [cEM_0, cEM_0]; exact R1)
  have ez : cO s (some k) 0 = 0 := Nat.le_zero.mp (hcl 0)
  rw [ez] at ih
  repeat (first | (refine W1 rfl ?_; try refine Wp.norm (L' := [_, _, _, _, _]) rfl ?_) | ((first | change (_ → _) ∧ (_ → _) | change vp_in _ _ ∧ _ | change ¬ _ ∧ _); simp (disch := omega) only [nI_clamp, nI_leI, nI_ltI, nI_eq, nI_1, nI_add, nI_not_neg, nI_is_pos, nI_m1, nI_z]) | refine brT (by first | assumption | decide | omega) ?_ | refine brF (by first | assumption | decide | omega) ?_ | refine brTn (by first | assumption | decide | omega) ?_ | refine brFn (by first | assumption | decide | omega) ?_ | refine And.intro (vp_in_nI (by omega) (by decide)) ?_ | refine And.intro (vp_lit (by decide)) ?_ | refine divJ (by decide) ?_ | refine divI (by decide) ?_)
  try change _ ∧ _
  refine Cl.of r1 (by decide) ?_
  repeat (first | (refine W1 rfl ?_; try refine Wp.norm (L' := [_, _, _, _, _]) rfl ?_) | ((first | change (_ → _) ∧ (_ → _) | change vp_in _ _ ∧ _ | change ¬ _ ∧ _); simp (disch := omega) only [nI_clamp, nI_leI, nI_ltI, nI_eq, nI_1, nI_add, nI_not_neg, nI_is_pos, nI_m1, nI_z]) | refine brT (by first | assumption | decide | omega) ?_ | refine brF (by first | assumption | decide | omega) ?_ | refine brTn (by first | assumption | decide | omega) ?_ | refine brFn (by first | assumption | decide | omega) ?_ | refine And.intro (vp_in_nI (by omega) (by decide)) ?_ | refine And.intro (vp_lit (by decide)) ?_ | refine divJ (by decide) ?_ | refine divI (by decide) ?_)
  try change _ ∧ _
  refine Cl.of (g_MK R1 o hk) (by decide) ?_
  repeat (first | refine Wp.at ih rfl rfl ?_ rfl | (refine W1 rfl ?_; try refine Wp.norm (L' := [_, _, _, _, _]) rfl ?_) | ((first | change (_ → _) ∧ (_ → _) | change vp_in _ _ ∧ _ | change ¬ _ ∧ _); simp (disch := omega) only [nI_clamp, nI_leI, nI_ltI, nI_eq, nI_1, nI_add, nI_not_neg, nI_is_pos, nI_m1, nI_z]) | refine brT (by first | assumption | decide | omega) ?_ | refine brF (by first | assumption | decide | omega) ?_ | refine brTn (by first | assumption | decide | omega) ?_ | refine brFn (by first | assumption | decide | omega) ?_ | refine And.intro (vp_in_nI (by omega) (by decide)) ?_ | refine And.intro (vp_lit (by decide)) ?_ | refine divJ (by decide) ?_ | refine divI (by decide) ?_)
  try change _ ∧ _
  first | done | rfl | (simp (disch := omega) only [nI_1, nI_add, nI_clamp] <;> first | done | rfl)
end ROWX
