/-! ===== THE MODEL LOOKS AT WORDS AND SIGNS ===== -/
theorem st_alen {pc k m : Nat} {E : Nat × Nat × Nat × Nat × Nat × Int32 × Int64} {L r : List Value} {h : HP} {K : KT} {C : CT} {Q : QT} (e : shP k = .inl (2, m)) (hw : K (pc + E.1) L (.int (Int32.ofNat m) :: r) h) : st1 shP (.arraylength, E) pc L (.ref k :: r) h K C Q := by
  obtain ⟨a1, a2, a3, a4, a5, a6, a7⟩ := E
  unfold st1
  dsimp only
  rw [e]
  exact hw
theorem st_cal {pc k m : Nat} {x : Int32} {E : Nat × Nat × Nat × Nat × Nat × Int32 × Int64} {L r : List Value} {h : HP} {K : KT} {C : CT} {Q : QT} (e : shP k = .inl (2, m)) (hw : vp_in x m ∧ K (pc + E.1) L (.int (h.1 k x.toNatClampNeg) :: r) h) : st1 shP (.caload, E) pc L (.int x :: .ref k :: r) h K C Q := by
  obtain ⟨a1, a2, a3, a4, a5, a6, a7⟩ := E
  unfold st1
  dsimp only
  rw [e]
  exact hw
def ML (b : Nat → Nat) (n i : Nat) (h : HP) : Prop := MT b n h ∧ MA b n i h ∧ ME b n i h ∧ (∀ k, k < i → ps b n k < n) ∧ (h.1 65 5 = 0 ∧ h.1 65 6 = -1) ∧ WC h
section MLEX
variable {b : Nat → Nat} {n i : Nat} {h h' : HP}
theorem ow_iff {q : Nat} (hq : q < 20) : owV b n i = q ↔ ps b n i < n ∧ ltB b (ps b n i) = true ∧ jn b n i = false ∧ wrd b n i = ow q := by
  unfold owV
  constructor
  · intro e
    by_cases c : tS b n i = 3
    · rw [if_pos c] at e
      have hp : ps b n i < n := ps_of (by omega)
      have hl : ltB b (ps b n i) = true := by
        cases z : ltB b (ps b n i) with
        | true => rfl
        | false =>
          unfold tS sP at c
          rw [if_neg (by omega), if_neg (by rw [z]; decide)] at c
          split at c
          · split at c
            · cases c
            · split at c <;> cases c
          · cases c
      have hj : jn b n i = false := by
        cases z : jn b n i with
        | false => rfl
        | true =>
          unfold tS sP at c
          rw [if_neg (by omega), if_pos hl, if_pos z] at c
          cases c
      have h1 := tS_w hp hl hj
      have h2 := tV_w hp hl hj
      by_cases c2 : ox (wd b (ps b n i) (tl b n (ps b n i))) < 20
      · rw [if_pos c2] at h2
        refine ⟨hp, hl, hj, ?_⟩
        have := ox_eq c2
        unfold wrd
        rw [this, ← h2, e]
      · rw [if_neg c2, c] at h1
        split at h1 <;> cases h1
    · rw [if_neg c] at e; omega
  · rintro ⟨hp, hl, hj, hw⟩
    have h1 := tS_w hp hl hj
    have h2 := tV_w hp hl hj
    unfold wrd at hw
    rw [hw, ox_ow hq, if_pos hq] at h1 h2
    rw [if_pos h1, h2]
theorem ML.T (M : ML b n i h) : MT b n h := M.1
theorem ML.A (M : ML b n i h) : MA b n i h := M.2.1
theorem ML.E (M : ML b n i h) : ME b n i h := M.2.2.1
theorem ML.hi (M : ML b n i h) : ∀ k, k < i → ps b n k < n := M.2.2.2.1
theorem ML.f0 (M : ML b n i h) : h.1 65 5 = 0 := M.2.2.2.2.1.1
theorem ML.e6 (M : ML b n i h) : h.1 65 6 = -1 := M.2.2.2.2.1.2
theorem ML.W (M : ML b n i h) : WC h := M.2.2.2.2.2
theorem WC.w65 {k : Nat} {x : Int32} (w : WC h) : WC (wI h 65 k x) := fun q hq j hj => by
  rw [wI_ne _ _ _ (by omega)]
  exact w q hq j hj
theorem ML.lk (M : ML b n i h) : ML b n i (wI h 65 2 (nI (ps b n i))) := by
  obtain ⟨T, A, E, hi, f0, w⟩ := M
  refine ⟨T.a (by decide), ⟨ps b n i, rfl, ps_le i, sk_ps i⟩, ?_, hi, f0, w.w65⟩
  exact E
theorem r_MisLtN (h : HP) : Run 0 j_M_isLetter [.int (-1)] h (some (.int 0)) h := by
  refine Run.of rfl ?_
  refine Wp.norm (L' := [_]) rfl ?_
  repeat (first | (refine W1 rfl ?_; try refine Wp.norm (L' := [_]) rfl ?_) | ((first | change (_ → _) ∧ (_ → _) | change vp_in _ _ ∧ _ | change ¬ _ ∧ _); simp (disch := omega) only [nI_clamp, nI_leI, nI_ltI, nI_eq, nI_1, nI_add, nI_not_neg, nI_is_pos, nI_m1, nI_z]) | refine brT (by first | assumption | decide | omega) ?_ | refine brF (by first | assumption | decide | omega) ?_ | refine brTn (by first | assumption | decide | omega) ?_ | refine brFn (by first | assumption | decide | omega) ?_ | refine And.intro (vp_in_nI (by omega) (by decide)) ?_ | refine And.intro (vp_lit (by decide)) ?_ | refine divJ (by decide) ?_ | refine divI (by decide) ?_)
  try change _ ∧ _
  try first | exact ⟨rfl, rfl⟩ | exact ⟨Or.inr rfl, rfl, rfl⟩ | exact ⟨Or.inl rfl, rfl, rfl⟩ | exact ⟨trivial, trivial⟩ | exact ⟨rfl, trivial⟩ | exact ⟨Or.inr rfl, rfl, trivial⟩ | exact ⟨Or.inl rfl, rfl, trivial⟩
theorem wd_len2 {p k : Nat} : (wd b p k).length = k := wd_len p k
theorem r_isHere {q : Nat} (hq : q < 20) (M : ML b n i h) : Run 1 j_M_isHere [.ref 65, .ref (67 + q)] h (some (.int (bI (decide (owV b n i = q))))) (wI h 65 2 (nI (ps b n i))) := by
  have hsh := sh_w q hq
  have hol := ow_len q hq
  have M2 := M.lk
  obtain ⟨hn, he, hb⟩ := M2.T
  have f0 := M.f0
  have rl := r_look M.T M.A
  have hpl := ps_le (b := b) (n := n) i
  unfold lkV at rl
  have oiff := ow_iff (b := b) (n := n) (i := i) hq
  by_cases c1 : ps b n i < n
  · rw [if_pos c1] at rl
    have hb1 := (hb _ c1).2
    have rt := r_MisLt (wI h 65 2 (nI (ps b n i))) hb1
    cases c2 : ltB b (ps b n i) with
    | false =>
      rw [c2, bI_f] at rt
      rw [decide_eq_false (fun z => by have := (oiff.mp z).2.1; rw [c2] at this; cases this), bI_f]
      refine Run.of rfl ?_
      refine Wp.norm (L' := [_, _, _, _]) rfl ?_
      repeat (first | (refine W1 rfl ?_; try refine Wp.norm (L' := [_, _, _, _]) rfl ?_) | ((first | change (_ → _) ∧ (_ → _) | change vp_in _ _ ∧ _ | change ¬ _ ∧ _); simp (disch := omega) only [nI_clamp, nI_leI, nI_ltI, nI_eq, nI_1, nI_add, nI_not_neg, nI_is_pos, nI_m1, nI_z, f0]) | refine brT (by first | assumption | decide | omega) ?_ | refine brF (by first | assumption | decide | omega) ?_ | refine brTn (by first | assumption | decide | omega) ?_ | refine brFn (by first | assumption | decide | omega) ?_ | refine And.intro (vp_in_nI (by omega) (by decide)) ?_ | refine And.intro (vp_lit (by decide)) ?_ | refine divJ (by decide) ?_ | refine divI (by decide) ?_)
      try change _ ∧ _
      refine Cl.of rl (by decide) ?_
      repeat (first | (refine W1 rfl ?_; try refine Wp.norm (L' := [_, _, _, _]) rfl ?_) | ((first | change (_ → _) ∧ (_ → _) | change vp_in _ _ ∧ _ | change ¬ _ ∧ _); simp (disch := omega) only [nI_clamp, nI_leI, nI_ltI, nI_eq, nI_1, nI_add, nI_not_neg, nI_is_pos, nI_m1, nI_z]) | refine brT (by first | assumption | decide | omega) ?_ | refine brF (by first | assumption | decide | omega) ?_ | refine brTn (by first | assumption | decide | omega) ?_ | refine brFn (by first | assumption | decide | omega) ?_ | refine And.intro (vp_in_nI (by omega) (by decide)) ?_ | refine And.intro (vp_lit (by decide)) ?_ | refine divJ (by decide) ?_ | refine divI (by decide) ?_)
      try change _ ∧ _
      refine Cl.of rt (by decide) ?_
      repeat (first | (refine W1 rfl ?_; try refine Wp.norm (L' := [_, _, _, _]) rfl ?_) | ((first | change (_ → _) ∧ (_ → _) | change vp_in _ _ ∧ _ | change ¬ _ ∧ _); simp (disch := omega) only [nI_clamp, nI_leI, nI_ltI, nI_eq, nI_1, nI_add, nI_not_neg, nI_is_pos, nI_m1, nI_z]) | refine brT (by first | assumption | decide | omega) ?_ | refine brF (by first | assumption | decide | omega) ?_ | refine brTn (by first | assumption | decide | omega) ?_ | refine brFn (by first | assumption | decide | omega) ?_ | refine And.intro (vp_in_nI (by omega) (by decide)) ?_ | refine And.intro (vp_lit (by decide)) ?_ | refine divJ (by decide) ?_ | refine divI (by decide) ?_)
      try change _ ∧ _
      try first | exact ⟨rfl, rfl⟩ | exact ⟨Or.inr rfl, rfl, rfl⟩ | exact ⟨Or.inl rfl, rfl, rfl⟩ | exact ⟨trivial, trivial⟩ | exact ⟨rfl, trivial⟩ | exact ⟨Or.inr rfl, rfl, trivial⟩ | exact ⟨Or.inl rfl, rfl, trivial⟩
    | true =>
      rw [c2, bI_t] at rt
      have hE := M2.E
      have e2 : (wI h 65 2 (nI (ps b n i))).1 65 2 = nI (ps b n i) := rfl
      cases c3 : jn b n i with
      | true =>
        have e4 := hE.2.mpr c3
        rw [decide_eq_false (fun z => by have := (oiff.mp z).2.2.1; rw [c3] at this; cases this), bI_f]
        refine Run.of rfl ?_
        refine Wp.norm (L' := [_, _, _, _]) rfl ?_
        repeat (first | (refine W1 rfl ?_; try refine Wp.norm (L' := [_, _, _, _]) rfl ?_) | ((first | change (_ → _) ∧ (_ → _) | change vp_in _ _ ∧ _ | change ¬ _ ∧ _); simp (disch := omega) only [nI_clamp, nI_leI, nI_ltI, nI_eq, nI_1, nI_add, nI_not_neg, nI_is_pos, nI_m1, nI_z, f0]) | refine brT (by first | assumption | decide | omega) ?_ | refine brF (by first | assumption | decide | omega) ?_ | refine brTn (by first | assumption | decide | omega) ?_ | refine brFn (by first | assumption | decide | omega) ?_ | refine And.intro (vp_in_nI (by omega) (by decide)) ?_ | refine And.intro (vp_lit (by decide)) ?_ | refine divJ (by decide) ?_ | refine divI (by decide) ?_)
        try change _ ∧ _
        refine Cl.of rl (by decide) ?_
        repeat (first | (refine W1 rfl ?_; try refine Wp.norm (L' := [_, _, _, _]) rfl ?_) | ((first | change (_ → _) ∧ (_ → _) | change vp_in _ _ ∧ _ | change ¬ _ ∧ _); simp (disch := omega) only [nI_clamp, nI_leI, nI_ltI, nI_eq, nI_1, nI_add, nI_not_neg, nI_is_pos, nI_m1, nI_z]) | refine brT (by first | assumption | decide | omega) ?_ | refine brF (by first | assumption | decide | omega) ?_ | refine brTn (by first | assumption | decide | omega) ?_ | refine brFn (by first | assumption | decide | omega) ?_ | refine And.intro (vp_in_nI (by omega) (by decide)) ?_ | refine And.intro (vp_lit (by decide)) ?_ | refine divJ (by decide) ?_ | refine divI (by decide) ?_)
        try change _ ∧ _
        refine Cl.of rt (by decide) ?_
        repeat (first | (refine W1 rfl ?_; try refine Wp.norm (L' := [_, _, _, _]) rfl ?_) | ((first | change (_ → _) ∧ (_ → _) | change vp_in _ _ ∧ _ | change ¬ _ ∧ _); simp (disch := omega) only [nI_clamp, nI_leI, nI_ltI, nI_eq, nI_1, nI_add, nI_not_neg, nI_is_pos, nI_m1, nI_z, e4, e2]) | refine brT (by first | assumption | decide | omega) ?_ | refine brF (by first | assumption | decide | omega) ?_ | refine brTn (by first | assumption | decide | omega) ?_ | refine brFn (by first | assumption | decide | omega) ?_ | refine And.intro (vp_in_nI (by omega) (by decide)) ?_ | refine And.intro (vp_lit (by decide)) ?_ | refine divJ (by decide) ?_ | refine divI (by decide) ?_)
        try change _ ∧ _
        try first | exact ⟨rfl, rfl⟩ | exact ⟨Or.inr rfl, rfl, rfl⟩ | exact ⟨Or.inl rfl, rfl, rfl⟩ | exact ⟨trivial, trivial⟩ | exact ⟨rfl, trivial⟩ | exact ⟨Or.inr rfl, rfl, trivial⟩ | exact ⟨Or.inl rfl, rfl, trivial⟩
      | false =>
        have e4 : ¬ (nI (ps b n i) = (wI h 65 2 (nI (ps b n i))).1 65 4) := fun z => by
          have := hE.2.mp z.symm
          rw [c3] at this; cases this
        have e3 := he
        have ete := lt_te c1 c2
        have htg := te_gt (b := b) c1
        have htn := te_le (b := b) c1
        have hin : ∀ k, ps b n i ≤ k → k < te b n (ps b n i) → ltB b k = true := fun k k1 k2 => re_in (Nat.le_of_lt c1) k1 (by rw [← ete]; exact k2)
        have hout : te b n (ps b n i) < n → ltB b (te b n (ps b n i)) = false := fun z => by rw [ete] at z ⊢; exact re_out (Nat.le_of_lt c1) z
        have hwd : owV b n i = q ↔ (ow q).length = tl b n (ps b n i) ∧ ∀ j, j < tl b n (ps b n i) → (ow q).getD j 0 = b (ps b n i + j) - 96 := by
          rw [oiff]
          constructor
          · intro z; exact wd_eq.mp z.2.2.2
          · intro z; exact ⟨c1, c2, c3, wd_eq.mpr z⟩
        have hlet : ∀ j, j < tl b n (ps b n i) → ltB b (ps b n i + j) = true := fun j hj => lt_all c1 c2 hj
        have hWC := M2.W q hq
        have hol2 := ow_let q hq
        have etl : tl b n (ps b n i) = te b n (ps b n i) - ps b n i := rfl
        generalize hh1 : wI h 65 2 (nI (ps b n i)) = h1 at *
        generalize ps b n i = p at *
        generalize te b n p = t at *
        generalize tl b n p = l at *
        show Run 1 j_M_isHere _ _ _ _
        refine Run.of rfl ?_
        refine Wp.norm (L' := [_, _, _, _]) rfl ?_
        repeat (first | (refine W1 rfl ?_; try refine Wp.norm (L' := [_, _, _, _]) rfl ?_) | ((first | change (_ → _) ∧ (_ → _) | change vp_in _ _ ∧ _ | change ¬ _ ∧ _); simp (disch := omega) only [nI_clamp, nI_leI, nI_ltI, nI_eq, nI_1, nI_add, nI_not_neg, nI_is_pos, nI_m1, nI_z, f0]) | refine brT (by first | assumption | decide | omega) ?_ | refine brF (by first | assumption | decide | omega) ?_ | refine brTn (by first | assumption | decide | omega) ?_ | refine brFn (by first | assumption | decide | omega) ?_ | refine And.intro (vp_in_nI (by omega) (by decide)) ?_ | refine And.intro (vp_lit (by decide)) ?_ | refine divJ (by decide) ?_ | refine divI (by decide) ?_)
        try change _ ∧ _
        refine Cl.of rl (by decide) ?_
        repeat (first | (refine W1 rfl ?_; try refine Wp.norm (L' := [_, _, _, _]) rfl ?_) | ((first | change (_ → _) ∧ (_ → _) | change vp_in _ _ ∧ _ | change ¬ _ ∧ _); simp (disch := omega) only [nI_clamp, nI_leI, nI_ltI, nI_eq, nI_1, nI_add, nI_not_neg, nI_is_pos, nI_m1, nI_z]) | refine brT (by first | assumption | decide | omega) ?_ | refine brF (by first | assumption | decide | omega) ?_ | refine brTn (by first | assumption | decide | omega) ?_ | refine brFn (by first | assumption | decide | omega) ?_ | refine And.intro (vp_in_nI (by omega) (by decide)) ?_ | refine And.intro (vp_lit (by decide)) ?_ | refine divJ (by decide) ?_ | refine divI (by decide) ?_)
        try change _ ∧ _
        refine Cl.of rt (by decide) ?_
        have tail : ∀ x3, Wp 1 j_M_isHere 61 [.ref 65, .ref (67 + q), .int (nI t), x3] [] h1 (fun v2 h2 => v2 = some (.int (bI (decide (owV b n i = q)))) ∧ h2 = h1) := by
          intro x3
          have esub : nI t - nI p = nI l := by rw [nI_subN (by omega), etl]
          repeat (first | (refine W1 rfl ?_; try refine Wp.norm (L' := [_, _, _, _]) rfl ?_) | ((first | change (_ → _) ∧ (_ → _) | change vp_in _ _ ∧ _ | change ¬ _ ∧ _); simp (disch := omega) only [nI_clamp, nI_leI, nI_ltI, nI_eq, nI_1, nI_add, nI_not_neg, nI_is_pos, nI_m1, nI_z, e2]) | refine brT (by first | assumption | decide | omega) ?_ | refine brF (by first | assumption | decide | omega) ?_ | refine brTn (by first | assumption | decide | omega) ?_ | refine brFn (by first | assumption | decide | omega) ?_ | refine And.intro (vp_in_nI (by omega) (by decide)) ?_ | refine And.intro (vp_lit (by decide)) ?_ | refine divJ (by decide) ?_ | refine divI (by decide) ?_)
          try change _ ∧ _
          refine st_alen hsh ?_
          rw [show Int32.ofNat (ow q).length = nI (ow q).length from rfl, e2, esub]
          by_cases c5 : l = (ow q).length
          · have lp : ∀ m, m ≤ l → (∀ j, j < m → (ow q).getD j 0 = b (p + j) - 96) → Wp 1 j_M_isHere 76 [.ref 65, .ref (67 + q), .int (nI t), .int (nI m)] [] h1 (fun v2 h2 => v2 = some (.int (bI (decide (owV b n i = q)))) ∧ h2 = h1) := by
              refine up_ind ?_ (fun m hm ih => ?_)
              · intro hj
                rw [decide_eq_true (hwd.mpr ⟨c5.symm, hj⟩), bI_t]
                repeat (first | (refine W1 rfl ?_; try refine Wp.norm (L' := [_, _, _, _]) rfl ?_) | ((first | change (_ → _) ∧ (_ → _) | change vp_in _ _ ∧ _ | change ¬ _ ∧ _); simp (disch := omega) only [nI_clamp, nI_leI, nI_ltI, nI_eq, nI_1, nI_add, nI_not_neg, nI_is_pos, nI_m1, nI_z]) | refine brT (by first | assumption | decide | omega) ?_ | refine brF (by first | assumption | decide | omega) ?_ | refine brTn (by first | assumption | decide | omega) ?_ | refine brFn (by first | assumption | decide | omega) ?_ | refine And.intro (vp_in_nI (by omega) (by decide)) ?_ | refine And.intro (vp_lit (by decide)) ?_ | refine divJ (by decide) ?_ | refine divI (by decide) ?_)
                try change _ ∧ _
                refine st_alen hsh ?_
                rw [show Int32.ofNat (ow q).length = nI (ow q).length from rfl, c5]
                repeat (first | (refine W1 rfl ?_; try refine Wp.norm (L' := [_, _, _, _]) rfl ?_) | ((first | change (_ → _) ∧ (_ → _) | change vp_in _ _ ∧ _ | change ¬ _ ∧ _); simp (disch := omega) only [nI_clamp, nI_leI, nI_ltI, nI_eq, nI_1, nI_add, nI_not_neg, nI_is_pos, nI_m1, nI_z]) | refine brT (by first | assumption | decide | omega) ?_ | refine brF (by first | assumption | decide | omega) ?_ | refine brTn (by first | assumption | decide | omega) ?_ | refine brFn (by first | assumption | decide | omega) ?_ | refine And.intro (vp_in_nI (by omega) (by decide)) ?_ | refine And.intro (vp_lit (by decide)) ?_ | refine divJ (by decide) ?_ | refine divI (by decide) ?_)
                try change _ ∧ _
                try first | exact ⟨rfl, rfl⟩ | exact ⟨Or.inr rfl, rfl, rfl⟩ | exact ⟨Or.inl rfl, rfl, rfl⟩ | exact ⟨trivial, trivial⟩ | exact ⟨rfl, trivial⟩ | exact ⟨Or.inr rfl, rfl, trivial⟩ | exact ⟨Or.inl rfl, rfl, trivial⟩
              · intro hj
                have hbm := hb (p + m) (by omega)
                have hlm := hlet m hm
                rw [ltB_i] at hlm
                have ewc := hWC m (by omega)
                have hl2 := hol2 m (by omega) (by omega)
                repeat (first | (refine W1 rfl ?_; try refine Wp.norm (L' := [_, _, _, _]) rfl ?_) | ((first | change (_ → _) ∧ (_ → _) | change vp_in _ _ ∧ _ | change ¬ _ ∧ _); simp (disch := omega) only [nI_clamp, nI_leI, nI_ltI, nI_eq, nI_1, nI_add, nI_not_neg, nI_is_pos, nI_m1, nI_z]) | refine brT (by first | assumption | decide | omega) ?_ | refine brF (by first | assumption | decide | omega) ?_ | refine brTn (by first | assumption | decide | omega) ?_ | refine brFn (by first | assumption | decide | omega) ?_ | refine And.intro (vp_in_nI (by omega) (by decide)) ?_ | refine And.intro (vp_lit (by decide)) ?_ | refine divJ (by decide) ?_ | refine divI (by decide) ?_)
                try change _ ∧ _
                refine st_alen hsh ?_
                rw [show Int32.ofNat (ow q).length = nI (ow q).length from rfl]
                have ebm := hbm.1
                repeat (first | (refine W1 rfl ?_; try refine Wp.norm (L' := [_, _, _, _]) rfl ?_) | ((first | change (_ → _) ∧ (_ → _) | change vp_in _ _ ∧ _ | change ¬ _ ∧ _); simp (disch := omega) only [nI_clamp, nI_leI, nI_ltI, nI_eq, nI_1, nI_add, nI_not_neg, nI_is_pos, nI_m1, nI_z, e2, ebm]) | refine brT (by first | assumption | decide | omega) ?_ | refine brF (by first | assumption | decide | omega) ?_ | refine brTn (by first | assumption | decide | omega) ?_ | refine brFn (by first | assumption | decide | omega) ?_ | refine And.intro (vp_in_nI (by omega) (by decide)) ?_ | refine And.intro (vp_lit (by decide)) ?_ | refine divJ (by decide) ?_ | refine divI (by decide) ?_)
                try change _ ∧ _
                refine st_cal hsh ⟨vp_in_nI (by omega) (by omega), ?_⟩
                simp (disch := omega) only [e2, nI_add, nI_clamp, ebm, ewc]
                by_cases c6 : (ow q).getD m 0 = b (p + m) - 96
                · have ih := ih (fun j hj2 => by
                    by_cases e : j = m
                    · rw [e]; exact c6
                    · exact hj j (by omega))
                  repeat (first | refine Wp.at ih rfl rfl ?_ rfl | (refine W1 rfl ?_; try refine Wp.norm (L' := [_, _, _, _]) rfl ?_) | ((first | change (_ → _) ∧ (_ → _) | change vp_in _ _ ∧ _ | change ¬ _ ∧ _); simp (disch := omega) only [nI_clamp, nI_leI, nI_ltI, nI_eq, nI_1, nI_add, nI_not_neg, nI_is_pos, nI_m1, nI_z]) | refine brT (by first | assumption | decide | omega) ?_ | refine brF (by first | assumption | decide | omega) ?_ | refine brTn (by first | assumption | decide | omega) ?_ | refine brFn (by first | assumption | decide | omega) ?_ | refine And.intro (vp_in_nI (by omega) (by decide)) ?_ | refine And.intro (vp_lit (by decide)) ?_ | refine divJ (by decide) ?_ | refine divI (by decide) ?_)
                  try change _ ∧ _
                  first | done | rfl | (simp (disch := omega) only [nI_1, nI_add, nI_clamp] <;> first | done | rfl)
                · rw [decide_eq_false (fun z => c6 ((hwd.mp z).2 m hm)), bI_f]
                  repeat (first | (refine W1 rfl ?_; try refine Wp.norm (L' := [_, _, _, _]) rfl ?_) | ((first | change (_ → _) ∧ (_ → _) | change vp_in _ _ ∧ _ | change ¬ _ ∧ _); simp (disch := omega) only [nI_clamp, nI_leI, nI_ltI, nI_eq, nI_1, nI_add, nI_not_neg, nI_is_pos, nI_m1, nI_z]) | refine brT (by first | assumption | decide | omega) ?_ | refine brF (by first | assumption | decide | omega) ?_ | refine brTn (by first | assumption | decide | omega) ?_ | refine brFn (by first | assumption | decide | omega) ?_ | refine And.intro (vp_in_nI (by omega) (by decide)) ?_ | refine And.intro (vp_lit (by decide)) ?_ | refine divJ (by decide) ?_ | refine divI (by decide) ?_)
                  try change _ ∧ _
                  try first | exact ⟨rfl, rfl⟩ | exact ⟨Or.inr rfl, rfl, rfl⟩ | exact ⟨Or.inl rfl, rfl, rfl⟩ | exact ⟨trivial, trivial⟩ | exact ⟨rfl, trivial⟩ | exact ⟨Or.inr rfl, rfl, trivial⟩ | exact ⟨Or.inl rfl, rfl, trivial⟩
            have ih := lp 0 (Nat.zero_le _) (fun j hj => absurd hj (by omega))
            repeat (first | refine Wp.at ih rfl rfl ?_ rfl | (refine W1 rfl ?_; try refine Wp.norm (L' := [_, _, _, _]) rfl ?_) | ((first | change (_ → _) ∧ (_ → _) | change vp_in _ _ ∧ _ | change ¬ _ ∧ _); simp (disch := omega) only [nI_clamp, nI_leI, nI_ltI, nI_eq, nI_1, nI_add, nI_not_neg, nI_is_pos, nI_m1, nI_z]) | refine brT (by first | assumption | decide | omega) ?_ | refine brF (by first | assumption | decide | omega) ?_ | refine brTn (by first | assumption | decide | omega) ?_ | refine brFn (by first | assumption | decide | omega) ?_ | refine And.intro (vp_in_nI (by omega) (by decide)) ?_ | refine And.intro (vp_lit (by decide)) ?_ | refine divJ (by decide) ?_ | refine divI (by decide) ?_)
            try change _ ∧ _
            first | done | rfl | (simp (disch := omega) only [nI_1, nI_add, nI_clamp] <;> first | done | rfl)
          · rw [decide_eq_false (fun z => c5 (hwd.mp z).1.symm), bI_f]
            repeat (first | (refine W1 rfl ?_; try refine Wp.norm (L' := [_, _, _, _]) rfl ?_) | ((first | change (_ → _) ∧ (_ → _) | change vp_in _ _ ∧ _ | change ¬ _ ∧ _); simp (disch := omega) only [nI_clamp, nI_leI, nI_ltI, nI_eq, nI_1, nI_add, nI_not_neg, nI_is_pos, nI_m1, nI_z]) | refine brT (by first | assumption | decide | omega) ?_ | refine brF (by first | assumption | decide | omega) ?_ | refine brTn (by first | assumption | decide | omega) ?_ | refine brFn (by first | assumption | decide | omega) ?_ | refine And.intro (vp_in_nI (by omega) (by decide)) ?_ | refine And.intro (vp_lit (by decide)) ?_ | refine divJ (by decide) ?_ | refine divI (by decide) ?_)
            try change _ ∧ _
            try first | exact ⟨rfl, rfl⟩ | exact ⟨Or.inr rfl, rfl, rfl⟩ | exact ⟨Or.inl rfl, rfl, rfl⟩ | exact ⟨trivial, trivial⟩ | exact ⟨rfl, trivial⟩ | exact ⟨Or.inr rfl, rfl, trivial⟩ | exact ⟨Or.inl rfl, rfl, trivial⟩
        have lk : ∀ k, k ≤ t → p ≤ k → ∀ x3, Wp 1 j_M_isHere 35 [.ref 65, .ref (67 + q), .int (nI k), x3] [] h1 (fun v2 h2 => v2 = some (.int (bI (decide (owV b n i = q)))) ∧ h2 = h1) := by
          refine up_ind ?_ (fun k hk ih => ?_)
          · intro hpk x3
            have ih := tail x3
            by_cases c5 : t < n
            · have hbt := hb t c5
              have ebt := hbt.1
              have rt2 := r_MisLt (b := b) h1 hbt.2
              rw [hout c5, bI_f] at rt2
              repeat (first | (refine W1 rfl ?_; try refine Wp.norm (L' := [_, _, _, _]) rfl ?_) | ((first | change (_ → _) ∧ (_ → _) | change vp_in _ _ ∧ _ | change ¬ _ ∧ _); simp (disch := omega) only [nI_clamp, nI_leI, nI_ltI, nI_eq, nI_1, nI_add, nI_not_neg, nI_is_pos, nI_m1, nI_z, e3, ebt]) | refine brT (by first | assumption | decide | omega) ?_ | refine brF (by first | assumption | decide | omega) ?_ | refine brTn (by first | assumption | decide | omega) ?_ | refine brFn (by first | assumption | decide | omega) ?_ | refine And.intro (vp_in_nI (by omega) (by decide)) ?_ | refine And.intro (vp_lit (by decide)) ?_ | refine divJ (by decide) ?_ | refine divI (by decide) ?_)
              try change _ ∧ _
              refine Cl.ofA rt2 (by first | done | rfl | (simp (disch := omega) only [nI_1, nI_add, nI_clamp, ebt] <;> first | done | rfl)) (by decide) ?_
              repeat (first | refine Wp.at ih rfl rfl ?_ rfl | (refine W1 rfl ?_; try refine Wp.norm (L' := [_, _, _, _]) rfl ?_) | ((first | change (_ → _) ∧ (_ → _) | change vp_in _ _ ∧ _ | change ¬ _ ∧ _); simp (disch := omega) only [nI_clamp, nI_leI, nI_ltI, nI_eq, nI_1, nI_add, nI_not_neg, nI_is_pos, nI_m1, nI_z]) | refine brT (by first | assumption | decide | omega) ?_ | refine brF (by first | assumption | decide | omega) ?_ | refine brTn (by first | assumption | decide | omega) ?_ | refine brFn (by first | assumption | decide | omega) ?_ | refine And.intro (vp_in_nI (by omega) (by decide)) ?_ | refine And.intro (vp_lit (by decide)) ?_ | refine divJ (by decide) ?_ | refine divI (by decide) ?_)
              try change _ ∧ _
              first | done | rfl | (simp (disch := omega) only [nI_1, nI_add, nI_clamp] <;> first | done | rfl)
            · repeat (first | refine Wp.at ih rfl rfl ?_ rfl | (refine W1 rfl ?_; try refine Wp.norm (L' := [_, _, _, _]) rfl ?_) | ((first | change (_ → _) ∧ (_ → _) | change vp_in _ _ ∧ _ | change ¬ _ ∧ _); simp (disch := omega) only [nI_clamp, nI_leI, nI_ltI, nI_eq, nI_1, nI_add, nI_not_neg, nI_is_pos, nI_m1, nI_z, e3]) | refine brT (by first | assumption | decide | omega) ?_ | refine brF (by first | assumption | decide | omega) ?_ | refine brTn (by first | assumption | decide | omega) ?_ | refine brFn (by first | assumption | decide | omega) ?_ | refine And.intro (vp_in_nI (by omega) (by decide)) ?_ | refine And.intro (vp_lit (by decide)) ?_ | refine divJ (by decide) ?_ | refine divI (by decide) ?_)
              try change _ ∧ _
              first | done | rfl | (simp (disch := omega) only [nI_1, nI_add, nI_clamp] <;> first | done | rfl)
          · intro hpk x3
            have ih := ih (by omega) x3
            have hbt := hb k (by omega)
            have ebt := hbt.1
            have rt2 := r_MisLt (b := b) h1 hbt.2
            rw [hin k hpk hk, bI_t] at rt2
            repeat (first | (refine W1 rfl ?_; try refine Wp.norm (L' := [_, _, _, _]) rfl ?_) | ((first | change (_ → _) ∧ (_ → _) | change vp_in _ _ ∧ _ | change ¬ _ ∧ _); simp (disch := omega) only [nI_clamp, nI_leI, nI_ltI, nI_eq, nI_1, nI_add, nI_not_neg, nI_is_pos, nI_m1, nI_z, e3, ebt]) | refine brT (by first | assumption | decide | omega) ?_ | refine brF (by first | assumption | decide | omega) ?_ | refine brTn (by first | assumption | decide | omega) ?_ | refine brFn (by first | assumption | decide | omega) ?_ | refine And.intro (vp_in_nI (by omega) (by decide)) ?_ | refine And.intro (vp_lit (by decide)) ?_ | refine divJ (by decide) ?_ | refine divI (by decide) ?_)
            try change _ ∧ _
            refine Cl.ofA rt2 (by first | done | rfl | (simp (disch := omega) only [nI_1, nI_add, nI_clamp, ebt] <;> first | done | rfl)) (by decide) ?_
            repeat (first | refine Wp.at ih rfl rfl ?_ rfl | (refine W1 rfl ?_; try refine Wp.norm (L' := [_, _, _, _]) rfl ?_) | ((first | change (_ → _) ∧ (_ → _) | change vp_in _ _ ∧ _ | change ¬ _ ∧ _); simp (disch := omega) only [nI_clamp, nI_leI, nI_ltI, nI_eq, nI_1, nI_add, nI_not_neg, nI_is_pos, nI_m1, nI_z]) | refine brT (by first | assumption | decide | omega) ?_ | refine brF (by first | assumption | decide | omega) ?_ | refine brTn (by first | assumption | decide | omega) ?_ | refine brFn (by first | assumption | decide | omega) ?_ | refine And.intro (vp_in_nI (by omega) (by decide)) ?_ | refine And.intro (vp_lit (by decide)) ?_ | refine divJ (by decide) ?_ | refine divI (by decide) ?_)
            try change _ ∧ _
            first | done | rfl | (simp (disch := omega) only [nI_1, nI_add, nI_clamp] <;> first | done | rfl)
        have ih := lk p (by omega) (Nat.le_refl _) .null
        repeat (first | refine Wp.at ih rfl rfl ?_ rfl | (refine W1 rfl ?_; try refine Wp.norm (L' := [_, _, _, _]) rfl ?_) | ((first | change (_ → _) ∧ (_ → _) | change vp_in _ _ ∧ _ | change ¬ _ ∧ _); simp (disch := omega) only [nI_clamp, nI_leI, nI_ltI, nI_eq, nI_1, nI_add, nI_not_neg, nI_is_pos, nI_m1, nI_z, e2]) | refine brT (by first | assumption | decide | omega) ?_ | refine brF (by first | assumption | decide | omega) ?_ | refine brTn (by first | assumption | decide | omega) ?_ | refine brFn (by first | assumption | decide | omega) ?_ | refine And.intro (vp_in_nI (by omega) (by decide)) ?_ | refine And.intro (vp_lit (by decide)) ?_ | refine divJ (by decide) ?_ | refine divI (by decide) ?_)
        try change _ ∧ _
        first | done | rfl | (simp (disch := omega) only [nI_1, nI_add, nI_clamp, e2] <;> first | done | rfl)
  · rw [if_neg c1] at rl
    rw [decide_eq_false (fun z => c1 (oiff.mp z).1), bI_f]
    refine Run.of rfl ?_
    refine Wp.norm (L' := [_, _, _, _]) rfl ?_
    repeat (first | (refine W1 rfl ?_; try refine Wp.norm (L' := [_, _, _, _]) rfl ?_) | ((first | change (_ → _) ∧ (_ → _) | change vp_in _ _ ∧ _ | change ¬ _ ∧ _); simp (disch := omega) only [nI_clamp, nI_leI, nI_ltI, nI_eq, nI_1, nI_add, nI_not_neg, nI_is_pos, nI_m1, nI_z, f0]) | refine brT (by first | assumption | decide | omega) ?_ | refine brF (by first | assumption | decide | omega) ?_ | refine brTn (by first | assumption | decide | omega) ?_ | refine brFn (by first | assumption | decide | omega) ?_ | refine And.intro (vp_in_nI (by omega) (by decide)) ?_ | refine And.intro (vp_lit (by decide)) ?_ | refine divJ (by decide) ?_ | refine divI (by decide) ?_)
    try change _ ∧ _
    refine Cl.of rl (by decide) ?_
    repeat (first | (refine W1 rfl ?_; try refine Wp.norm (L' := [_, _, _, _]) rfl ?_) | ((first | change (_ → _) ∧ (_ → _) | change vp_in _ _ ∧ _ | change ¬ _ ∧ _); simp (disch := omega) only [nI_clamp, nI_leI, nI_ltI, nI_eq, nI_1, nI_add, nI_not_neg, nI_is_pos, nI_m1, nI_z]) | refine brT (by first | assumption | decide | omega) ?_ | refine brF (by first | assumption | decide | omega) ?_ | refine brTn (by first | assumption | decide | omega) ?_ | refine brFn (by first | assumption | decide | omega) ?_ | refine And.intro (vp_in_nI (by omega) (by decide)) ?_ | refine And.intro (vp_lit (by decide)) ?_ | refine divJ (by decide) ?_ | refine divI (by decide) ?_)
    try change _ ∧ _
    refine Cl.of (r_MisLtN _) (by decide) ?_
    repeat (first | (refine W1 rfl ?_; try refine Wp.norm (L' := [_, _, _, _]) rfl ?_) | ((first | change (_ → _) ∧ (_ → _) | change vp_in _ _ ∧ _ | change ¬ _ ∧ _); simp (disch := omega) only [nI_clamp, nI_leI, nI_ltI, nI_eq, nI_1, nI_add, nI_not_neg, nI_is_pos, nI_m1, nI_z]) | refine brT (by first | assumption | decide | omega) ?_ | refine brF (by first | assumption | decide | omega) ?_ | refine brTn (by first | assumption | decide | omega) ?_ | refine brFn (by first | assumption | decide | omega) ?_ | refine And.intro (vp_in_nI (by omega) (by decide)) ?_ | refine And.intro (vp_lit (by decide)) ?_ | refine divJ (by decide) ?_ | refine divI (by decide) ?_)
    try change _ ∧ _
    try first | exact ⟨rfl, rfl⟩ | exact ⟨Or.inr rfl, rfl, rfl⟩ | exact ⟨Or.inl rfl, rfl, rfl⟩ | exact ⟨trivial, trivial⟩ | exact ⟨rfl, trivial⟩ | exact ⟨Or.inr rfl, rfl, trivial⟩ | exact ⟨Or.inl rfl, rfl, trivial⟩
end MLEX
