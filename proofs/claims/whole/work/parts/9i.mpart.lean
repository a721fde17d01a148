/-! ===== THE MODEL READS A PART ===== -/
section MPT
variable {b : Nat → Nat} {n i : Nat} {h h' : HP} {s : ST} {C W : List Nat} {B d : Nat}
theorem tV_4 (h4 : tS b n i = 4) : tV b n i ≤ 9999 := by
  obtain ⟨hp, hd, hj⟩ := tS_45 (Or.inl h4)
  obtain ⟨a1, a2⟩ := tS_d hp hd hj
  by_cases c : 4 < tl b n (ps b n i)
  · rw [if_pos c] at a1; omega
  · rw [if_neg c] at a2
    have h1 := dc_lt (b := b) (p := ps b n i) (tl b n (ps b n i)) (fun j hj => dg_all hp hd hj)
    have h2 : 10 ^ tl b n (ps b n i) ≤ 10 ^ 4 := Nat.pow_le_pow_right (by decide) (by omega)
    have h3 : (10 : Nat) ^ 4 = 10000 := by decide
    omega
theorem sg_ow9 {c : Nat} (hc : c ≠ 0) (h1 : sgV b n i = c) : owV b n i = 99 ∧ tS b n i = 6 := by
  unfold sgV at h1
  by_cases z : tS b n i = 6
  · exact ⟨tS_ow (by omega), z⟩
  · rw [if_neg z] at h1; omega
theorem ow_t3 {c : Nat} (hc : c < 99) (h1 : owV b n i = c) : tS b n i = 3 := by
  unfold owV at h1
  by_cases z : tS b n i = 3
  · exact z
  · rw [if_neg z] at h1; omega
theorem t4_sg (h4 : tS b n i ≠ 6) : sgV b n i = 0 := by unfold sgV; rw [if_neg h4]
theorem QF.mk' {f p k : Nat} (L : LF f p h) (hk : k ≤ 901) (e : h.1 65 48 = nI k) : QF f p h := ⟨L, k, hk, e⟩
theorem QF.ne {f p : Nat} (S : QF f p h) : ¬ h.1 65 5 = 0 := S.1.ne
def PD (b : Nat → Nat) (n i : Nat) (C U V : List Nat) (m : Nat) (s : ST) (h' : HP) : Prop :=
  (∃ i' U' x, MK b n i' (C ++ [x]) (U' ++ V) V.length (opn (U' ++ V)) h' ∧ uW U' ∧ i < i' ∧ (U' ++ V).length + 1 + i ≤ (U ++ V).length + i' ∧ qGo b n (0, i, U ++ m :: V, opn (U ++ V), C, s) (1, i', U' ++ m :: V, opn (U' ++ V), C ++ [x], s)) ∨ ∃ f p, QF f p h' ∧ qGo b n (0, i, U ++ m :: V, opn (U ++ V), C, s) (flt f p)
theorem q_onePart {U V : List Nat} {m : Nat} (s : ST) (M : MK b n i C (U ++ V) V.length (opn (U ++ V)) h) (hl : C.length + (U ++ V).length ≤ i) (hu : uW U) : ∃ w h', Run 3 j_M_onePart [.ref 65] h w h' ∧ (w = none ∧ TX h h' ∧ PD b n i C U V m s h') := by
  refine Run.ofP rfl ?_
  refine Wp.norm (L' := [_, _]) rfl ?_
  generalize hQQ : (fun (w : Option Value) (h' : HP) => w = none ∧ TX h h' ∧ PD b n i C U V m s h') = QQ
  have lp : ∀ e j U1 g, 901 ≤ j + e → MK b n j C (U1 ++ V) V.length (opn (U1 ++ V)) g → TX h g → C.length + (U1 ++ V).length ≤ j → uW U1 → i ≤ j → (U1 ++ V).length + i ≤ (U ++ V).length + j → qGo b n (0, i, U ++ m :: V, opn (U ++ V), C, s) (0, j, U1 ++ m :: V, opn (U1 ++ V), C, s) → Wp 3 j_M_onePart 0 [.ref 65, .null] [] g QQ := by
    intro e
    induction e with
    | zero =>
      intro j U1 g he M
      have := M.L.i9
      omega
    | succ e ih =>
      intro j U1 g he M F hl hu hij hgr go
      have f0 := M.L.f0
      have rl := M.rl
      have M1 := M.lk
      have F1 : TX h (wI g 65 2 (nI (ps b n j))) := F.a (by decide)
      have f1 := M1.L.f0
      have hT := M.L.T.1
      have e2 : (wI g 65 2 (nI (ps b n j))).1 65 2 = nI (ps b n j) := rfl
      have hk := lkc_eq (c := 40) M.L (by decide)
      by_cases c40 : sgV b n j = 40
      · have hk : lkV b n (ps b n j) = 40 := hk.mpr c40
        obtain ⟨hp, hb⟩ := (sg_iff (by decide)).mp c40
        have hwn := sg_wn (by decide) hb
        have i8 := M.L.i8 hp
        have d6 := M.d6
        generalize hg1 : wI g 65 2 (nI (ps b n j)) = g1 at *
        by_cases c6 : opn (U1 ++ V) = 6
        · rw [c6] at M1
          have ro := q_opens6 (x := 20) (p := ps b n j) M1
          have L4 : LF 4 (ps b n j) (wI (wI g1 65 5 (nI 4)) 65 6 (nI (ps b n j))) := lf_mk (by decide)
          have c48 : (wI (wI g1 65 5 (nI 4)) 65 6 (nI (ps b n j))).1 65 48 = nI C.length := M1.cm.2.1
          have F2 : TX h (wI (wI g1 65 5 (nI 4)) 65 6 (nI (ps b n j))) := (F1.a (by decide)).a (by decide)
          generalize wI (wI g1 65 5 (nI 4)) 65 6 (nI (ps b n j)) = g2 at *
          have L5 : QF 4 (ps b n j) (wI g2 65 2 (g2.1 65 2 + 1)) := ⟨⟨L4.1, L4.2.1, L4.2.2⟩, C.length, by have := M1.cm.1; omega, c48⟩
          have hne := L5.ne
          show Wp 3 j_M_onePart _ _ _ _ _
          repeat (first | (refine W1 rfl ?_; try refine Wp.norm (L' := [_, _]) rfl ?_) | ((first | change (_ → _) ∧ (_ → _) | change vp_in _ _ ∧ _ | change ¬ _ ∧ _); simp (disch := omega) only [nI_clamp, nI_leI, nI_ltI, nI_eq, nI_1, nI_add, nI_not_neg, nI_is_pos, nI_m1, nI_z, f0]) | refine brT (by first | assumption | decide | omega) ?_ | refine brF (by first | assumption | decide | omega) ?_ | refine brTn (by first | assumption | decide | omega) ?_ | refine brFn (by first | assumption | decide | omega) ?_ | refine And.intro (vp_in_nI (by omega) (by decide)) ?_ | refine And.intro (vp_lit (by decide)) ?_ | refine divJ (by decide) ?_ | refine divI (by decide) ?_)
          try change _ ∧ _
          refine Cl.of rl (by decide) ?_
          repeat (first | (refine W1 rfl ?_; try refine Wp.norm (L' := [_, _]) rfl ?_) | ((first | change (_ → _) ∧ (_ → _) | change vp_in _ _ ∧ _ | change ¬ _ ∧ _); simp (disch := omega) only [nI_clamp, nI_leI, nI_ltI, nI_eq, nI_1, nI_add, nI_not_neg, nI_is_pos, nI_m1, nI_z, e2]) | refine brT (by first | assumption | decide | omega) ?_ | refine brF (by first | assumption | decide | omega) ?_ | refine brTn (by first | assumption | decide | omega) ?_ | refine brFn (by first | assumption | decide | omega) ?_ | refine And.intro (vp_in_nI (by omega) (by decide)) ?_ | refine And.intro (vp_lit (by decide)) ?_ | refine divJ (by decide) ?_ | refine divI (by decide) ?_)
          try change _ ∧ _
          refine Cl.ofA ro (by first | done | rfl | (simp (disch := omega) only [nI_1, nI_add, nI_clamp, e2] <;> first | done | rfl)) (by decide) ?_
          repeat (first | (refine W1 rfl ?_; try refine Wp.norm (L' := [_, _]) rfl ?_) | ((first | change (_ → _) ∧ (_ → _) | change vp_in _ _ ∧ _ | change ¬ _ ∧ _); simp (disch := omega) only [nI_clamp, nI_leI, nI_ltI, nI_eq, nI_1, nI_add, nI_not_neg, nI_is_pos, nI_m1, nI_z]) | refine brT (by first | assumption | decide | omega) ?_ | refine brF (by first | assumption | decide | omega) ?_ | refine brTn (by first | assumption | decide | omega) ?_ | refine brFn (by first | assumption | decide | omega) ?_ | refine And.intro (vp_in_nI (by omega) (by decide)) ?_ | refine And.intro (vp_lit (by decide)) ?_ | refine divJ (by decide) ?_ | refine divI (by decide) ?_)
          try change _ ∧ _
          rw [← hQQ]
          refine ⟨rfl, F2.a (by decide), Or.inr ⟨4, ps b n j, L5, go.trans (qGo.one ?_)⟩⟩
          rw [q0]
          unfold qB
          rw [if_pos c40, if_pos (by omega)]
        · obtain ⟨g2, ro, F2, M2, e22⟩ := q_opens (x := 20) (nI (ps b n j)) M1 (by omega) (by omega)
          rw [e2] at e22
          have M3 := M2.sgn hp hwn
          have o1 : opn (U1 ++ V) + 1 = opn (20 :: U1 ++ V) := (opn_1 (by omega)).symm
          rw [o1] at M3
          have ih := ih (j + 1) (20 :: U1) _ (by omega) M3 ((F1.trans F2).a (by decide)) (by show C.length + ((U1 ++ V).length + 1) ≤ j + 1; omega) (hu.c (by omega)) (by omega) (by show (U1 ++ V).length + 1 + i ≤ _; omega) (go.trans (qGo.one (by
            rw [q0]
            unfold qB
            rw [if_pos c40, if_neg (by omega), o1]
            rfl)))
          have e3 : g2.1 65 2 + 1 = nI (ps b n j + 1) := by rw [e22, nI_1]
          rw [← e3] at ih
          show Wp 3 j_M_onePart _ _ _ _ _
          repeat (first | (refine W1 rfl ?_; try refine Wp.norm (L' := [_, _]) rfl ?_) | ((first | change (_ → _) ∧ (_ → _) | change vp_in _ _ ∧ _ | change ¬ _ ∧ _); simp (disch := omega) only [nI_clamp, nI_leI, nI_ltI, nI_eq, nI_1, nI_add, nI_not_neg, nI_is_pos, nI_m1, nI_z, f0]) | refine brT (by first | assumption | decide | omega) ?_ | refine brF (by first | assumption | decide | omega) ?_ | refine brTn (by first | assumption | decide | omega) ?_ | refine brFn (by first | assumption | decide | omega) ?_ | refine And.intro (vp_in_nI (by omega) (by decide)) ?_ | refine And.intro (vp_lit (by decide)) ?_ | refine divJ (by decide) ?_ | refine divI (by decide) ?_)
          try change _ ∧ _
          refine Cl.of rl (by decide) ?_
          repeat (first | (refine W1 rfl ?_; try refine Wp.norm (L' := [_, _]) rfl ?_) | ((first | change (_ → _) ∧ (_ → _) | change vp_in _ _ ∧ _ | change ¬ _ ∧ _); simp (disch := omega) only [nI_clamp, nI_leI, nI_ltI, nI_eq, nI_1, nI_add, nI_not_neg, nI_is_pos, nI_m1, nI_z, e2]) | refine brT (by first | assumption | decide | omega) ?_ | refine brF (by first | assumption | decide | omega) ?_ | refine brTn (by first | assumption | decide | omega) ?_ | refine brFn (by first | assumption | decide | omega) ?_ | refine And.intro (vp_in_nI (by omega) (by decide)) ?_ | refine And.intro (vp_lit (by decide)) ?_ | refine divJ (by decide) ?_ | refine divI (by decide) ?_)
          try change _ ∧ _
          refine Cl.ofA ro (by first | done | rfl | (simp (disch := omega) only [nI_1, nI_add, nI_clamp, e2] <;> first | done | rfl)) (by decide) ?_
          repeat (first | refine Wp.at ih rfl rfl ?_ rfl | (refine W1 rfl ?_; try refine Wp.norm (L' := [_, _]) rfl ?_) | ((first | change (_ → _) ∧ (_ → _) | change vp_in _ _ ∧ _ | change ¬ _ ∧ _); simp (disch := omega) only [nI_clamp, nI_leI, nI_ltI, nI_eq, nI_1, nI_add, nI_not_neg, nI_is_pos, nI_m1, nI_z]) | refine brT (by first | assumption | decide | omega) ?_ | refine brF (by first | assumption | decide | omega) ?_ | refine brTn (by first | assumption | decide | omega) ?_ | refine brFn (by first | assumption | decide | omega) ?_ | refine And.intro (vp_in_nI (by omega) (by decide)) ?_ | refine And.intro (vp_lit (by decide)) ?_ | refine divJ (by decide) ?_ | refine divI (by decide) ?_)
          try change _ ∧ _
          first | done | rfl | (simp (disch := omega) only [nI_1, nI_add, nI_clamp] <;> first | done | rfl)
      · have hk : ¬ lkV b n (ps b n j) = 40 := fun z => c40 (hk.mp z)
        have hB : qst b n (0, j, U1 ++ m :: V, opn (U1 ++ V), C, s) = qB b n j (U1 ++ m :: V) (opn (U1 ++ V)) C s := q0
        unfold qB at hB
        rw [if_neg c40] at hB
        have cl9 := M.cm.1
        have good : ∀ x g', MK b n (j + 1) (C ++ [x]) (U1 ++ V) V.length (opn (U1 ++ V)) g' → TX h g' → qst b n (0, j, U1 ++ m :: V, opn (U1 ++ V), C, s) = (1, j + 1, U1 ++ m :: V, opn (U1 ++ V), C ++ [x], s) → QQ none g' := fun x g' M' F' hq => by
          rw [← hQQ]
          exact ⟨rfl, F', Or.inl ⟨j + 1, U1, x, M', hu, by omega, by omega, go.trans (qGo.one hq)⟩⟩
        obtain ⟨g2, r2, F2, A2, B2⟩ := m_takes (q := 17) (by decide) M1.L
        by_cases c17 : owV b n j = 17
        · have t3 := ow_t3 (by decide) c17
          have hp := ow_ps (b := b) (n := n) (i := j) (by omega)
          have i8 := M.L.i8 hp
          have M2 := M1.lx F2 (A2 c17)
          obtain ⟨g3, r3, F3, M3⟩ := q_code (x := 6) M2 (by omega)
          have gd := good 6 g3 M3 ((F1.trans F2.tx).trans F3) (hB.trans (by rw [if_neg (by omega), if_pos (by omega), c17]; try rfl))
          rw [decide_eq_true c17, bI_t] at r2
          show Wp 3 j_M_onePart _ _ _ _ _
          repeat (first | (refine W1 rfl ?_; try refine Wp.norm (L' := [_, _]) rfl ?_) | ((first | change (_ → _) ∧ (_ → _) | change vp_in _ _ ∧ _ | change ¬ _ ∧ _); simp (disch := omega) only [nI_clamp, nI_leI, nI_ltI, nI_eq, nI_1, nI_add, nI_not_neg, nI_is_pos, nI_m1, nI_z, f0]) | refine brT (by first | assumption | decide | omega) ?_ | refine brF (by first | assumption | decide | omega) ?_ | refine brTn (by first | assumption | decide | omega) ?_ | refine brFn (by first | assumption | decide | omega) ?_ | refine And.intro (vp_in_nI (by omega) (by decide)) ?_ | refine And.intro (vp_lit (by decide)) ?_ | refine divJ (by decide) ?_ | refine divI (by decide) ?_)
          try change _ ∧ _
          refine Cl.of rl (by decide) ?_
          repeat (first | (refine W1 rfl ?_; try refine Wp.norm (L' := [_, _]) rfl ?_) | ((first | change (_ → _) ∧ (_ → _) | change vp_in _ _ ∧ _ | change ¬ _ ∧ _); simp (disch := omega) only [nI_clamp, nI_leI, nI_ltI, nI_eq, nI_1, nI_add, nI_not_neg, nI_is_pos, nI_m1, nI_z, f1]) | refine brT (by first | assumption | decide | omega) ?_ | refine brF (by first | assumption | decide | omega) ?_ | refine brTn (by first | assumption | decide | omega) ?_ | refine brFn (by first | assumption | decide | omega) ?_ | refine And.intro (vp_in_nI (by omega) (by decide)) ?_ | refine And.intro (vp_lit (by decide)) ?_ | refine divJ (by decide) ?_ | refine divI (by decide) ?_)
          try change _ ∧ _
          refine Cl.of r2 (by decide) ?_
          repeat (first | (refine W1 rfl ?_; try refine Wp.norm (L' := [_, _]) rfl ?_) | ((first | change (_ → _) ∧ (_ → _) | change vp_in _ _ ∧ _ | change ¬ _ ∧ _); simp (disch := omega) only [nI_clamp, nI_leI, nI_ltI, nI_eq, nI_1, nI_add, nI_not_neg, nI_is_pos, nI_m1, nI_z]) | refine brT (by first | assumption | decide | omega) ?_ | refine brF (by first | assumption | decide | omega) ?_ | refine brTn (by first | assumption | decide | omega) ?_ | refine brFn (by first | assumption | decide | omega) ?_ | refine And.intro (vp_in_nI (by omega) (by decide)) ?_ | refine And.intro (vp_lit (by decide)) ?_ | refine divJ (by decide) ?_ | refine divI (by decide) ?_)
          try change _ ∧ _
          refine Cl.of r3 (by decide) ?_
          repeat (first | (refine W1 rfl ?_; try refine Wp.norm (L' := [_, _]) rfl ?_) | ((first | change (_ → _) ∧ (_ → _) | change vp_in _ _ ∧ _ | change ¬ _ ∧ _); simp (disch := omega) only [nI_clamp, nI_leI, nI_ltI, nI_eq, nI_1, nI_add, nI_not_neg, nI_is_pos, nI_m1, nI_z]) | refine brT (by first | assumption | decide | omega) ?_ | refine brF (by first | assumption | decide | omega) ?_ | refine brTn (by first | assumption | decide | omega) ?_ | refine brFn (by first | assumption | decide | omega) ?_ | refine And.intro (vp_in_nI (by omega) (by decide)) ?_ | refine And.intro (vp_lit (by decide)) ?_ | refine divJ (by decide) ?_ | refine divI (by decide) ?_)
          try change _ ∧ _
          exact gd
        · obtain ⟨L2, p2⟩ := B2 c17
          have M2 := M1.lx F2 L2
          rw [decide_eq_false c17, bI_f] at r2
          obtain ⟨g3, r3, F3, A3, B3⟩ := m_takes (q := 18) (by decide) M2.L
          by_cases c18 : owV b n j = 18
          · have t3 := ow_t3 (by decide) c18
            have hp := ow_ps (b := b) (n := n) (i := j) (by omega)
            have i8 := M.L.i8 hp
            have M3 := M2.lx F3 (A3 c18)
            obtain ⟨g4, r4, F4, M4⟩ := q_code (x := 7) M3 (by omega)
            have gd := good 7 g4 M4 (((F1.trans F2.tx).trans F3.tx).trans F4) (hB.trans (by rw [if_neg (by omega), if_pos (by omega), c18]; try rfl))
            rw [decide_eq_true c18, bI_t] at r3
            show Wp 3 j_M_onePart _ _ _ _ _
            repeat (first | (refine W1 rfl ?_; try refine Wp.norm (L' := [_, _]) rfl ?_) | ((first | change (_ → _) ∧ (_ → _) | change vp_in _ _ ∧ _ | change ¬ _ ∧ _); simp (disch := omega) only [nI_clamp, nI_leI, nI_ltI, nI_eq, nI_1, nI_add, nI_not_neg, nI_is_pos, nI_m1, nI_z, f0]) | refine brT (by first | assumption | decide | omega) ?_ | refine brF (by first | assumption | decide | omega) ?_ | refine brTn (by first | assumption | decide | omega) ?_ | refine brFn (by first | assumption | decide | omega) ?_ | refine And.intro (vp_in_nI (by omega) (by decide)) ?_ | refine And.intro (vp_lit (by decide)) ?_ | refine divJ (by decide) ?_ | refine divI (by decide) ?_)
            try change _ ∧ _
            refine Cl.of rl (by decide) ?_
            repeat (first | (refine W1 rfl ?_; try refine Wp.norm (L' := [_, _]) rfl ?_) | ((first | change (_ → _) ∧ (_ → _) | change vp_in _ _ ∧ _ | change ¬ _ ∧ _); simp (disch := omega) only [nI_clamp, nI_leI, nI_ltI, nI_eq, nI_1, nI_add, nI_not_neg, nI_is_pos, nI_m1, nI_z, f1]) | refine brT (by first | assumption | decide | omega) ?_ | refine brF (by first | assumption | decide | omega) ?_ | refine brTn (by first | assumption | decide | omega) ?_ | refine brFn (by first | assumption | decide | omega) ?_ | refine And.intro (vp_in_nI (by omega) (by decide)) ?_ | refine And.intro (vp_lit (by decide)) ?_ | refine divJ (by decide) ?_ | refine divI (by decide) ?_)
            try change _ ∧ _
            refine Cl.of r2 (by decide) ?_
            repeat (first | (refine W1 rfl ?_; try refine Wp.norm (L' := [_, _]) rfl ?_) | ((first | change (_ → _) ∧ (_ → _) | change vp_in _ _ ∧ _ | change ¬ _ ∧ _); simp (disch := omega) only [nI_clamp, nI_leI, nI_ltI, nI_eq, nI_1, nI_add, nI_not_neg, nI_is_pos, nI_m1, nI_z]) | refine brT (by first | assumption | decide | omega) ?_ | refine brF (by first | assumption | decide | omega) ?_ | refine brTn (by first | assumption | decide | omega) ?_ | refine brFn (by first | assumption | decide | omega) ?_ | refine And.intro (vp_in_nI (by omega) (by decide)) ?_ | refine And.intro (vp_lit (by decide)) ?_ | refine divJ (by decide) ?_ | refine divI (by decide) ?_)
            try change _ ∧ _
            refine Cl.of r3 (by decide) ?_
            repeat (first | (refine W1 rfl ?_; try refine Wp.norm (L' := [_, _]) rfl ?_) | ((first | change (_ → _) ∧ (_ → _) | change vp_in _ _ ∧ _ | change ¬ _ ∧ _); simp (disch := omega) only [nI_clamp, nI_leI, nI_ltI, nI_eq, nI_1, nI_add, nI_not_neg, nI_is_pos, nI_m1, nI_z]) | refine brT (by first | assumption | decide | omega) ?_ | refine brF (by first | assumption | decide | omega) ?_ | refine brTn (by first | assumption | decide | omega) ?_ | refine brFn (by first | assumption | decide | omega) ?_ | refine And.intro (vp_in_nI (by omega) (by decide)) ?_ | refine And.intro (vp_lit (by decide)) ?_ | refine divJ (by decide) ?_ | refine divI (by decide) ?_)
            try change _ ∧ _
            refine Cl.of r4 (by decide) ?_
            repeat (first | (refine W1 rfl ?_; try refine Wp.norm (L' := [_, _]) rfl ?_) | ((first | change (_ → _) ∧ (_ → _) | change vp_in _ _ ∧ _ | change ¬ _ ∧ _); simp (disch := omega) only [nI_clamp, nI_leI, nI_ltI, nI_eq, nI_1, nI_add, nI_not_neg, nI_is_pos, nI_m1, nI_z]) | refine brT (by first | assumption | decide | omega) ?_ | refine brF (by first | assumption | decide | omega) ?_ | refine brTn (by first | assumption | decide | omega) ?_ | refine brFn (by first | assumption | decide | omega) ?_ | refine And.intro (vp_in_nI (by omega) (by decide)) ?_ | refine And.intro (vp_lit (by decide)) ?_ | refine divJ (by decide) ?_ | refine divI (by decide) ?_)
            try change _ ∧ _
            exact gd
          · obtain ⟨L3, p3⟩ := B3 c18
            have M3 := M2.lx F3 L3
            rw [decide_eq_false c18, bI_f] at r3
            obtain ⟨g4, r4, F4, A4, B4⟩ := m_takes (q := 19) (by decide) M3.L
            by_cases c19 : owV b n j = 19
            · have t3 := ow_t3 (by decide) c19
              have hp := ow_ps (b := b) (n := n) (i := j) (by omega)
              have i8 := M.L.i8 hp
              have M4 := M3.lx F4 (A4 c19)
              obtain ⟨g5, r5, F5, M5⟩ := q_code (x := 8) M4 (by omega)
              have gd := good 8 g5 M5 ((((F1.trans F2.tx).trans F3.tx).trans F4.tx).trans F5) (hB.trans (by rw [if_neg (by omega), if_pos (by omega), c19]; try rfl))
              rw [decide_eq_true c19, bI_t] at r4
              show Wp 3 j_M_onePart _ _ _ _ _
              repeat (first | (refine W1 rfl ?_; try refine Wp.norm (L' := [_, _]) rfl ?_) | ((first | change (_ → _) ∧ (_ → _) | change vp_in _ _ ∧ _ | change ¬ _ ∧ _); simp (disch := omega) only [nI_clamp, nI_leI, nI_ltI, nI_eq, nI_1, nI_add, nI_not_neg, nI_is_pos, nI_m1, nI_z, f0]) | refine brT (by first | assumption | decide | omega) ?_ | refine brF (by first | assumption | decide | omega) ?_ | refine brTn (by first | assumption | decide | omega) ?_ | refine brFn (by first | assumption | decide | omega) ?_ | refine And.intro (vp_in_nI (by omega) (by decide)) ?_ | refine And.intro (vp_lit (by decide)) ?_ | refine divJ (by decide) ?_ | refine divI (by decide) ?_)
              try change _ ∧ _
              refine Cl.of rl (by decide) ?_
              repeat (first | (refine W1 rfl ?_; try refine Wp.norm (L' := [_, _]) rfl ?_) | ((first | change (_ → _) ∧ (_ → _) | change vp_in _ _ ∧ _ | change ¬ _ ∧ _); simp (disch := omega) only [nI_clamp, nI_leI, nI_ltI, nI_eq, nI_1, nI_add, nI_not_neg, nI_is_pos, nI_m1, nI_z, f1]) | refine brT (by first | assumption | decide | omega) ?_ | refine brF (by first | assumption | decide | omega) ?_ | refine brTn (by first | assumption | decide | omega) ?_ | refine brFn (by first | assumption | decide | omega) ?_ | refine And.intro (vp_in_nI (by omega) (by decide)) ?_ | refine And.intro (vp_lit (by decide)) ?_ | refine divJ (by decide) ?_ | refine divI (by decide) ?_)
              try change _ ∧ _
              refine Cl.of r2 (by decide) ?_
              repeat (first | (refine W1 rfl ?_; try refine Wp.norm (L' := [_, _]) rfl ?_) | ((first | change (_ → _) ∧ (_ → _) | change vp_in _ _ ∧ _ | change ¬ _ ∧ _); simp (disch := omega) only [nI_clamp, nI_leI, nI_ltI, nI_eq, nI_1, nI_add, nI_not_neg, nI_is_pos, nI_m1, nI_z]) | refine brT (by first | assumption | decide | omega) ?_ | refine brF (by first | assumption | decide | omega) ?_ | refine brTn (by first | assumption | decide | omega) ?_ | refine brFn (by first | assumption | decide | omega) ?_ | refine And.intro (vp_in_nI (by omega) (by decide)) ?_ | refine And.intro (vp_lit (by decide)) ?_ | refine divJ (by decide) ?_ | refine divI (by decide) ?_)
              try change _ ∧ _
              refine Cl.of r3 (by decide) ?_
              repeat (first | (refine W1 rfl ?_; try refine Wp.norm (L' := [_, _]) rfl ?_) | ((first | change (_ → _) ∧ (_ → _) | change vp_in _ _ ∧ _ | change ¬ _ ∧ _); simp (disch := omega) only [nI_clamp, nI_leI, nI_ltI, nI_eq, nI_1, nI_add, nI_not_neg, nI_is_pos, nI_m1, nI_z]) | refine brT (by first | assumption | decide | omega) ?_ | refine brF (by first | assumption | decide | omega) ?_ | refine brTn (by first | assumption | decide | omega) ?_ | refine brFn (by first | assumption | decide | omega) ?_ | refine And.intro (vp_in_nI (by omega) (by decide)) ?_ | refine And.intro (vp_lit (by decide)) ?_ | refine divJ (by decide) ?_ | refine divI (by decide) ?_)
              try change _ ∧ _
              refine Cl.of r4 (by decide) ?_
              repeat (first | (refine W1 rfl ?_; try refine Wp.norm (L' := [_, _]) rfl ?_) | ((first | change (_ → _) ∧ (_ → _) | change vp_in _ _ ∧ _ | change ¬ _ ∧ _); simp (disch := omega) only [nI_clamp, nI_leI, nI_ltI, nI_eq, nI_1, nI_add, nI_not_neg, nI_is_pos, nI_m1, nI_z]) | refine brT (by first | assumption | decide | omega) ?_ | refine brF (by first | assumption | decide | omega) ?_ | refine brTn (by first | assumption | decide | omega) ?_ | refine brFn (by first | assumption | decide | omega) ?_ | refine And.intro (vp_in_nI (by omega) (by decide)) ?_ | refine And.intro (vp_lit (by decide)) ?_ | refine divJ (by decide) ?_ | refine divI (by decide) ?_)
              try change _ ∧ _
              refine Cl.of r5 (by decide) ?_
              repeat (first | (refine W1 rfl ?_; try refine Wp.norm (L' := [_, _]) rfl ?_) | ((first | change (_ → _) ∧ (_ → _) | change vp_in _ _ ∧ _ | change ¬ _ ∧ _); simp (disch := omega) only [nI_clamp, nI_leI, nI_ltI, nI_eq, nI_1, nI_add, nI_not_neg, nI_is_pos, nI_m1, nI_z]) | refine brT (by first | assumption | decide | omega) ?_ | refine brF (by first | assumption | decide | omega) ?_ | refine brTn (by first | assumption | decide | omega) ?_ | refine brFn (by first | assumption | decide | omega) ?_ | refine And.intro (vp_in_nI (by omega) (by decide)) ?_ | refine And.intro (vp_lit (by decide)) ?_ | refine divJ (by decide) ?_ | refine divI (by decide) ?_)
              try change _ ∧ _
              exact gd
            · obtain ⟨L4, p4⟩ := B4 c19
              have M4 := M3.lx F4 L4
              rw [decide_eq_false c19, bI_f] at r4
              obtain ⟨w5, g5, r5, y, rfl, F5, X5, e5⟩ := m_number (o := none) (l := 0) (u := 9999) M4.L (by decide) (by decide)
              have FF := (((F1.trans F2.tx).trans F3.tx).trans F4.tx).trans F5.tx
              rw [ch_n] at X5 e5
              by_cases c4 : tS b n j = 4
              · have hp := ps_of (b := b) (n := n) (i := j) (by omega)
                have i8 := M.L.i8 hp
                have hck : ckN b n j 0 9999 = none := by
                  unfold ckN
                  rw [if_pos c4, if_pos ⟨Nat.zero_le _, tV_4 c4⟩]
                rw [hck] at X5
                obtain ⟨ey, _⟩ := e5 hck
                have M5 := M4.lx F5 X5
                obtain ⟨g6, r6, F6, M6⟩ := q_code (x := 1000 + tV b n j) M5 (by omega)
                have gd := good _ g6 M6 (FF.trans F6) (hB.trans (by rw [if_pos c4]))
                subst ey
                show Wp 3 j_M_onePart _ _ _ _ _
                repeat (first | (refine W1 rfl ?_; try refine Wp.norm (L' := [_, _]) rfl ?_) | ((first | change (_ → _) ∧ (_ → _) | change vp_in _ _ ∧ _ | change ¬ _ ∧ _); simp (disch := omega) only [nI_clamp, nI_leI, nI_ltI, nI_eq, nI_1, nI_add, nI_not_neg, nI_is_pos, nI_m1, nI_z, f0]) | refine brT (by first | assumption | decide | omega) ?_ | refine brF (by first | assumption | decide | omega) ?_ | refine brTn (by first | assumption | decide | omega) ?_ | refine brFn (by first | assumption | decide | omega) ?_ | refine And.intro (vp_in_nI (by omega) (by decide)) ?_ | refine And.intro (vp_lit (by decide)) ?_ | refine divJ (by decide) ?_ | refine divI (by decide) ?_)
                try change _ ∧ _
                refine Cl.of rl (by decide) ?_
                repeat (first | (refine W1 rfl ?_; try refine Wp.norm (L' := [_, _]) rfl ?_) | ((first | change (_ → _) ∧ (_ → _) | change vp_in _ _ ∧ _ | change ¬ _ ∧ _); simp (disch := omega) only [nI_clamp, nI_leI, nI_ltI, nI_eq, nI_1, nI_add, nI_not_neg, nI_is_pos, nI_m1, nI_z, f1]) | refine brT (by first | assumption | decide | omega) ?_ | refine brF (by first | assumption | decide | omega) ?_ | refine brTn (by first | assumption | decide | omega) ?_ | refine brFn (by first | assumption | decide | omega) ?_ | refine And.intro (vp_in_nI (by omega) (by decide)) ?_ | refine And.intro (vp_lit (by decide)) ?_ | refine divJ (by decide) ?_ | refine divI (by decide) ?_)
                try change _ ∧ _
                refine Cl.of r2 (by decide) ?_
                repeat (first | (refine W1 rfl ?_; try refine Wp.norm (L' := [_, _]) rfl ?_) | ((first | change (_ → _) ∧ (_ → _) | change vp_in _ _ ∧ _ | change ¬ _ ∧ _); simp (disch := omega) only [nI_clamp, nI_leI, nI_ltI, nI_eq, nI_1, nI_add, nI_not_neg, nI_is_pos, nI_m1, nI_z]) | refine brT (by first | assumption | decide | omega) ?_ | refine brF (by first | assumption | decide | omega) ?_ | refine brTn (by first | assumption | decide | omega) ?_ | refine brFn (by first | assumption | decide | omega) ?_ | refine And.intro (vp_in_nI (by omega) (by decide)) ?_ | refine And.intro (vp_lit (by decide)) ?_ | refine divJ (by decide) ?_ | refine divI (by decide) ?_)
                try change _ ∧ _
                refine Cl.of r3 (by decide) ?_
                repeat (first | (refine W1 rfl ?_; try refine Wp.norm (L' := [_, _]) rfl ?_) | ((first | change (_ → _) ∧ (_ → _) | change vp_in _ _ ∧ _ | change ¬ _ ∧ _); simp (disch := omega) only [nI_clamp, nI_leI, nI_ltI, nI_eq, nI_1, nI_add, nI_not_neg, nI_is_pos, nI_m1, nI_z]) | refine brT (by first | assumption | decide | omega) ?_ | refine brF (by first | assumption | decide | omega) ?_ | refine brTn (by first | assumption | decide | omega) ?_ | refine brFn (by first | assumption | decide | omega) ?_ | refine And.intro (vp_in_nI (by omega) (by decide)) ?_ | refine And.intro (vp_lit (by decide)) ?_ | refine divJ (by decide) ?_ | refine divI (by decide) ?_)
                try change _ ∧ _
                refine Cl.of r4 (by decide) ?_
                repeat (first | (refine W1 rfl ?_; try refine Wp.norm (L' := [_, _]) rfl ?_) | ((first | change (_ → _) ∧ (_ → _) | change vp_in _ _ ∧ _ | change ¬ _ ∧ _); simp (disch := omega) only [nI_clamp, nI_leI, nI_ltI, nI_eq, nI_1, nI_add, nI_not_neg, nI_is_pos, nI_m1, nI_z]) | refine brT (by first | assumption | decide | omega) ?_ | refine brF (by first | assumption | decide | omega) ?_ | refine brTn (by first | assumption | decide | omega) ?_ | refine brFn (by first | assumption | decide | omega) ?_ | refine And.intro (vp_in_nI (by omega) (by decide)) ?_ | refine And.intro (vp_lit (by decide)) ?_ | refine divJ (by decide) ?_ | refine divI (by decide) ?_)
                try change _ ∧ _
                refine Cl.of r5 (by decide) ?_
                repeat (first | (refine W1 rfl ?_; try refine Wp.norm (L' := [_, _]) rfl ?_) | ((first | change (_ → _) ∧ (_ → _) | change vp_in _ _ ∧ _ | change ¬ _ ∧ _); simp (disch := omega) only [nI_clamp, nI_leI, nI_ltI, nI_eq, nI_1, nI_add, nI_not_neg, nI_is_pos, nI_m1, nI_z]) | refine brT (by first | assumption | decide | omega) ?_ | refine brF (by first | assumption | decide | omega) ?_ | refine brTn (by first | assumption | decide | omega) ?_ | refine brFn (by first | assumption | decide | omega) ?_ | refine And.intro (vp_in_nI (by omega) (by decide)) ?_ | refine And.intro (vp_lit (by decide)) ?_ | refine divJ (by decide) ?_ | refine divI (by decide) ?_)
                try change _ ∧ _
                refine Cl.ofA r6 (by rw [← nI_add]; rfl) (by decide) ?_
                repeat (first | (refine W1 rfl ?_; try refine Wp.norm (L' := [_, _]) rfl ?_) | ((first | change (_ → _) ∧ (_ → _) | change vp_in _ _ ∧ _ | change ¬ _ ∧ _); simp (disch := omega) only [nI_clamp, nI_leI, nI_ltI, nI_eq, nI_1, nI_add, nI_not_neg, nI_is_pos, nI_m1, nI_z]) | refine brT (by first | assumption | decide | omega) ?_ | refine brF (by first | assumption | decide | omega) ?_ | refine brTn (by first | assumption | decide | omega) ?_ | refine brFn (by first | assumption | decide | omega) ?_ | refine And.intro (vp_in_nI (by omega) (by decide)) ?_ | refine And.intro (vp_lit (by decide)) ?_ | refine divJ (by decide) ?_ | refine divI (by decide) ?_)
                try change _ ∧ _
                exact gd
              · have hck : ckN b n j 0 9999 = some (1, ps b n j + if tS b n j = 5 then 4 else 0) := by
                  unfold ckN
                  rw [if_neg c4]
                rw [hck] at X5
                have X5 : LF 1 (ps b n j + if tS b n j = 5 then 4 else 0) g5 := X5
                have c48 : g5.1 65 48 = nI C.length := by rw [F5.2 48 (by decide)]; exact M4.cm.2.1
                have r6 := r_code (h := g5) (k := C.length) (by omega) c48 (1000 + y)
                have L6 : QF 1 (ps b n j + if tS b n j = 5 then 4 else 0) (wI (wI g5 103 C.length (1000 + y)) 65 48 (nI (C.length + 1))) := ⟨⟨X5.1, X5.2.1, X5.2.2⟩, C.length + 1, by omega, rfl⟩
                show Wp 3 j_M_onePart _ _ _ _ _
                repeat (first | (refine W1 rfl ?_; try refine Wp.norm (L' := [_, _]) rfl ?_) | ((first | change (_ → _) ∧ (_ → _) | change vp_in _ _ ∧ _ | change ¬ _ ∧ _); simp (disch := omega) only [nI_clamp, nI_leI, nI_ltI, nI_eq, nI_1, nI_add, nI_not_neg, nI_is_pos, nI_m1, nI_z, f0]) | refine brT (by first | assumption | decide | omega) ?_ | refine brF (by first | assumption | decide | omega) ?_ | refine brTn (by first | assumption | decide | omega) ?_ | refine brFn (by first | assumption | decide | omega) ?_ | refine And.intro (vp_in_nI (by omega) (by decide)) ?_ | refine And.intro (vp_lit (by decide)) ?_ | refine divJ (by decide) ?_ | refine divI (by decide) ?_)
                try change _ ∧ _
                refine Cl.of rl (by decide) ?_
                repeat (first | (refine W1 rfl ?_; try refine Wp.norm (L' := [_, _]) rfl ?_) | ((first | change (_ → _) ∧ (_ → _) | change vp_in _ _ ∧ _ | change ¬ _ ∧ _); simp (disch := omega) only [nI_clamp, nI_leI, nI_ltI, nI_eq, nI_1, nI_add, nI_not_neg, nI_is_pos, nI_m1, nI_z, f1]) | refine brT (by first | assumption | decide | omega) ?_ | refine brF (by first | assumption | decide | omega) ?_ | refine brTn (by first | assumption | decide | omega) ?_ | refine brFn (by first | assumption | decide | omega) ?_ | refine And.intro (vp_in_nI (by omega) (by decide)) ?_ | refine And.intro (vp_lit (by decide)) ?_ | refine divJ (by decide) ?_ | refine divI (by decide) ?_)
                try change _ ∧ _
                refine Cl.of r2 (by decide) ?_
                repeat (first | (refine W1 rfl ?_; try refine Wp.norm (L' := [_, _]) rfl ?_) | ((first | change (_ → _) ∧ (_ → _) | change vp_in _ _ ∧ _ | change ¬ _ ∧ _); simp (disch := omega) only [nI_clamp, nI_leI, nI_ltI, nI_eq, nI_1, nI_add, nI_not_neg, nI_is_pos, nI_m1, nI_z]) | refine brT (by first | assumption | decide | omega) ?_ | refine brF (by first | assumption | decide | omega) ?_ | refine brTn (by first | assumption | decide | omega) ?_ | refine brFn (by first | assumption | decide | omega) ?_ | refine And.intro (vp_in_nI (by omega) (by decide)) ?_ | refine And.intro (vp_lit (by decide)) ?_ | refine divJ (by decide) ?_ | refine divI (by decide) ?_)
                try change _ ∧ _
                refine Cl.of r3 (by decide) ?_
                repeat (first | (refine W1 rfl ?_; try refine Wp.norm (L' := [_, _]) rfl ?_) | ((first | change (_ → _) ∧ (_ → _) | change vp_in _ _ ∧ _ | change ¬ _ ∧ _); simp (disch := omega) only [nI_clamp, nI_leI, nI_ltI, nI_eq, nI_1, nI_add, nI_not_neg, nI_is_pos, nI_m1, nI_z]) | refine brT (by first | assumption | decide | omega) ?_ | refine brF (by first | assumption | decide | omega) ?_ | refine brTn (by first | assumption | decide | omega) ?_ | refine brFn (by first | assumption | decide | omega) ?_ | refine And.intro (vp_in_nI (by omega) (by decide)) ?_ | refine And.intro (vp_lit (by decide)) ?_ | refine divJ (by decide) ?_ | refine divI (by decide) ?_)
                try change _ ∧ _
                refine Cl.of r4 (by decide) ?_
                repeat (first | (refine W1 rfl ?_; try refine Wp.norm (L' := [_, _]) rfl ?_) | ((first | change (_ → _) ∧ (_ → _) | change vp_in _ _ ∧ _ | change ¬ _ ∧ _); simp (disch := omega) only [nI_clamp, nI_leI, nI_ltI, nI_eq, nI_1, nI_add, nI_not_neg, nI_is_pos, nI_m1, nI_z]) | refine brT (by first | assumption | decide | omega) ?_ | refine brF (by first | assumption | decide | omega) ?_ | refine brTn (by first | assumption | decide | omega) ?_ | refine brFn (by first | assumption | decide | omega) ?_ | refine And.intro (vp_in_nI (by omega) (by decide)) ?_ | refine And.intro (vp_lit (by decide)) ?_ | refine divJ (by decide) ?_ | refine divI (by decide) ?_)
                try change _ ∧ _
                refine Cl.of r5 (by decide) ?_
                repeat (first | (refine W1 rfl ?_; try refine Wp.norm (L' := [_, _]) rfl ?_) | ((first | change (_ → _) ∧ (_ → _) | change vp_in _ _ ∧ _ | change ¬ _ ∧ _); simp (disch := omega) only [nI_clamp, nI_leI, nI_ltI, nI_eq, nI_1, nI_add, nI_not_neg, nI_is_pos, nI_m1, nI_z]) | refine brT (by first | assumption | decide | omega) ?_ | refine brF (by first | assumption | decide | omega) ?_ | refine brTn (by first | assumption | decide | omega) ?_ | refine brFn (by first | assumption | decide | omega) ?_ | refine And.intro (vp_in_nI (by omega) (by decide)) ?_ | refine And.intro (vp_lit (by decide)) ?_ | refine divJ (by decide) ?_ | refine divI (by decide) ?_)
                try change _ ∧ _
                refine Cl.of r6 (by decide) ?_
                repeat (first | (refine W1 rfl ?_; try refine Wp.norm (L' := [_, _]) rfl ?_) | ((first | change (_ → _) ∧ (_ → _) | change vp_in _ _ ∧ _ | change ¬ _ ∧ _); simp (disch := omega) only [nI_clamp, nI_leI, nI_ltI, nI_eq, nI_1, nI_add, nI_not_neg, nI_is_pos, nI_m1, nI_z]) | refine brT (by first | assumption | decide | omega) ?_ | refine brF (by first | assumption | decide | omega) ?_ | refine brTn (by first | assumption | decide | omega) ?_ | refine brFn (by first | assumption | decide | omega) ?_ | refine And.intro (vp_in_nI (by omega) (by decide)) ?_ | refine And.intro (vp_lit (by decide)) ?_ | refine divJ (by decide) ?_ | refine divI (by decide) ?_)
                try change _ ∧ _
                rw [← hQQ]
                exact ⟨rfl, (FF.k (by decide)).a (by decide), Or.inr ⟨_, _, L6, go.trans (qGo.one (hB.trans (by rw [if_neg c4, if_neg (by omega)])))⟩⟩
  exact lp 901 i U h (by omega) M (TX.rfl h) hl hu (Nat.le_refl _) (Nat.le_refl _) (qGo.rfl _)
end MPT
