/-! ===== THE MODEL READS SUMS ===== -/
section MSU
variable {b : Nat → Nat} {n i : Nat} {h h' : HP} {s : ST} {C W : List Nat} {B d : Nat}
theorem opn_c {U V : List Nat} : opn (20 :: U ++ V) = opn (U ++ V) + 1 := opn_1 (by omega)
theorem q_goesOn {U V : List Nat} {m : Nat} (s : ST) (M : MK b n i C (U ++ V) V.length (opn (U ++ V)) h) (hl : C.length + (U ++ V).length ≤ i) (hu : uW U) (hv : vW V) (hm : m = 30 ∨ m = 11 ∨ m = 12 ∨ m = 13) : ∃ w h', Run 3 j_M_goesOn [.ref 65] h w h' ∧ (TX h h' ∧ GD b n (1, i, U ++ m :: V, opn (U ++ V), C, s) i (C.length + (U ++ V).length) V m s w h') := by
  refine Run.ofP rfl ?_
  refine Wp.norm (L' := [_, _]) rfl ?_
  generalize hx0 : ((1, i, U ++ m :: V, opn (U ++ V), C, s) : PS) = x0
  generalize hk0 : C.length + (U ++ V).length = k0 at *
  generalize hQQ : (fun (w : Option Value) (h' : HP) => TX h h' ∧ GD b n x0 i k0 V m s w h') = QQ
  have lp : ∀ e j U1 C1 g, 901 ≤ j + e → MK b n j C1 (U1 ++ V) V.length (opn (U1 ++ V)) g → TX h g → C1.length + (U1 ++ V).length ≤ j → uW U1 → i ≤ j → C1.length + (U1 ++ V).length + i ≤ k0 + j → qGo b n x0 (1, j, U1 ++ m :: V, opn (U1 ++ V), C1, s) → Wp 3 j_M_goesOn 0 [.ref 65, .null] [] g QQ := by
    intro e
    induction e with
    | zero =>
      intro j U1 C1 g he M
      have := M.L.i9
      omega
    | succ e ih =>
      intro j U1 C1 g he M F hl hu hij hgr go
      have f0 := M.L.f0
      have rl := M.rl
      have M1 := M.lk
      have F1 : TX h (wI g 65 2 (nI (ps b n j))) := F.a (by decide)
      have f1 := M1.L.f0
      have rl2 := M1.rl
      rw [wI_w] at rl2
      have e2 : (wI g 65 2 (nI (ps b n j))).1 65 2 = nI (ps b n j) := rfl
      have hk : ∀ c, isSg c → ((lkV b n (ps b n j) = nI c) ↔ sgV b n j = c) := fun c hc => lkc_eq M.L hc
      have k41 := hk 41 (by decide)
      have k42 := hk 42 (by decide)
      have k47 := hk 47 (by decide)
      have k37 := hk 37 (by decide)
      have k43 := hk 43 (by decide)
      have k45 := hk 45 (by decide)
      clear hk
      have rm := q_mark M1 hu
      have hT := M.L.T.1
      have sgn : sgV b n j ≠ 0 → isSg (sgV b n j) → MK b n (j + 1) C1 (U1 ++ V) V.length (opn (U1 ++ V)) (wI (wI g 65 2 (nI (ps b n j))) 65 2 (nI (ps b n j + 1))) ∧ j < 900 := fun _ z2 => by
        obtain ⟨hp, hb⟩ := (sg_iff z2).mp rfl
        exact ⟨M1.sgn hp (sg_wn z2 hb), M.L.i8 hp⟩
      generalize hg1 : wI g 65 2 (nI (ps b n j)) = g1 at *
      have tail : (sgV b n j = 41 → ¬ 20 ∈ U1) → Wp 3 j_M_goesOn 62 [.ref 65, .null] [] g1 QQ := by
        intro hno
        by_cases cf : fctC (sgV b n j) = 0
        · by_cases ct : trmC (sgV b n j) = 0
          · have n1 : ¬ (sgV b n j = 42 ∨ sgV b n j = 47 ∨ sgV b n j = 37) := fun z => fct_sg.mpr z cf
            have n2 : ¬ (sgV b n j = 43 ∨ sgV b n j = 45) := fun z => trm_sg.mpr z ct
            have k42 : ¬ lkV b n (ps b n j) = 42 := fun z => n1 (Or.inl (k42.mp z))
            have k47 : ¬ lkV b n (ps b n j) = 47 := fun z => n1 (Or.inr (Or.inl (k47.mp z)))
            have k37 : ¬ lkV b n (ps b n j) = 37 := fun z => n1 (Or.inr (Or.inr (k37.mp z)))
            have k43 : ¬ lkV b n (ps b n j) = 43 := fun z => n2 (Or.inl (k43.mp z))
            have k45 : ¬ lkV b n (ps b n j) = 45 := fun z => n2 (Or.inr (k45.mp z))
            by_cases c20 : 20 ∈ U1
            · rw [if_pos c20] at rm
              obtain ⟨A, R, eU, hA, hR⟩ := u_split hu c20
              have c41 : sgV b n j ≠ 41 := fun z => hno z c20
              have rf := r_M_fail0 (h := g1) 1 (nI (ps b n j)) f1
              have L4 : QF 1 (ps b n j) (wI (wI g1 65 5 (nI 1)) 65 6 (nI (ps b n j))) := ⟨lf_mk (by decide), C1.length, by have := M1.cm.1; omega, M1.cm.2.1⟩
              have F2 : TX h (wI (wI g1 65 5 (nI 1)) 65 6 (nI (ps b n j))) := (F1.a (by decide)).a (by decide)
              show Wp 3 j_M_goesOn _ _ _ _ _
              repeat (first | (refine W1 rfl ?_; try refine Wp.norm (L' := [_, _]) rfl ?_) | ((first | change (_ → _) ∧ (_ → _) | change vp_in _ _ ∧ _ | change ¬ _ ∧ _); simp (disch := omega) only [nI_clamp, nI_leI, nI_ltI, nI_eq, nI_1, nI_add, nI_not_neg, nI_is_pos, nI_m1, nI_z, f1]) | refine brT (by first | assumption | decide | omega) ?_ | refine brF (by first | assumption | decide | omega) ?_ | refine brTn (by first | assumption | decide | omega) ?_ | refine brFn (by first | assumption | decide | omega) ?_ | refine And.intro (vp_in_nI (by omega) (by decide)) ?_ | refine And.intro (vp_lit (by decide)) ?_ | refine divJ (by decide) ?_ | refine divI (by decide) ?_)
              try change _ ∧ _
              refine Cl.of rl2 (by decide) ?_
              repeat (first | (refine W1 rfl ?_; try refine Wp.norm (L' := [_, _]) rfl ?_) | ((first | change (_ → _) ∧ (_ → _) | change vp_in _ _ ∧ _ | change ¬ _ ∧ _); simp (disch := omega) only [nI_clamp, nI_leI, nI_ltI, nI_eq, nI_1, nI_add, nI_not_neg, nI_is_pos, nI_m1, nI_z]) | refine brT (by first | assumption | decide | omega) ?_ | refine brF (by first | assumption | decide | omega) ?_ | refine brTn (by first | assumption | decide | omega) ?_ | refine brFn (by first | assumption | decide | omega) ?_ | refine And.intro (vp_in_nI (by omega) (by decide)) ?_ | refine And.intro (vp_lit (by decide)) ?_ | refine divJ (by decide) ?_ | refine divI (by decide) ?_)
              try change _ ∧ _
              refine Cl.of rm (by decide) ?_
              repeat (first | (refine W1 rfl ?_; try refine Wp.norm (L' := [_, _]) rfl ?_) | ((first | change (_ → _) ∧ (_ → _) | change vp_in _ _ ∧ _ | change ¬ _ ∧ _); simp (disch := omega) only [nI_clamp, nI_leI, nI_ltI, nI_eq, nI_1, nI_add, nI_not_neg, nI_is_pos, nI_m1, nI_z, f1, e2]) | refine brT (by first | assumption | decide | omega) ?_ | refine brF (by first | assumption | decide | omega) ?_ | refine brTn (by first | assumption | decide | omega) ?_ | refine brFn (by first | assumption | decide | omega) ?_ | refine And.intro (vp_in_nI (by omega) (by decide)) ?_ | refine And.intro (vp_lit (by decide)) ?_ | refine divJ (by decide) ?_ | refine divI (by decide) ?_)
              try change _ ∧ _
              refine Cl.ofA rf (by first | done | rfl | (simp (disch := omega) only [nI_1, nI_add, nI_clamp, e2] <;> first | done | rfl)) (by decide) ?_
              repeat (first | (refine W1 rfl ?_; try refine Wp.norm (L' := [_, _]) rfl ?_) | ((first | change (_ → _) ∧ (_ → _) | change vp_in _ _ ∧ _ | change ¬ _ ∧ _); simp (disch := omega) only [nI_clamp, nI_leI, nI_ltI, nI_eq, nI_1, nI_add, nI_not_neg, nI_is_pos, nI_m1, nI_z]) | refine brT (by first | assumption | decide | omega) ?_ | refine brF (by first | assumption | decide | omega) ?_ | refine brTn (by first | assumption | decide | omega) ?_ | refine brFn (by first | assumption | decide | omega) ?_ | refine And.intro (vp_in_nI (by omega) (by decide)) ?_ | refine And.intro (vp_lit (by decide)) ?_ | refine divJ (by decide) ?_ | refine divI (by decide) ?_)
              try change _ ∧ _
              rw [← hQQ]
              refine ⟨Or.inl rfl, F2, Or.inr (Or.inr ⟨rfl, 1, ps b n j, L4, go.trans ?_⟩)⟩
              rw [eU, List.append_assoc]
              refine (q_popA A C1 hA cf).trans (qGo.one ?_)
              exact (qA_o cf ct).trans (if_neg c41)
            · rw [if_neg c20] at rm
              show Wp 3 j_M_goesOn _ _ _ _ _
              repeat (first | (refine W1 rfl ?_; try refine Wp.norm (L' := [_, _]) rfl ?_) | ((first | change (_ → _) ∧ (_ → _) | change vp_in _ _ ∧ _ | change ¬ _ ∧ _); simp (disch := omega) only [nI_clamp, nI_leI, nI_ltI, nI_eq, nI_1, nI_add, nI_not_neg, nI_is_pos, nI_m1, nI_z, f1]) | refine brT (by first | assumption | decide | omega) ?_ | refine brF (by first | assumption | decide | omega) ?_ | refine brTn (by first | assumption | decide | omega) ?_ | refine brFn (by first | assumption | decide | omega) ?_ | refine And.intro (vp_in_nI (by omega) (by decide)) ?_ | refine And.intro (vp_lit (by decide)) ?_ | refine divJ (by decide) ?_ | refine divI (by decide) ?_)
              try change _ ∧ _
              refine Cl.of rl2 (by decide) ?_
              repeat (first | (refine W1 rfl ?_; try refine Wp.norm (L' := [_, _]) rfl ?_) | ((first | change (_ → _) ∧ (_ → _) | change vp_in _ _ ∧ _ | change ¬ _ ∧ _); simp (disch := omega) only [nI_clamp, nI_leI, nI_ltI, nI_eq, nI_1, nI_add, nI_not_neg, nI_is_pos, nI_m1, nI_z]) | refine brT (by first | assumption | decide | omega) ?_ | refine brF (by first | assumption | decide | omega) ?_ | refine brTn (by first | assumption | decide | omega) ?_ | refine brFn (by first | assumption | decide | omega) ?_ | refine And.intro (vp_in_nI (by omega) (by decide)) ?_ | refine And.intro (vp_lit (by decide)) ?_ | refine divJ (by decide) ?_ | refine divI (by decide) ?_)
              try change _ ∧ _
              refine Cl.of rm (by decide) ?_
              repeat (first | (refine W1 rfl ?_; try refine Wp.norm (L' := [_, _]) rfl ?_) | ((first | change (_ → _) ∧ (_ → _) | change vp_in _ _ ∧ _ | change ¬ _ ∧ _); simp (disch := omega) only [nI_clamp, nI_leI, nI_ltI, nI_eq, nI_1, nI_add, nI_not_neg, nI_is_pos, nI_m1, nI_z]) | refine brT (by first | assumption | decide | omega) ?_ | refine brF (by first | assumption | decide | omega) ?_ | refine brTn (by first | assumption | decide | omega) ?_ | refine brFn (by first | assumption | decide | omega) ?_ | refine And.intro (vp_in_nI (by omega) (by decide)) ?_ | refine And.intro (vp_lit (by decide)) ?_ | refine divJ (by decide) ?_ | refine divI (by decide) ?_)
              try change _ ∧ _
              rw [← hQQ]
              exact ⟨Or.inl rfl, F1, Or.inr (Or.inl ⟨rfl, j, U1, C1, M1, u_none hu c20, cf, ct, hij, hgr, go⟩)⟩
          · have n1 : ¬ (sgV b n j = 42 ∨ sgV b n j = 47 ∨ sgV b n j = 37) := fun z => fct_sg.mpr z cf
            have n2 := trm_sg.mp ct
            have k42 : ¬ lkV b n (ps b n j) = 42 := fun z => n1 (Or.inl (k42.mp z))
            have k47 : ¬ lkV b n (ps b n j) = 47 := fun z => n1 (Or.inr (Or.inl (k47.mp z)))
            have k37 : ¬ lkV b n (ps b n j) = 37 := fun z => n1 (Or.inr (Or.inr (k37.mp z)))
            obtain ⟨M2, j9⟩ := sgn (by omega) (by rcases n2 with z | z <;> (rw [z]; decide))
            have e3 : g1.1 65 2 + 1 = nI (ps b n j + 1) := by rw [e2, nI_1]
            have kx : lkV b n (ps b n j) = nI (sgV b n j) := by
              rcases n2 with z | z
              · rw [z]; exact k43.mpr z
              · rw [z]; exact k45.mpr z
            have ih := q_goT (m := m) (x0 := x0) (k0 := k0) (Q := QQ) hv hm rfl n2 hij j9 h (fun h' F' g' => by rw [← hQQ]; exact ⟨F', g'⟩) U1 C1 _ M2 (F1.a (by decide)) hu hl hgr go
            rw [← e3] at ih
            rcases n2 with z | z
            · have k43 : lkV b n (ps b n j) = 43 := k43.mpr z
              rw [← kx, k43] at ih
              show Wp 3 j_M_goesOn _ _ _ _ _
              repeat (first | (refine W1 rfl ?_; try refine Wp.norm (L' := [_, _]) rfl ?_) | ((first | change (_ → _) ∧ (_ → _) | change vp_in _ _ ∧ _ | change ¬ _ ∧ _); simp (disch := omega) only [nI_clamp, nI_leI, nI_ltI, nI_eq, nI_1, nI_add, nI_not_neg, nI_is_pos, nI_m1, nI_z, f1]) | refine brT (by first | assumption | decide | omega) ?_ | refine brF (by first | assumption | decide | omega) ?_ | refine brTn (by first | assumption | decide | omega) ?_ | refine brFn (by first | assumption | decide | omega) ?_ | refine And.intro (vp_in_nI (by omega) (by decide)) ?_ | refine And.intro (vp_lit (by decide)) ?_ | refine divJ (by decide) ?_ | refine divI (by decide) ?_)
              try change _ ∧ _
              refine Cl.of rl2 (by decide) ?_
              repeat (first | refine Wp.at ih rfl rfl ?_ rfl | (refine W1 rfl ?_; try refine Wp.norm (L' := [_, _]) rfl ?_) | ((first | change (_ → _) ∧ (_ → _) | change vp_in _ _ ∧ _ | change ¬ _ ∧ _); simp (disch := omega) only [nI_clamp, nI_leI, nI_ltI, nI_eq, nI_1, nI_add, nI_not_neg, nI_is_pos, nI_m1, nI_z, k43]) | refine brT (by first | assumption | decide | omega) ?_ | refine brF (by first | assumption | decide | omega) ?_ | refine brTn (by first | assumption | decide | omega) ?_ | refine brFn (by first | assumption | decide | omega) ?_ | refine And.intro (vp_in_nI (by omega) (by decide)) ?_ | refine And.intro (vp_lit (by decide)) ?_ | refine divJ (by decide) ?_ | refine divI (by decide) ?_)
              try change _ ∧ _
              first | done | rfl | (simp (disch := omega) only [nI_1, nI_add, nI_clamp, k43] <;> first | done | rfl)
            · have k45 : lkV b n (ps b n j) = 45 := k45.mpr z
              rw [← kx, k45] at ih
              have k43 : ¬ lkV b n (ps b n j) = 43 := fun y => by rw [k45] at y; cases y
              show Wp 3 j_M_goesOn _ _ _ _ _
              repeat (first | (refine W1 rfl ?_; try refine Wp.norm (L' := [_, _]) rfl ?_) | ((first | change (_ → _) ∧ (_ → _) | change vp_in _ _ ∧ _ | change ¬ _ ∧ _); simp (disch := omega) only [nI_clamp, nI_leI, nI_ltI, nI_eq, nI_1, nI_add, nI_not_neg, nI_is_pos, nI_m1, nI_z, f1]) | refine brT (by first | assumption | decide | omega) ?_ | refine brF (by first | assumption | decide | omega) ?_ | refine brTn (by first | assumption | decide | omega) ?_ | refine brFn (by first | assumption | decide | omega) ?_ | refine And.intro (vp_in_nI (by omega) (by decide)) ?_ | refine And.intro (vp_lit (by decide)) ?_ | refine divJ (by decide) ?_ | refine divI (by decide) ?_)
              try change _ ∧ _
              refine Cl.of rl2 (by decide) ?_
              repeat (first | refine Wp.at ih rfl rfl ?_ rfl | (refine W1 rfl ?_; try refine Wp.norm (L' := [_, _]) rfl ?_) | ((first | change (_ → _) ∧ (_ → _) | change vp_in _ _ ∧ _ | change ¬ _ ∧ _); simp (disch := omega) only [nI_clamp, nI_leI, nI_ltI, nI_eq, nI_1, nI_add, nI_not_neg, nI_is_pos, nI_m1, nI_z, k45]) | refine brT (by first | assumption | decide | omega) ?_ | refine brF (by first | assumption | decide | omega) ?_ | refine brTn (by first | assumption | decide | omega) ?_ | refine brFn (by first | assumption | decide | omega) ?_ | refine And.intro (vp_in_nI (by omega) (by decide)) ?_ | refine And.intro (vp_lit (by decide)) ?_ | refine divJ (by decide) ?_ | refine divI (by decide) ?_)
              try change _ ∧ _
              first | done | rfl | (simp (disch := omega) only [nI_1, nI_add, nI_clamp, k45] <;> first | done | rfl)
        · have n2 := fct_sg.mp cf
          obtain ⟨M2, j9⟩ := sgn (by omega) (by rcases n2 with z | z | z <;> (rw [z]; decide))
          have e3 : g1.1 65 2 + 1 = nI (ps b n j + 1) := by rw [e2, nI_1]
          have kx : lkV b n (ps b n j) = nI (sgV b n j) := by
            rcases n2 with z | z | z
            · rw [z]; exact k42.mpr z
            · rw [z]; exact k47.mpr z
            · rw [z]; exact k37.mpr z
          have ih := q_goF (m := m) (x0 := x0) (k0 := k0) (Q := QQ) hv hm rfl n2 hij j9 h (fun h' F' g' => by rw [← hQQ]; exact ⟨F', g'⟩) U1 C1 _ M2 (F1.a (by decide)) hu hl hgr go
          rw [← e3] at ih
          rcases n2 with z | z | z
          · have k42 : lkV b n (ps b n j) = 42 := k42.mpr z
            rw [← kx, k42] at ih
            show Wp 3 j_M_goesOn _ _ _ _ _
            repeat (first | (refine W1 rfl ?_; try refine Wp.norm (L' := [_, _]) rfl ?_) | ((first | change (_ → _) ∧ (_ → _) | change vp_in _ _ ∧ _ | change ¬ _ ∧ _); simp (disch := omega) only [nI_clamp, nI_leI, nI_ltI, nI_eq, nI_1, nI_add, nI_not_neg, nI_is_pos, nI_m1, nI_z, f1]) | refine brT (by first | assumption | decide | omega) ?_ | refine brF (by first | assumption | decide | omega) ?_ | refine brTn (by first | assumption | decide | omega) ?_ | refine brFn (by first | assumption | decide | omega) ?_ | refine And.intro (vp_in_nI (by omega) (by decide)) ?_ | refine And.intro (vp_lit (by decide)) ?_ | refine divJ (by decide) ?_ | refine divI (by decide) ?_)
            try change _ ∧ _
            refine Cl.of rl2 (by decide) ?_
            repeat (first | refine Wp.at ih rfl rfl ?_ rfl | (refine W1 rfl ?_; try refine Wp.norm (L' := [_, _]) rfl ?_) | ((first | change (_ → _) ∧ (_ → _) | change vp_in _ _ ∧ _ | change ¬ _ ∧ _); simp (disch := omega) only [nI_clamp, nI_leI, nI_ltI, nI_eq, nI_1, nI_add, nI_not_neg, nI_is_pos, nI_m1, nI_z, k42]) | refine brT (by first | assumption | decide | omega) ?_ | refine brF (by first | assumption | decide | omega) ?_ | refine brTn (by first | assumption | decide | omega) ?_ | refine brFn (by first | assumption | decide | omega) ?_ | refine And.intro (vp_in_nI (by omega) (by decide)) ?_ | refine And.intro (vp_lit (by decide)) ?_ | refine divJ (by decide) ?_ | refine divI (by decide) ?_)
            try change _ ∧ _
            first | done | rfl | (simp (disch := omega) only [nI_1, nI_add, nI_clamp, k42] <;> first | done | rfl)
          · have k47 : lkV b n (ps b n j) = 47 := k47.mpr z
            rw [← kx, k47] at ih
            show Wp 3 j_M_goesOn _ _ _ _ _
            repeat (first | (refine W1 rfl ?_; try refine Wp.norm (L' := [_, _]) rfl ?_) | ((first | change (_ → _) ∧ (_ → _) | change vp_in _ _ ∧ _ | change ¬ _ ∧ _); simp (disch := omega) only [nI_clamp, nI_leI, nI_ltI, nI_eq, nI_1, nI_add, nI_not_neg, nI_is_pos, nI_m1, nI_z, f1]) | refine brT (by first | assumption | decide | omega) ?_ | refine brF (by first | assumption | decide | omega) ?_ | refine brTn (by first | assumption | decide | omega) ?_ | refine brFn (by first | assumption | decide | omega) ?_ | refine And.intro (vp_in_nI (by omega) (by decide)) ?_ | refine And.intro (vp_lit (by decide)) ?_ | refine divJ (by decide) ?_ | refine divI (by decide) ?_)
            try change _ ∧ _
            refine Cl.of rl2 (by decide) ?_
            repeat (first | refine Wp.at ih rfl rfl ?_ rfl | (refine W1 rfl ?_; try refine Wp.norm (L' := [_, _]) rfl ?_) | ((first | change (_ → _) ∧ (_ → _) | change vp_in _ _ ∧ _ | change ¬ _ ∧ _); simp (disch := omega) only [nI_clamp, nI_leI, nI_ltI, nI_eq, nI_1, nI_add, nI_not_neg, nI_is_pos, nI_m1, nI_z, k47]) | refine brT (by first | assumption | decide | omega) ?_ | refine brF (by first | assumption | decide | omega) ?_ | refine brTn (by first | assumption | decide | omega) ?_ | refine brFn (by first | assumption | decide | omega) ?_ | refine And.intro (vp_in_nI (by omega) (by decide)) ?_ | refine And.intro (vp_lit (by decide)) ?_ | refine divJ (by decide) ?_ | refine divI (by decide) ?_)
            try change _ ∧ _
            first | done | rfl | (simp (disch := omega) only [nI_1, nI_add, nI_clamp, k47] <;> first | done | rfl)
          · have k37 : lkV b n (ps b n j) = 37 := k37.mpr z
            rw [← kx, k37] at ih
            show Wp 3 j_M_goesOn _ _ _ _ _
            repeat (first | (refine W1 rfl ?_; try refine Wp.norm (L' := [_, _]) rfl ?_) | ((first | change (_ → _) ∧ (_ → _) | change vp_in _ _ ∧ _ | change ¬ _ ∧ _); simp (disch := omega) only [nI_clamp, nI_leI, nI_ltI, nI_eq, nI_1, nI_add, nI_not_neg, nI_is_pos, nI_m1, nI_z, f1]) | refine brT (by first | assumption | decide | omega) ?_ | refine brF (by first | assumption | decide | omega) ?_ | refine brTn (by first | assumption | decide | omega) ?_ | refine brFn (by first | assumption | decide | omega) ?_ | refine And.intro (vp_in_nI (by omega) (by decide)) ?_ | refine And.intro (vp_lit (by decide)) ?_ | refine divJ (by decide) ?_ | refine divI (by decide) ?_)
            try change _ ∧ _
            refine Cl.of rl2 (by decide) ?_
            repeat (first | refine Wp.at ih rfl rfl ?_ rfl | (refine W1 rfl ?_; try refine Wp.norm (L' := [_, _]) rfl ?_) | ((first | change (_ → _) ∧ (_ → _) | change vp_in _ _ ∧ _ | change ¬ _ ∧ _); simp (disch := omega) only [nI_clamp, nI_leI, nI_ltI, nI_eq, nI_1, nI_add, nI_not_neg, nI_is_pos, nI_m1, nI_z, k37]) | refine brT (by first | assumption | decide | omega) ?_ | refine brF (by first | assumption | decide | omega) ?_ | refine brTn (by first | assumption | decide | omega) ?_ | refine brFn (by first | assumption | decide | omega) ?_ | refine And.intro (vp_in_nI (by omega) (by decide)) ?_ | refine And.intro (vp_lit (by decide)) ?_ | refine divJ (by decide) ?_ | refine divI (by decide) ?_)
            try change _ ∧ _
            first | done | rfl | (simp (disch := omega) only [nI_1, nI_add, nI_clamp, k37] <;> first | done | rfl)
      by_cases c41 : sgV b n j = 41
      · have k41 : lkV b n (ps b n j) = 41 := k41.mpr c41
        by_cases c20 : 20 ∈ U1
        · rw [if_pos c20] at rm
          obtain ⟨A, R, eU, hA, hR⟩ := u_split hu c20
          obtain ⟨M2, j9⟩ := sgn (by omega) (by rw [c41]; decide)
          have o0 : opn (U1 ++ V) = opn (R ++ V) + 1 := by
            rw [eU, List.append_assoc, opn_app, opn_0 hA, Nat.zero_add]
            exact opn_c
          have lU : (U1 ++ V).length = A.length + ((R ++ V).length + 1) := by
            rw [eU, List.append_assoc, List.length_append]
            rfl
          have eU2 : U1 ++ V = A ++ 20 :: (R ++ V) := by rw [eU, List.append_assoc]; rfl
          rw [eU2] at M2
          rw [show opn (A ++ 20 :: (R ++ V)) = opn (R ++ V) + 1 by rw [← eU2]; exact o0] at M2
          obtain ⟨w3, g3, r3, rfl, F3, M3⟩ := q_dropsToMark M2 hA (by rw [List.length_append]; omega) (by omega)
          have e50 : g3.1 65 50 = nI ((R ++ V).length + 1) := M3.e50
          have e51 := M3.e51
          have M4 := M3.pop.wo (d' := opn (R ++ V)) (by have := M3.d6; omega)
          have F4 : TX h (wI (wI g3 65 50 (nI (R ++ V).length)) 65 51 (nI (opn (R ++ V)))) := ((((F1.a (by decide)).trans F3).a (by decide)).a (by decide))
          have cf : fctC (sgV b n j) = 0 := by rw [c41]; decide
          have ct : trmC (sgV b n j) = 0 := by rw [c41]; decide
          have ih := ih (j + 1) R (C1 ++ A) _ (by omega) M4 F4 (by rw [List.length_append]; omega) hR (by omega) (by rw [List.length_append]; omega) (go.trans (by
            rw [eU, List.append_assoc]
            refine (q_popA A C1 hA cf).trans (qGo.one ?_)
            refine (qA_o cf ct).trans ?_
            rw [if_pos c41, ← eU, o0, Nat.add_sub_cancel]
            try rfl))
          have e3 : g1.1 65 2 + 1 = nI (ps b n j + 1) := by rw [e2, nI_1]
          have e5 : g3.1 65 50 - 1 = nI (R ++ V).length := by rw [e50, nI_s1]
          have e6 : (wI g3 65 50 (nI (R ++ V).length)).1 65 51 - 1 = nI (opn (R ++ V)) := by
            rw [wI_ne2 _ _ (by decide), e51, nI_s1]
          rw [← e3] at r3
          show Wp 3 j_M_goesOn _ _ _ _ _
          repeat (first | (refine W1 rfl ?_; try refine Wp.norm (L' := [_, _]) rfl ?_) | ((first | change (_ → _) ∧ (_ → _) | change vp_in _ _ ∧ _ | change ¬ _ ∧ _); simp (disch := omega) only [nI_clamp, nI_leI, nI_ltI, nI_eq, nI_1, nI_add, nI_not_neg, nI_is_pos, nI_m1, nI_z, f0]) | refine brT (by first | assumption | decide | omega) ?_ | refine brF (by first | assumption | decide | omega) ?_ | refine brTn (by first | assumption | decide | omega) ?_ | refine brFn (by first | assumption | decide | omega) ?_ | refine And.intro (vp_in_nI (by omega) (by decide)) ?_ | refine And.intro (vp_lit (by decide)) ?_ | refine divJ (by decide) ?_ | refine divI (by decide) ?_)
          try change _ ∧ _
          refine Cl.of rl (by decide) ?_
          repeat (first | (refine W1 rfl ?_; try refine Wp.norm (L' := [_, _]) rfl ?_) | ((first | change (_ → _) ∧ (_ → _) | change vp_in _ _ ∧ _ | change ¬ _ ∧ _); simp (disch := omega) only [nI_clamp, nI_leI, nI_ltI, nI_eq, nI_1, nI_add, nI_not_neg, nI_is_pos, nI_m1, nI_z]) | refine brT (by first | assumption | decide | omega) ?_ | refine brF (by first | assumption | decide | omega) ?_ | refine brTn (by first | assumption | decide | omega) ?_ | refine brFn (by first | assumption | decide | omega) ?_ | refine And.intro (vp_in_nI (by omega) (by decide)) ?_ | refine And.intro (vp_lit (by decide)) ?_ | refine divJ (by decide) ?_ | refine divI (by decide) ?_)
          try change _ ∧ _
          refine Cl.of rm (by decide) ?_
          repeat (first | (refine W1 rfl ?_; try refine Wp.norm (L' := [_, _]) rfl ?_) | ((first | change (_ → _) ∧ (_ → _) | change vp_in _ _ ∧ _ | change ¬ _ ∧ _); simp (disch := omega) only [nI_clamp, nI_leI, nI_ltI, nI_eq, nI_1, nI_add, nI_not_neg, nI_is_pos, nI_m1, nI_z]) | refine brT (by first | assumption | decide | omega) ?_ | refine brF (by first | assumption | decide | omega) ?_ | refine brTn (by first | assumption | decide | omega) ?_ | refine brFn (by first | assumption | decide | omega) ?_ | refine And.intro (vp_in_nI (by omega) (by decide)) ?_ | refine And.intro (vp_lit (by decide)) ?_ | refine divJ (by decide) ?_ | refine divI (by decide) ?_)
          try change _ ∧ _
          refine Cl.of r3 (by decide) ?_
          repeat (first | refine Wp.at ih rfl rfl ?_ ?_ | (refine W1 rfl ?_; try refine Wp.norm (L' := [_, _]) rfl ?_) | ((first | change (_ → _) ∧ (_ → _) | change vp_in _ _ ∧ _ | change ¬ _ ∧ _); simp (disch := omega) only [nI_clamp, nI_leI, nI_ltI, nI_eq, nI_1, nI_add, nI_not_neg, nI_is_pos, nI_m1, nI_z]) | refine brT (by first | assumption | decide | omega) ?_ | refine brF (by first | assumption | decide | omega) ?_ | refine brTn (by first | assumption | decide | omega) ?_ | refine brFn (by first | assumption | decide | omega) ?_ | refine And.intro (vp_in_nI (by omega) (by decide)) ?_ | refine And.intro (vp_lit (by decide)) ?_ | refine divJ (by decide) ?_ | refine divI (by decide) ?_)
          try change _ ∧ _
          · first | done | rfl | (simp (disch := omega) only [nI_1, nI_add, nI_clamp] <;> first | done | rfl)
          · rw [e5, e6]
        · rw [if_neg c20] at rm
          have ih := tail (fun _ => c20)
          show Wp 3 j_M_goesOn _ _ _ _ _
          repeat (first | (refine W1 rfl ?_; try refine Wp.norm (L' := [_, _]) rfl ?_) | ((first | change (_ → _) ∧ (_ → _) | change vp_in _ _ ∧ _ | change ¬ _ ∧ _); simp (disch := omega) only [nI_clamp, nI_leI, nI_ltI, nI_eq, nI_1, nI_add, nI_not_neg, nI_is_pos, nI_m1, nI_z, f0]) | refine brT (by first | assumption | decide | omega) ?_ | refine brF (by first | assumption | decide | omega) ?_ | refine brTn (by first | assumption | decide | omega) ?_ | refine brFn (by first | assumption | decide | omega) ?_ | refine And.intro (vp_in_nI (by omega) (by decide)) ?_ | refine And.intro (vp_lit (by decide)) ?_ | refine divJ (by decide) ?_ | refine divI (by decide) ?_)
          try change _ ∧ _
          refine Cl.of rl (by decide) ?_
          repeat (first | (refine W1 rfl ?_; try refine Wp.norm (L' := [_, _]) rfl ?_) | ((first | change (_ → _) ∧ (_ → _) | change vp_in _ _ ∧ _ | change ¬ _ ∧ _); simp (disch := omega) only [nI_clamp, nI_leI, nI_ltI, nI_eq, nI_1, nI_add, nI_not_neg, nI_is_pos, nI_m1, nI_z]) | refine brT (by first | assumption | decide | omega) ?_ | refine brF (by first | assumption | decide | omega) ?_ | refine brTn (by first | assumption | decide | omega) ?_ | refine brFn (by first | assumption | decide | omega) ?_ | refine And.intro (vp_in_nI (by omega) (by decide)) ?_ | refine And.intro (vp_lit (by decide)) ?_ | refine divJ (by decide) ?_ | refine divI (by decide) ?_)
          try change _ ∧ _
          refine Cl.of rm (by decide) ?_
          repeat (first | refine Wp.at ih rfl rfl ?_ rfl | (refine W1 rfl ?_; try refine Wp.norm (L' := [_, _]) rfl ?_) | ((first | change (_ → _) ∧ (_ → _) | change vp_in _ _ ∧ _ | change ¬ _ ∧ _); simp (disch := omega) only [nI_clamp, nI_leI, nI_ltI, nI_eq, nI_1, nI_add, nI_not_neg, nI_is_pos, nI_m1, nI_z]) | refine brT (by first | assumption | decide | omega) ?_ | refine brF (by first | assumption | decide | omega) ?_ | refine brTn (by first | assumption | decide | omega) ?_ | refine brFn (by first | assumption | decide | omega) ?_ | refine And.intro (vp_in_nI (by omega) (by decide)) ?_ | refine And.intro (vp_lit (by decide)) ?_ | refine divJ (by decide) ?_ | refine divI (by decide) ?_)
          try change _ ∧ _
          first | done | rfl | (simp (disch := omega) only [nI_1, nI_add, nI_clamp] <;> first | done | rfl)
      · have k41 : ¬ lkV b n (ps b n j) = 41 := fun z => c41 (k41.mp z)
        have ih := tail (fun z => absurd z c41)
        show Wp 3 j_M_goesOn _ _ _ _ _
        repeat (first | (refine W1 rfl ?_; try refine Wp.norm (L' := [_, _]) rfl ?_) | ((first | change (_ → _) ∧ (_ → _) | change vp_in _ _ ∧ _ | change ¬ _ ∧ _); simp (disch := omega) only [nI_clamp, nI_leI, nI_ltI, nI_eq, nI_1, nI_add, nI_not_neg, nI_is_pos, nI_m1, nI_z, f0]) | refine brT (by first | assumption | decide | omega) ?_ | refine brF (by first | assumption | decide | omega) ?_ | refine brTn (by first | assumption | decide | omega) ?_ | refine brFn (by first | assumption | decide | omega) ?_ | refine And.intro (vp_in_nI (by omega) (by decide)) ?_ | refine And.intro (vp_lit (by decide)) ?_ | refine divJ (by decide) ?_ | refine divI (by decide) ?_)
        try change _ ∧ _
        refine Cl.of rl (by decide) ?_
        repeat (first | refine Wp.at ih rfl rfl ?_ rfl | (refine W1 rfl ?_; try refine Wp.norm (L' := [_, _]) rfl ?_) | ((first | change (_ → _) ∧ (_ → _) | change vp_in _ _ ∧ _ | change ¬ _ ∧ _); simp (disch := omega) only [nI_clamp, nI_leI, nI_ltI, nI_eq, nI_1, nI_add, nI_not_neg, nI_is_pos, nI_m1, nI_z]) | refine brT (by first | assumption | decide | omega) ?_ | refine brF (by first | assumption | decide | omega) ?_ | refine brTn (by first | assumption | decide | omega) ?_ | refine brFn (by first | assumption | decide | omega) ?_ | refine And.intro (vp_in_nI (by omega) (by decide)) ?_ | refine And.intro (vp_lit (by decide)) ?_ | refine divJ (by decide) ?_ | refine divI (by decide) ?_)
        try change _ ∧ _
        first | done | rfl | (simp (disch := omega) only [nI_1, nI_add, nI_clamp] <;> first | done | rfl)
  exact lp 901 i U C h (by omega) M (TX.rfl h) (by omega) hu (Nat.le_refl _) (by omega) (by rw [← hx0]; exact qGo.rfl _)
end MSU
