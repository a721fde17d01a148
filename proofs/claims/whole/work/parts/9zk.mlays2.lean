/-! ===== THE MODEL LAYS THE TURNS: all of them ===== -/
def cP (s : ST) (C : List Nat) (d k m : Nat) : Nat := sm (fun r => if oS s r = 1 ∧ oA s r = k ∧ hdB s C r d = true then 1 else 0) m
section MLZ
variable {s : ST} {C : List Nat} {h h' : HP} {L : List (Nat × Nat)}
theorem cP_le (d k : Nat) {m : Nat} (hm : m ≤ zO s) : cP s C d k m ≤ cNt s C d k := sm_mono _ hm
theorem m_lays (H : HM s C h) (j : J s C) (hT : (LD s C (zD s)).length ≤ 200) : ∃ w h', Run 4 j_M_lays [.ref 65] h w h' ∧ (w = none ∧ LY h h' ∧ TLm s C (LD s C (zD s)) h') := by
  refine Run.ofP rfl ?_
  refine Wp.norm (L' := [_, _, _, _]) rfl ?_
  generalize hQQ : (fun (w : Option Value) (h' : HP) => w = none ∧ LY h h' ∧ TLm s C (LD s C (zD s)) h') = QQ
  have hD := j.1.1.1.1.2.2.2.2.2.2
  have hK := j.1.1.1.1.2.1
  have hO := j.1.1.1.1.2.2.2.1
  have e60 : (60 : Int32) + nI (zO s) = nI (60 + zO s) := by rw [show (60 : Int32) = nI 60 from rfl, nI_add]
  have lp : ∀ d, d ≤ zD s → ∀ g (y z : Value), LY h g → TLm s C (LD s C d) g → Wp 4 j_M_lays 7 [.ref 65, .int (nI d), y, z] [] g QQ := by
    refine up_ind ?_ (fun d hd ih => ?_)
    · intro g y z F T
      have e87 := (H.ly F).1.1
      show Wp 4 j_M_lays _ _ _ _ _
      repeat (first | (refine W1 rfl ?_; try refine Wp.norm (L' := [_, _, _, _]) rfl ?_) | ((first | change (_ → _) ∧ (_ → _) | change vp_in _ _ ∧ _ | change ¬ _ ∧ _); simp (disch := omega) only [nI_clamp, nI_leI, nI_ltI, nI_eq, nI_1, nI_add, nI_not_neg, nI_is_pos, nI_m1, nI_z, e87, i32_c1]) | refine brT (by first | assumption | decide | omega) ?_ | refine brF (by first | assumption | decide | omega) ?_ | refine brTn (by first | assumption | decide | omega) ?_ | refine brFn (by first | assumption | decide | omega) ?_ | refine And.intro (vp_in_nI (by omega) (by decide)) ?_ | refine And.intro (vp_lit (by decide)) ?_ | refine divJ (by decide) ?_ | refine divI (by decide) ?_)
      try change _ ∧ _
      rw [← hQQ]
      exact ⟨rfl, F, T⟩
    · intro g y z F T
      have ihd := ih
      clear ih
      have hm := LD_mono (s := s) (C := C) (show d + 1 ≤ zD s from hd)
      have hsp : (LD s C (d + 1)).length = (LD s C d).length + (LK s C d (zK s)).length := by
        show (LD s C d ++ LK s C d (zK s)).length = _
        rw [List.length_append]
      have kinds : ∀ k, k ≤ zK s → ∀ g (z : Value), LY h g → TLm s C (LD s C d ++ LK s C d k) g → Wp 4 j_M_lays 19 [.ref 65, .int (nI d), .int (nI k), z] [] g QQ := by
        refine up_ind ?_ (fun k hk ih => ?_)
        · intro g z F T
          have e89 := (H.ly F).1.2.2.1
          have ih := ihd g (.int (nI (zK s))) z F T
          show Wp 4 j_M_lays _ _ _ _ _
          repeat (first | refine Wp.at ih rfl rfl ?_ rfl | (refine W1 rfl ?_; try refine Wp.norm (L' := [_, _, _, _]) rfl ?_) | ((first | change (_ → _) ∧ (_ → _) | change vp_in _ _ ∧ _ | change ¬ _ ∧ _); simp (disch := omega) only [nI_clamp, nI_leI, nI_ltI, nI_eq, nI_1, nI_add, nI_not_neg, nI_is_pos, nI_m1, nI_z, e89, i32_c1]) | refine brT (by first | assumption | decide | omega) ?_ | refine brF (by first | assumption | decide | omega) ?_ | refine brTn (by first | assumption | decide | omega) ?_ | refine brFn (by first | assumption | decide | omega) ?_ | refine And.intro (vp_in_nI (by omega) (by decide)) ?_ | refine And.intro (vp_lit (by decide)) ?_ | refine divJ (by decide) ?_ | refine divI (by decide) ?_)
          try change _ ∧ _
          first | done | rfl | (simp (disch := omega) only [nI_1, nI_add, nI_clamp] <;> first | done | rfl)
        · intro g z F T
          have ihk := ih
          clear ih
          have hmk := LK_mono (s := s) (C := C) d (show k + 1 ≤ zK s from hk)
          have hle : (LD s C d ++ LK s C d k).length + cNt s C d k = (LD s C d).length + (LK s C d (k + 1)).length := by
            show _ = (LD s C d).length + (LK s C d k ++ List.replicate (cNt s C d k) (d, k)).length
            rw [List.length_append, List.length_append, List.length_replicate]
            omega
          have inner : ∀ r, r ≤ zO s → ∀ g, LY h g → TLm s C (LD s C d ++ LK s C d k ++ List.replicate (cP s C d k r) (d, k)) g → Wp 4 j_M_lays 32 [.ref 65, .int (nI d), .int (nI k), .int (nI (60 + r))] [] g QQ := by
            refine up_ind ?_ (fun r hr ih => ?_)
            · intro g F T
              have e90 := (H.ly F).1.2.2.2
              have ih := ihk g (.int (nI (60 + zO s))) F (by rw [List.append_assoc] at T; exact T)
              show Wp 4 j_M_lays _ _ _ _ _
              repeat (first | refine Wp.at ih rfl rfl ?_ rfl | (refine W1 rfl ?_; try refine Wp.norm (L' := [_, _, _, _]) rfl ?_) | ((first | change (_ → _) ∧ (_ → _) | change vp_in _ _ ∧ _ | change ¬ _ ∧ _); simp (disch := omega) only [nI_clamp, nI_leI, nI_ltI, nI_eq, nI_1, nI_add, nI_not_neg, nI_is_pos, nI_m1, nI_z, e90, e60, i32_c1]) | refine brT (by first | assumption | decide | omega) ?_ | refine brF (by first | assumption | decide | omega) ?_ | refine brTn (by first | assumption | decide | omega) ?_ | refine brFn (by first | assumption | decide | omega) ?_ | refine And.intro (vp_in_nI (by omega) (by decide)) ?_ | refine And.intro (vp_lit (by decide)) ?_ | refine divJ (by decide) ?_ | refine divI (by decide) ?_)
              try change _ ∧ _
              first | done | rfl | (simp (disch := omega) only [nI_1, nI_add, nI_clamp] <;> first | done | rfl)
            · intro g F T
              have Hg := H.ly F
              have e90 := Hg.1.2.2.2
              obtain ⟨e97, e98, _, _⟩ := Hg.2.2.1 r hr
              have ko := j.2.1.2.2.2.2 r hr
              have hst : cP s C d k (r + 1) = cP s C d k r + (if oS s r = 1 ∧ oA s r = k ∧ hdB s C r d = true then 1 else 0) := rfl
              have e61 : 60 + (r + 1) = 60 + r + 1 := rfl
              have hcp := cP_le (s := s) (C := C) d k (show r + 1 ≤ zO s from hr)
              have hlen : (LD s C d ++ LK s C d k ++ List.replicate (cP s C d k r) (d, k)).length = (LD s C d ++ LK s C d k).length + cP s C d k r := by rw [List.length_append, List.length_replicate]
              by_cases c1 : oS s r = 1 ∧ oA s r = k
              · obtain ⟨c1, c2⟩ := c1
                rw [c1] at e97
                rw [c2] at e98
                have e97 : g.1 97 (60 + r) = 1 := e97
                obtain ⟨w2, g2, r2, rfl, F2⟩ := Hg.hold j hr (Or.inl c1) (show d < 200 by omega)
                cases hB : hdB s C r d with
                | false =>
                  rw [hB, bI_f] at r2
                  have ih := ih g2 (F.trans F2.ly) (by rw [hst, if_neg (fun z => by rw [hB] at z; exact absurd z.2.2 (by decide)), Nat.add_zero]; exact T.hx F2)
                  rw [e61] at ih
                  show Wp 4 j_M_lays _ _ _ _ _
                  (refine W1 rfl ?_; try refine Wp.norm (L' := [_, _, _, _]) rfl ?_)
                  repeat (first | (refine W1 rfl ?_; try refine Wp.norm (L' := [_, _, _, _]) rfl ?_) | ((first | change (_ → _) ∧ (_ → _) | change vp_in _ _ ∧ _ | change ¬ _ ∧ _); simp (disch := omega) only [nI_clamp, nI_leI, nI_ltI, nI_eq, nI_1, nI_add, nI_not_neg, nI_is_pos, nI_m1, nI_z, e90, e60, e97, e98, i32_c1]) | refine brT (by first | assumption | decide | omega) ?_ | refine brF (by first | assumption | decide | omega) ?_ | refine brTn (by first | assumption | decide | omega) ?_ | refine brFn (by first | assumption | decide | omega) ?_ | refine And.intro (vp_in_nI (by omega) (by decide)) ?_ | refine And.intro (vp_lit (by decide)) ?_ | refine divJ (by decide) ?_ | refine divI (by decide) ?_)
                  try change _ ∧ _
                  refine Cl.of r2 (by decide) ?_
                  show Wp 4 j_M_lays _ _ _ _ _
                  repeat (first | refine Wp.at ih rfl rfl ?_ rfl | (refine W1 rfl ?_; try refine Wp.norm (L' := [_, _, _, _]) rfl ?_) | ((first | change (_ → _) ∧ (_ → _) | change vp_in _ _ ∧ _ | change ¬ _ ∧ _); simp (disch := omega) only [nI_clamp, nI_leI, nI_ltI, nI_eq, nI_1, nI_add, nI_not_neg, nI_is_pos, nI_m1, nI_z]) | refine brT (by first | assumption | decide | omega) ?_ | refine brF (by first | assumption | decide | omega) ?_ | refine brTn (by first | assumption | decide | omega) ?_ | refine brFn (by first | assumption | decide | omega) ?_ | refine And.intro (vp_in_nI (by omega) (by decide)) ?_ | refine And.intro (vp_lit (by decide)) ?_ | refine divJ (by decide) ?_ | refine divI (by decide) ?_)
                  try change _ ∧ _
                  first | done | rfl | (simp (disch := omega) only [nI_1, nI_add, nI_clamp] <;> first | done | rfl)
                | true =>
                  rw [hB, bI_t] at r2
                  have hp1 : cP s C d k (r + 1) = cP s C d k r + 1 := by rw [hst, if_pos ⟨c1, c2, hB⟩]
                  have H2 := H.ly (F.trans F2.ly)
                  obtain ⟨w3, g3, r3, rfl, F3, T3⟩ := m_laysTurn (d := d) (k := k) H2 j (T.hx F2) (by omega) (by omega) (by omega) (fun t ht => by
                    have hin := gL_m ht
                    rcases List.mem_append.mp hin with z | z
                    · rcases List.mem_append.mp z with z | z
                      · have := LD_mem _ _ z; omega
                      · have := LK_mem _ _ _ z; omega
                    · rw [List.eq_of_mem_replicate z]; show k < 16; omega)
                  rw [List.append_assoc, ← List.replicate_succ', ← hp1] at T3
                  have ih := ih g3 ((F.trans F2.ly).trans F3) T3
                  rw [e61] at ih
                  show Wp 4 j_M_lays _ _ _ _ _
                  (refine W1 rfl ?_; try refine Wp.norm (L' := [_, _, _, _]) rfl ?_)
                  repeat (first | (refine W1 rfl ?_; try refine Wp.norm (L' := [_, _, _, _]) rfl ?_) | ((first | change (_ → _) ∧ (_ → _) | change vp_in _ _ ∧ _ | change ¬ _ ∧ _); simp (disch := omega) only [nI_clamp, nI_leI, nI_ltI, nI_eq, nI_1, nI_add, nI_not_neg, nI_is_pos, nI_m1, nI_z, e90, e60, e97, e98, i32_c1]) | refine brT (by first | assumption | decide | omega) ?_ | refine brF (by first | assumption | decide | omega) ?_ | refine brTn (by first | assumption | decide | omega) ?_ | refine brFn (by first | assumption | decide | omega) ?_ | refine And.intro (vp_in_nI (by omega) (by decide)) ?_ | refine And.intro (vp_lit (by decide)) ?_ | refine divJ (by decide) ?_ | refine divI (by decide) ?_)
                  try change _ ∧ _
                  refine Cl.of r2 (by decide) ?_
                  show Wp 4 j_M_lays _ _ _ _ _
                  repeat (first | (refine W1 rfl ?_; try refine Wp.norm (L' := [_, _, _, _]) rfl ?_) | ((first | change (_ → _) ∧ (_ → _) | change vp_in _ _ ∧ _ | change ¬ _ ∧ _); simp (disch := omega) only [nI_clamp, nI_leI, nI_ltI, nI_eq, nI_1, nI_add, nI_not_neg, nI_is_pos, nI_m1, nI_z]) | refine brT (by first | assumption | decide | omega) ?_ | refine brF (by first | assumption | decide | omega) ?_ | refine brTn (by first | assumption | decide | omega) ?_ | refine brFn (by first | assumption | decide | omega) ?_ | refine And.intro (vp_in_nI (by omega) (by decide)) ?_ | refine And.intro (vp_lit (by decide)) ?_ | refine divJ (by decide) ?_ | refine divI (by decide) ?_)
                  try change _ ∧ _
                  refine Cl.of r3 (by decide) ?_
                  show Wp 4 j_M_lays _ _ _ _ _
                  repeat (first | refine Wp.at ih rfl rfl ?_ rfl | (refine W1 rfl ?_; try refine Wp.norm (L' := [_, _, _, _]) rfl ?_) | ((first | change (_ → _) ∧ (_ → _) | change vp_in _ _ ∧ _ | change ¬ _ ∧ _); simp (disch := omega) only [nI_clamp, nI_leI, nI_ltI, nI_eq, nI_1, nI_add, nI_not_neg, nI_is_pos, nI_m1, nI_z]) | refine brT (by first | assumption | decide | omega) ?_ | refine brF (by first | assumption | decide | omega) ?_ | refine brTn (by first | assumption | decide | omega) ?_ | refine brFn (by first | assumption | decide | omega) ?_ | refine And.intro (vp_in_nI (by omega) (by decide)) ?_ | refine And.intro (vp_lit (by decide)) ?_ | refine divJ (by decide) ?_ | refine divI (by decide) ?_)
                  try change _ ∧ _
                  first | done | rfl | (simp (disch := omega) only [nI_1, nI_add, nI_clamp] <;> first | done | rfl)
              · have ih := ih g F (by rw [hst, if_neg (fun z => c1 ⟨z.1, z.2.1⟩), Nat.add_zero]; exact T)
                rw [e61] at ih
                by_cases d1 : oS s r = 1
                · have d2 : ¬ oA s r = k := fun z => c1 ⟨d1, z⟩
                  rw [d1] at e97
                  have e97 : g.1 97 (60 + r) = 1 := e97
                  show Wp 4 j_M_lays _ _ _ _ _
                  (refine W1 rfl ?_; try refine Wp.norm (L' := [_, _, _, _]) rfl ?_)
                  repeat (first | refine Wp.at ih rfl rfl ?_ rfl | (refine W1 rfl ?_; try refine Wp.norm (L' := [_, _, _, _]) rfl ?_) | ((first | change (_ → _) ∧ (_ → _) | change vp_in _ _ ∧ _ | change ¬ _ ∧ _); simp (disch := omega) only [nI_clamp, nI_leI, nI_ltI, nI_eq, nI_1, nI_add, nI_not_neg, nI_is_pos, nI_m1, nI_z, e90, e60, e97, e98, i32_c1]) | refine brT (by first | assumption | decide | omega) ?_ | refine brF (by first | assumption | decide | omega) ?_ | refine brTn (by first | assumption | decide | omega) ?_ | refine brFn (by first | assumption | decide | omega) ?_ | refine And.intro (vp_in_nI (by omega) (by decide)) ?_ | refine And.intro (vp_lit (by decide)) ?_ | refine divJ (by decide) ?_ | refine divI (by decide) ?_)
                  try change _ ∧ _
                  first | done | rfl | (simp (disch := omega) only [nI_1, nI_add, nI_clamp] <;> first | done | rfl)
                · have n1 : ¬ nI (oS s r) = 1 := fun z => d1 ((nI_one (by omega)).mp z)
                  show Wp 4 j_M_lays _ _ _ _ _
                  (refine W1 rfl ?_; try refine Wp.norm (L' := [_, _, _, _]) rfl ?_)
                  repeat (first | refine Wp.at ih rfl rfl ?_ rfl | (refine W1 rfl ?_; try refine Wp.norm (L' := [_, _, _, _]) rfl ?_) | ((first | change (_ → _) ∧ (_ → _) | change vp_in _ _ ∧ _ | change ¬ _ ∧ _); simp (disch := omega) only [nI_clamp, nI_leI, nI_ltI, nI_eq, nI_1, nI_add, nI_not_neg, nI_is_pos, nI_m1, nI_z, e90, e60, e97, i32_c1]) | refine brT (by first | assumption | decide | omega) ?_ | refine brF (by first | assumption | decide | omega) ?_ | refine brTn (by first | assumption | decide | omega) ?_ | refine brFn (by first | assumption | decide | omega) ?_ | refine And.intro (vp_in_nI (by omega) (by decide)) ?_ | refine And.intro (vp_lit (by decide)) ?_ | refine divJ (by decide) ?_ | refine divI (by decide) ?_)
                  try change _ ∧ _
                  first | done | rfl | (simp (disch := omega) only [nI_1, nI_add, nI_clamp] <;> first | done | rfl)
          have e89 := (H.ly F).1.2.2.1
          have ih := inner 0 (Nat.zero_le _) g F (by show TLm s C (LD s C d ++ LK s C d k ++ List.replicate 0 (d, k)) g; rw [List.replicate_zero, List.append_nil]; exact T)
          have ih : Wp 4 j_M_lays 32 [.ref 65, .int (nI d), .int (nI k), .int 60] [] g QQ := ih
          show Wp 4 j_M_lays _ _ _ _ _
          (refine W1 rfl ?_; try refine Wp.norm (L' := [_, _, _, _]) rfl ?_)
          repeat (first | refine Wp.at ih rfl rfl ?_ rfl | (refine W1 rfl ?_; try refine Wp.norm (L' := [_, _, _, _]) rfl ?_) | ((first | change (_ → _) ∧ (_ → _) | change vp_in _ _ ∧ _ | change ¬ _ ∧ _); simp (disch := omega) only [nI_clamp, nI_leI, nI_ltI, nI_eq, nI_1, nI_add, nI_not_neg, nI_is_pos, nI_m1, nI_z, e89, i32_c1]) | refine brT (by first | assumption | decide | omega) ?_ | refine brF (by first | assumption | decide | omega) ?_ | refine brTn (by first | assumption | decide | omega) ?_ | refine brFn (by first | assumption | decide | omega) ?_ | refine And.intro (vp_in_nI (by omega) (by decide)) ?_ | refine And.intro (vp_lit (by decide)) ?_ | refine divJ (by decide) ?_ | refine divI (by decide) ?_)
          try change _ ∧ _
          first | done | rfl | (simp (disch := omega) only [nI_1, nI_add, nI_clamp] <;> first | done | rfl)
      have e87 := (H.ly F).1.1
      have ih := kinds 0 (Nat.zero_le _) g z F (by show TLm s C (LD s C d ++ []) g; rw [List.append_nil]; exact T)
      have ih : Wp 4 j_M_lays 19 [.ref 65, .int (nI d), .int 0, z] [] g QQ := ih
      show Wp 4 j_M_lays _ _ _ _ _
      (refine W1 rfl ?_; try refine Wp.norm (L' := [_, _, _, _]) rfl ?_)
      repeat (first | refine Wp.at ih rfl rfl ?_ rfl | (refine W1 rfl ?_; try refine Wp.norm (L' := [_, _, _, _]) rfl ?_) | ((first | change (_ → _) ∧ (_ → _) | change vp_in _ _ ∧ _ | change ¬ _ ∧ _); simp (disch := omega) only [nI_clamp, nI_leI, nI_ltI, nI_eq, nI_1, nI_add, nI_not_neg, nI_is_pos, nI_m1, nI_z, e87, i32_c1]) | refine brT (by first | assumption | decide | omega) ?_ | refine brF (by first | assumption | decide | omega) ?_ | refine brTn (by first | assumption | decide | omega) ?_ | refine brFn (by first | assumption | decide | omega) ?_ | refine And.intro (vp_in_nI (by omega) (by decide)) ?_ | refine And.intro (vp_lit (by decide)) ?_ | refine divJ (by decide) ?_ | refine divI (by decide) ?_)
      try change _ ∧ _
      first | done | rfl | (simp (disch := omega) only [nI_1, nI_add, nI_clamp] <;> first | done | rfl)
  have ih := lp 0 (Nat.zero_le _) (wI h 65 55 0) .null .null (LY.rfl h).t ⟨rfl, fun t ht => absurd ht (Nat.not_lt_zero _)⟩
  show Wp 4 j_M_lays _ _ _ _ _
  repeat (first | refine Wp.at ih rfl rfl ?_ rfl | (refine W1 rfl ?_; try refine Wp.norm (L' := [_, _, _, _]) rfl ?_) | ((first | change (_ → _) ∧ (_ → _) | change vp_in _ _ ∧ _ | change ¬ _ ∧ _); simp (disch := omega) only [nI_clamp, nI_leI, nI_ltI, nI_eq, nI_1, nI_add, nI_not_neg, nI_is_pos, nI_m1, nI_z]) | refine brT (by first | assumption | decide | omega) ?_ | refine brF (by first | assumption | decide | omega) ?_ | refine brTn (by first | assumption | decide | omega) ?_ | refine brFn (by first | assumption | decide | omega) ?_ | refine And.intro (vp_in_nI (by omega) (by decide)) ?_ | refine And.intro (vp_lit (by decide)) ?_ | refine divJ (by decide) ?_ | refine divI (by decide) ?_)
  try change _ ∧ _
  first | done | rfl | (simp (disch := omega) only [nI_1, nI_add, nI_clamp] <;> first | done | rfl)
end MLZ
