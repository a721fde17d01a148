/-! ===== WHAT IS READ IS SOUND; THE MODEL READS A TEXT ===== -/
def IV (x : PS) : Prop := match x with
  | (m, _, W, d, C, s) => ((m = 7 ∨ m = 8) ∧ J s C) ∨ (∃ s0 C0, J s0 C0 ∧ hdT s0 C0 s ∧ MI C0 m W d C) ∨ m = 9
section IVS
variable {b : Nat → Nat} {n i : Nat} {s : ST} {C : List Nat} {h : HP}
theorem IV.fin {o : FO} {y : PS} (h : o = none → IV y) : IV (fin o y) := by
  cases o with
  | none => exact h rfl
  | some e => exact Or.inr (Or.inr rfl)
theorem IV.mp {s0 : ST} {C0 : List Nat} {y : PS} (j : J s0 C0) (hh : hdT s0 C0 s) (h : MP C0 s y) : IV y := by
  rcases h with ⟨f, q, rfl⟩ | ⟨m, i, W, d, C, rfl, h⟩
  · exact Or.inr (Or.inr rfl)
  · exact Or.inr (Or.inl ⟨s0, C0, j, hh, h⟩)
theorem MI.st : MI C 3 [] 0 C := ⟨trivial, rfl, by decide, [], (List.append_nil C).symm, Or.inr (Or.inr (Or.inl ⟨rfl, Or.inl rfl, rfl⟩))⟩
theorem IV.s7 (hb : ∀ k, k < n → b k < 256) (j : J s C) : IV (qS b n i C s) := by
  unfold qS
  split
  · exact Or.inl ⟨Or.inr rfl, j⟩
  split
  · refine IV.fin (fun z => Or.inl ⟨Or.inl rfl, ?_⟩)
    have := ckN_n (ch_none.mp z).1
    exact j.day this.2.1 this.2.2
  split
  · exact IV.fin (fun z => Or.inl ⟨Or.inl rfl, j.prs hb z⟩)
  split
  · exact IV.fin (fun z => Or.inl ⟨Or.inl rfl, j.knd hb z⟩)
  split
  · refine IV.fin (fun z => Or.inr (Or.inl ⟨s, C, j, ?_, MI.st⟩))
    unfold foT at z
    obtain ⟨z, z3⟩ := ch_none.mp z
    obtain ⟨z1, z2⟩ := ch_none.mp z
    exact ⟨1, _, 0, rfl, ckC_n z1, Or.inl ⟨rfl, ckK_n z2, rfl⟩⟩
  split
  · refine IV.fin (fun z => Or.inr (Or.inl ⟨s, C, j, ?_, MI.st⟩))
    unfold foV at z
    obtain ⟨z, z4⟩ := ch_none.mp z
    obtain ⟨z, z3⟩ := ch_none.mp z
    obtain ⟨z1, z2⟩ := ch_none.mp z
    exact ⟨2, _, _, rfl, ckC_n z1, Or.inr ⟨rfl, (ckP_n z2).1, ckK_n z3⟩⟩
  split
  · refine IV.fin (fun z => Or.inl ⟨Or.inl rfl, ?_⟩)
    unfold foR at z
    obtain ⟨z, z5⟩ := ch_none.mp z
    obtain ⟨z, z4⟩ := ch_none.mp z
    obtain ⟨z, z3⟩ := ch_none.mp z
    obtain ⟨z1, z2⟩ := ch_none.mp z
    exact j.rst (ckC_n z1) (ckK_n z2) (ckK_n z3) (ckN_n z4).2
  split
  · refine IV.fin (fun z => Or.inl ⟨Or.inl rfl, ?_⟩)
    unfold foJ at z
    obtain ⟨z, z4⟩ := ch_none.mp z
    obtain ⟨z, z3⟩ := ch_none.mp z
    obtain ⟨z1, z2⟩ := ch_none.mp z
    exact j.jn4 (ckC_n z1) (ckP_n z2).1 (ckP_n z3).1 (Ne.symm (ckP_n z3).2)
  split
  · refine IV.fin (fun z => Or.inl ⟨Or.inl rfl, ?_⟩)
    unfold foJ at z
    obtain ⟨z, z4⟩ := ch_none.mp z
    obtain ⟨z, z3⟩ := ch_none.mp z
    obtain ⟨z1, z2⟩ := ch_none.mp z
    exact j.jn5 (ckC_n z1) (ckP_n z2).1 (ckP_n z3).1 (Ne.symm (ckP_n z3).2)
  · exact Or.inr (Or.inr rfl)
theorem IV.step (hb : ∀ k, k < n → b k < 256) {x : PS} (h : IV x) : IV (qst b n x) := by
  obtain ⟨m, i, W, d, C, s⟩ := x
  rcases h with ⟨rfl | rfl, j⟩ | ⟨s0, C0, j, hh, hm⟩ | rfl
  · exact IV.s7 hb j
  · exact Or.inl ⟨Or.inr rfl, j⟩
  · have hmm := hm
    obtain ⟨hw, hd, h6, T, eT, hT⟩ := hm
    rcases hT with ⟨rfl, _⟩ | ⟨rfl, _⟩ | ⟨rfl, _⟩ | ⟨rfl, _⟩ | ⟨rfl, hW, hty⟩
    · exact IV.mp j hh (MP_0 hmm)
    · exact IV.mp j hh (MP_1 hmm)
    · exact IV.mp j hh (MP_3 hmm)
    · exact IV.mp j hh (MP_4 hmm)
    · refine IV.fin (fun z => Or.inl ⟨Or.inl rfl, ?_⟩)
      rw [eT]
      exact j.cls hh hty
  · exact Or.inr (Or.inr rfl)
theorem IV.go (hb : ∀ k, k < n → b k < 256) {x y : PS} (h : IV x) (g : qGo b n x y) : IV y := by
  obtain ⟨k, rfl⟩ := g
  induction k generalizing x with
  | zero => exact h
  | succ k ih => exact ih (h.step hb)
theorem J_0 : J st0 [] := by
  refine ⟨⟨⟨⟨⟨by decide, by decide, by decide, by decide, by decide, by decide, by decide⟩, fun i _ => Nat.zero_le _, fun p _ => ⟨by show 0 < _; decide, by show 0 < _; decide⟩, fun p hp => absurd hp (Nat.not_lt_zero _), fun p hp => absurd hp (Nat.not_lt_zero _)⟩, fun p hp => absurd hp (Nat.not_lt_zero _), fun p hp => absurd hp (Nat.not_lt_zero _)⟩, rfl, fun p hp => absurd hp (Nat.not_lt_zero _), fun p hp => absurd hp (Nat.not_lt_zero _), fun p hp => absurd hp (Nat.not_lt_zero _), by decide⟩, ⟨fun i _ => Nat.zero_le _, fun a b f _ _ hf => ⟨fun z => ?_, fun ⟨r, hr, _⟩ => absurd hr (Nat.not_lt_zero _)⟩, fun p q _ _ => ⟨fun z => ?_, fun ⟨r, hr, _⟩ => absurd hr (Nat.not_lt_zero _)⟩, fun p q _ _ => ⟨fun z => ?_, fun ⟨r, hr, _⟩ => absurd hr (Nat.not_lt_zero _)⟩, fun r hr => absurd hr (Nat.not_lt_zero _)⟩, ⟨fun x hx => absurd hx (Nat.not_lt_zero _), fun r hr => absurd hr (Nat.not_lt_zero _), fun f => rfl, rfl⟩⟩
  · have z : f ≤ 0 := z
    omega
  · have z : (0 : Nat).testBit q = true := z
    rw [Nat.zero_testBit] at z; cases z
  · have z : (0 : Nat).testBit q = true := z
    rw [Nat.zero_testBit] at z; cases z
theorem J_go (hb : ∀ k, k < n → b k < 256) {m : Nat} (hm : m = 7 ∨ m = 8) (g : qGo b n (7, 0, [], 0, [], st0) (m, i, [], 0, C, s)) : J s C := by
  have := IV.go hb (x := (7, 0, [], 0, [], st0)) (Or.inl ⟨Or.inl rfl, J_0⟩) g
  rcases this with z | ⟨s0, C0, j, hh, hw, hd, h6, T, eT, hT⟩ | z
  · exact z.2
  · rcases hT with z | z | z | z | z <;> (have := z.1; omega)
  · omega
theorem lk_end {j : Nat} (hb : ∀ k, k < n → b k < 256) : lkV b n (ps b n j) = -1 ↔ tS b n j = 0 := by
  have h1 := ps_le (b := b) (n := n) j
  rw [tS_0]
  unfold lkV
  by_cases z : ps b n j < n
  · have := hb _ z
    rw [if_pos z]
    exact ⟨fun y => ((nI_m1 (by omega)).mp y).elim, fun y => by omega⟩
  · rw [if_neg z]
    exact ⟨fun _ => by omega, fun _ => rfl⟩
theorem m_house {D : Nat} {h0 : HP} {Q : QT} (hD : 10 ≤ D) (hb : ∀ k, k < n → b k < 256)
  (hF : ∀ f p g, LF f p g → MX h0 g → qGo b n (7, 0, [], 0, [], st0) (flt f p) → Wp D j_M_house 89 [.ref 65] [] g Q)
  (hO : ∀ j C s g, ML b n j g → DM s g → CM C g → MX h0 g → qGo b n (7, 0, [], 0, [], st0) (8, j, [], 0, C, s) → Wp D j_M_house 89 [.ref 65] [] g Q) :
  ∀ e j C s g, 901 ≤ j + e → ML b n j g → DM s g → CM C g → C.length ≤ j → MX h0 g → qGo b n (7, 0, [], 0, [], st0) (7, j, [], 0, C, s) → Wp D j_M_house 67 [.ref 65] [] g Q := by
  intro e
  induction e with
  | zero =>
    intro j C s g he M
    have := M.i9
    omega
  | succ e ih =>
    intro j C s g he M DD c hl F go
    have f0 := M.f0
    have rl := r_look M.T M.A
    have Fl : LX g (wI g 65 2 (nI (ps b n j))) := (LX.rfl g).a (by decide)
    have Ml := M.lk
    have Dl := DD.lx Fl
    have cl := c.lx Fl
    have hk := lk_end (j := j) hb
    have hJ := J_go hb (Or.inl rfl) go
    by_cases c0 : tS b n j = 0
    · have hk := hk.mpr c0
      have ih := hO j C s _ Ml Dl cl (F.trans Fl.mx) (go.trans (qGo.one (by rw [q7]; unfold qS; rw [if_pos c0])))
      show Wp D j_M_house _ _ _ _ _
      repeat (first | (refine W1 rfl ?_; try refine Wp.norm (L' := [_]) rfl ?_) | ((first | change (_ → _) ∧ (_ → _) | change vp_in _ _ ∧ _ | change ¬ _ ∧ _); simp (disch := omega) only [nI_clamp, nI_leI, nI_ltI, nI_eq, nI_1, nI_add, nI_not_neg, nI_is_pos, nI_m1, nI_z, f0]) | refine brT (by first | assumption | decide | omega) ?_ | refine brF (by first | assumption | decide | omega) ?_ | refine brTn (by first | assumption | decide | omega) ?_ | refine brFn (by first | assumption | decide | omega) ?_ | refine And.intro (vp_in_nI (by omega) (by decide)) ?_ | refine And.intro (vp_lit (by decide)) ?_ | refine divJ (by decide) ?_ | refine divI (by decide) ?_)
      try change _ ∧ _
      refine Cl.of rl (by omega) ?_
      repeat (first | refine Wp.at ih rfl rfl ?_ rfl | (refine W1 rfl ?_; try refine Wp.norm (L' := [_]) rfl ?_) | ((first | change (_ → _) ∧ (_ → _) | change vp_in _ _ ∧ _ | change ¬ _ ∧ _); simp (disch := omega) only [nI_clamp, nI_leI, nI_ltI, nI_eq, nI_1, nI_add, nI_not_neg, nI_is_pos, nI_m1, nI_z, hk]) | refine brT (by first | assumption | decide | omega) ?_ | refine brF (by first | assumption | decide | omega) ?_ | refine brTn (by first | assumption | decide | omega) ?_ | refine brFn (by first | assumption | decide | omega) ?_ | refine And.intro (vp_in_nI (by omega) (by decide)) ?_ | refine And.intro (vp_lit (by decide)) ?_ | refine divJ (by decide) ?_ | refine divI (by decide) ?_)
      try change _ ∧ _
      first | done | rfl | (simp (disch := omega) only [nI_1, nI_add, nI_clamp] <;> first | done | rfl)
    · have hk : ¬ lkV b n (ps b n j) = -1 := fun z => c0 (hk.mp z)
      obtain ⟨w, h2, r2, rfl, F2, o, j2, C2, s2, L2, n2, go2⟩ := m_statement Ml Dl hJ.1.1 hJ.1.2.1 cl hl c0
      cases o with
      | none =>
        obtain ⟨c2, D2, hl2, hj2⟩ := n2 rfl
        have ih := ih j2 C2 s2 h2 (by omega) L2 D2 c2 hl2 ((F.trans Fl.mx).trans F2) (go.trans go2)
        show Wp D j_M_house _ _ _ _ _
        (refine W1 rfl ?_; try refine Wp.norm (L' := [_]) rfl ?_)
        repeat (first | (refine W1 rfl ?_; try refine Wp.norm (L' := [_]) rfl ?_) | ((first | change (_ → _) ∧ (_ → _) | change vp_in _ _ ∧ _ | change ¬ _ ∧ _); simp (disch := omega) only [nI_clamp, nI_leI, nI_ltI, nI_eq, nI_1, nI_add, nI_not_neg, nI_is_pos, nI_m1, nI_z, f0]) | refine brT (by first | assumption | decide | omega) ?_ | refine brF (by first | assumption | decide | omega) ?_ | refine brTn (by first | assumption | decide | omega) ?_ | refine brFn (by first | assumption | decide | omega) ?_ | refine And.intro (vp_in_nI (by omega) (by decide)) ?_ | refine And.intro (vp_lit (by decide)) ?_ | refine divJ (by decide) ?_ | refine divI (by decide) ?_)
        try change _ ∧ _
        refine Cl.of rl (by omega) ?_
        repeat (first | (refine W1 rfl ?_; try refine Wp.norm (L' := [_]) rfl ?_) | ((first | change (_ → _) ∧ (_ → _) | change vp_in _ _ ∧ _ | change ¬ _ ∧ _); simp (disch := omega) only [nI_clamp, nI_leI, nI_ltI, nI_eq, nI_1, nI_add, nI_not_neg, nI_is_pos, nI_m1, nI_z]) | refine brT (by first | assumption | decide | omega) ?_ | refine brF (by first | assumption | decide | omega) ?_ | refine brTn (by first | assumption | decide | omega) ?_ | refine brFn (by first | assumption | decide | omega) ?_ | refine And.intro (vp_in_nI (by omega) (by decide)) ?_ | refine And.intro (vp_lit (by decide)) ?_ | refine divJ (by decide) ?_ | refine divI (by decide) ?_)
        try change _ ∧ _
        refine Cl.of r2 (by omega) ?_
        repeat (first | refine Wp.at ih rfl rfl ?_ rfl | (refine W1 rfl ?_; try refine Wp.norm (L' := [_]) rfl ?_) | ((first | change (_ → _) ∧ (_ → _) | change vp_in _ _ ∧ _ | change ¬ _ ∧ _); simp (disch := omega) only [nI_clamp, nI_leI, nI_ltI, nI_eq, nI_1, nI_add, nI_not_neg, nI_is_pos, nI_m1, nI_z]) | refine brT (by first | assumption | decide | omega) ?_ | refine brF (by first | assumption | decide | omega) ?_ | refine brTn (by first | assumption | decide | omega) ?_ | refine brFn (by first | assumption | decide | omega) ?_ | refine And.intro (vp_in_nI (by omega) (by decide)) ?_ | refine And.intro (vp_lit (by decide)) ?_ | refine divJ (by decide) ?_ | refine divI (by decide) ?_)
        try change _ ∧ _
        first | done | rfl | (simp (disch := omega) only [nI_1, nI_add, nI_clamp] <;> first | done | rfl)
      | some x =>
        obtain ⟨f, p⟩ := x
        have hne := LF.ne L2
        have ih := hF f p h2 L2 ((F.trans Fl.mx).trans F2) (go.trans go2)
        show Wp D j_M_house _ _ _ _ _
        repeat (first | (refine W1 rfl ?_; try refine Wp.norm (L' := [_]) rfl ?_) | ((first | change (_ → _) ∧ (_ → _) | change vp_in _ _ ∧ _ | change ¬ _ ∧ _); simp (disch := omega) only [nI_clamp, nI_leI, nI_ltI, nI_eq, nI_1, nI_add, nI_not_neg, nI_is_pos, nI_m1, nI_z, f0]) | refine brT (by first | assumption | decide | omega) ?_ | refine brF (by first | assumption | decide | omega) ?_ | refine brTn (by first | assumption | decide | omega) ?_ | refine brFn (by first | assumption | decide | omega) ?_ | refine And.intro (vp_in_nI (by omega) (by decide)) ?_ | refine And.intro (vp_lit (by decide)) ?_ | refine divJ (by decide) ?_ | refine divI (by decide) ?_)
        try change _ ∧ _
        refine Cl.of rl (by omega) ?_
        repeat (first | (refine W1 rfl ?_; try refine Wp.norm (L' := [_]) rfl ?_) | ((first | change (_ → _) ∧ (_ → _) | change vp_in _ _ ∧ _ | change ¬ _ ∧ _); simp (disch := omega) only [nI_clamp, nI_leI, nI_ltI, nI_eq, nI_1, nI_add, nI_not_neg, nI_is_pos, nI_m1, nI_z]) | refine brT (by first | assumption | decide | omega) ?_ | refine brF (by first | assumption | decide | omega) ?_ | refine brTn (by first | assumption | decide | omega) ?_ | refine brFn (by first | assumption | decide | omega) ?_ | refine And.intro (vp_in_nI (by omega) (by decide)) ?_ | refine And.intro (vp_lit (by decide)) ?_ | refine divJ (by decide) ?_ | refine divI (by decide) ?_)
        try change _ ∧ _
        refine Cl.of r2 (by omega) ?_
        repeat (first | refine Wp.at ih rfl rfl ?_ rfl | (refine W1 rfl ?_; try refine Wp.norm (L' := [_]) rfl ?_) | ((first | change (_ → _) ∧ (_ → _) | change vp_in _ _ ∧ _ | change ¬ _ ∧ _); simp (disch := omega) only [nI_clamp, nI_leI, nI_ltI, nI_eq, nI_1, nI_add, nI_not_neg, nI_is_pos, nI_m1, nI_z]) | refine brT (by first | assumption | decide | omega) ?_ | refine brF (by first | assumption | decide | omega) ?_ | refine brTn (by first | assumption | decide | omega) ?_ | refine brFn (by first | assumption | decide | omega) ?_ | refine And.intro (vp_in_nI (by omega) (by decide)) ?_ | refine And.intro (vp_lit (by decide)) ?_ | refine divJ (by decide) ?_ | refine divI (by decide) ?_)
        try change _ ∧ _
        first | done | rfl | (simp (disch := omega) only [nI_1, nI_add, nI_clamp] <;> first | done | rfl)
end IVS
