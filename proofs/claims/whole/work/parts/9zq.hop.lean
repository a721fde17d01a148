/-! ===== CLAUSE house ===== -/
section HOP
variable {b : Nat → Nat} {n : Nat} {h h' : HP} {s : ST} {C : List Nat}
theorem flt_inj {f q f' q' : Nat} (e : flt f q = flt f' q') : f = f' ∧ q = q' := by
  have e1 := congrArg (fun x : PS => x.2.1) e
  have e2 := congrArg (fun x : PS => x.2.2.2.1) e
  exact ⟨e1, e2⟩
theorem flt_8 {f q i : Nat} {W : List Nat} {d : Nat} {C : List Nat} {s : ST} (e : flt f q = (8, i, W, d, C, s)) : False := by
  have e1 : (9 : Nat) = 8 := congrArg (fun x : PS => x.1) e
  exact absurd e1 (by decide)
theorem RDO.det {f p f' p' : Nat} (h1 : RDO b n f p) (h2 : RDO b n f' p') : f = f' ∧ p = p' := by
  rcases h1 with g1 | ⟨rfl, rfl, i, C, s, g1, t1⟩
  · rcases h2 with g2 | ⟨rfl, rfl, i, C, s, g2, t2⟩
    · exact flt_inj (g1.det g2 (q_flt _ _) (q_flt _ _))
    · exact (flt_8 (g1.det g2 (q_flt _ _) (q_8 _ _ _ _ _))).elim
  · rcases h2 with g2 | ⟨rfl, rfl, i, C, s, g2, t2⟩
    · exact (flt_8 (g2.det g1 (q_flt _ _) (q_8 _ _ _ _ _))).elim
    · exact ⟨rfl, rfl⟩
theorem RDG.det {s' : ST} {C' : List Nat} (h1 : RDG b n s C) (h2 : RDG b n s' C') : s = s' ∧ C = C' := by
  obtain ⟨i, g1, _⟩ := h1
  obtain ⟨i', g2, _⟩ := h2
  have e := g1.det g2 (q_8 _ _ _ _ _) (q_8 _ _ _ _ _)
  have e1 := congrArg (fun x : PS => x.2.2.2.2.1) e
  have e2 := congrArg (fun x : PS => x.2.2.2.2.2) e
  exact ⟨e2, e1⟩
theorem RDG.no {f p : Nat} (h1 : RDG b n s C) (h2 : RDO b n f p) : False := by
  obtain ⟨i, g1, t1⟩ := h1
  rcases h2 with g2 | ⟨rfl, rfl, i', C', s', g2, t2⟩
  · exact flt_8 (g2.det g1 (q_flt _ _) (q_8 _ _ _ _ _))
  · have e := g1.det g2 (q_8 _ _ _ _ _) (q_8 _ _ _ _ _)
    have e1 : C = C' := congrArg (fun x : PS => x.2.2.2.2.1) e
    have e2 : s = s' := congrArg (fun x : PS => x.2.2.2.2.2) e
    subst e1
    subst e2
    omega
theorem WC.o {K KJ : List Nat} (w : WC h) (O : onlyJ K KJ h h') (hK : ∀ k, k ∈ K → k < 67) : WC h' := fun q hq i hi => by
  rw [O.1 (67 + q) i (fun z => by have := hK _ z; omega)]
  exact w q hq i hi
/-- the class's cells that reading changes -/
def hdL : List Nat := [1, 3, 4, 5, 6] ++ rdL
theorem hdL_lt : ∀ k, k ∈ hdL → k < 36 ∧ ¬ k ∈ [0, 2, 7, 8, 9, 10, 11, 12, 13, 14, 15, 16] := by decide
theorem SMX.img (m : SMX h) : ∃ n, n ≤ 403 ∧ h.1 0 11 = nI n ∧ h.1 65 80 = nI n ∧ ∀ i, i < n → h.1 64 i = h.1 120 i := m.2.2.2.2.2
theorem o_house : opI (fun h => Inv h ∧ WC h) j_E_house j_M_house [] := fun h I => by
  obtain ⟨⟨t, m, s0, c0, v0, R, M, o, ro⟩, w⟩ := I
  obtain ⟨n, b, T, hn, hl1, hb⟩ := t.tb
  have hb2 : ∀ k, k < n → b k < 256 := fun k hk => (hb k hk).2
  have eT := T.2.1
  obtain ⟨h1, r1, O1, K1⟩ := w_divide T
  have K2 : TK b n (wI h1 1 1 0) := K1.w (by decide)
  obtain ⟨wv, h3, r3, O3, P3⟩ := c_readHouse K2 hb2 hn
  have OA : onlyJ hdL [] h h3 := (((O1.mono (fun k hk => by simp at hk; rcases hk with rfl | rfl | rfl | rfl <;> decide) (fun k hk => hk)).addI (by decide)).trans (O3.mono (fun k hk => List.mem_append.mpr (Or.inr hk)) (fun k hk => hk)))
  have e11 : h3.1 1 1 = 0 := by rw [O3.1 1 1 (by decide)]; rfl
  have E3 : ∀ k i, 36 ≤ k → h3.1 k i = h.1 k i := fun k i hk => OA.1 k i (fun z => by have := (hdL_lt k z).1; omega)
  have w3 : WC h3 := w.o OA (fun k hk => by have := (hdL_lt k hk).1; omega)
  rcases P3 with ⟨rfl, f, p, e6, e7, hf, RO1⟩ | ⟨rfl, e6, e7, s, C, RG1, D3, T3⟩
  · have rE : Run DD j_E_house [.ref 0] h (some (.int (-1))) h3 := by
      have rE : Run 34 j_E_house [.ref 0] h (some (.int (-1))) h3 := by
        refine Run.of rfl ?_
        refine Wp.norm (L' := [_, _]) rfl ?_
        repeat (first | (refine W1 rfl ?_; try refine Wp.norm (L' := [_, _]) rfl ?_) | ((first | change (_ → _) ∧ (_ → _) | change vp_in _ _ ∧ _ | change ¬ _ ∧ _); simp (disch := omega) only [nI_clamp, nI_leI, nI_ltI, nI_eq, nI_1, nI_add, nI_not_neg, nI_is_pos, nI_m1, nI_z]) | refine brT (by first | assumption | decide | omega) ?_ | refine brF (by first | assumption | decide | omega) ?_ | refine brTn (by first | assumption | decide | omega) ?_ | refine brFn (by first | assumption | decide | omega) ?_ | refine And.intro (vp_in_nI (by omega) (by decide)) ?_ | refine And.intro (vp_lit (by decide)) ?_ | refine divJ (by decide) ?_ | refine divI (by decide) ?_)
        try change _ ∧ _
        refine Cl.of r1 (by decide) ?_
        show Wp 34 j_E_house _ _ _ _ _
        repeat (first | (refine W1 rfl ?_; try refine Wp.norm (L' := [_, _]) rfl ?_) | ((first | change (_ → _) ∧ (_ → _) | change vp_in _ _ ∧ _ | change ¬ _ ∧ _); simp (disch := omega) only [nI_clamp, nI_leI, nI_ltI, nI_eq, nI_1, nI_add, nI_not_neg, nI_is_pos, nI_m1, nI_z]) | refine brT (by first | assumption | decide | omega) ?_ | refine brF (by first | assumption | decide | omega) ?_ | refine brTn (by first | assumption | decide | omega) ?_ | refine brFn (by first | assumption | decide | omega) ?_ | refine And.intro (vp_in_nI (by omega) (by decide)) ?_ | refine And.intro (vp_lit (by decide)) ?_ | refine divJ (by decide) ?_ | refine divI (by decide) ?_)
        try change _ ∧ _
        refine Cl.ofA r3 (by first | done | rfl | (simp (disch := omega) only [nI_1, nI_add, nI_clamp, eT] <;> first | done | rfl)) (by decide) ?_
        show Wp 34 j_E_house _ _ _ _ _
        repeat (first | (refine W1 rfl ?_; try refine Wp.norm (L' := [_, _]) rfl ?_) | ((first | change (_ → _) ∧ (_ → _) | change vp_in _ _ ∧ _ | change ¬ _ ∧ _); simp (disch := omega) only [nI_clamp, nI_leI, nI_ltI, nI_eq, nI_1, nI_add, nI_not_neg, nI_is_pos, nI_m1, nI_z]) | refine brT (by first | assumption | decide | omega) ?_ | refine brF (by first | assumption | decide | omega) ?_ | refine brTn (by first | assumption | decide | omega) ?_ | refine brFn (by first | assumption | decide | omega) ?_ | refine And.intro (vp_in_nI (by omega) (by decide)) ?_ | refine And.intro (vp_lit (by decide)) ?_ | refine divJ (by decide) ?_ | refine divI (by decide) ?_)
        try change _ ∧ _
        try first | exact ⟨rfl, rfl⟩ | exact ⟨Or.inr rfl, rfl, rfl⟩ | exact ⟨Or.inl rfl, rfl, rfl⟩ | exact ⟨trivial, trivial⟩ | exact ⟨rfl, trivial⟩ | exact ⟨Or.inr rfl, rfl, trivial⟩ | exact ⟨Or.inl rfl, rfl, trivial⟩
      exact rE.d
    obtain ⟨v, h4, r4, P4⟩ := m_houseR (h := h3) (by rw [E3 65 1 (by decide)]; exact hl1) hn (fun k hk => by rw [E3 66 k (by decide)]; exact hb k hk) w3
    rcases P4 with ⟨rfl, F, f', p', k7, k8, hf', RO2⟩ | ⟨s', C', RG2, _⟩
    · obtain ⟨rfl, rfl⟩ := RO1.det RO2
      have E4 : ∀ k i, k < 65 → h4.1 k i = h3.1 k i := fun k i hk => F.1 k i (by omega) (by omega) (by omega) (by
        have : mxB k = 0 := by unfold mxB; rw [if_neg (by omega), if_neg (by omega), if_neg (by omega), if_neg (by omega)]
        omega)
      have E65 : ∀ i, ¬ i ∈ frL → h4.1 65 i = h.1 65 i := fun i hi => (F.2.1 i hi).trans (E3 65 i (by decide))
      have EM : ∀ k i, k ≠ 65 → k ≠ 103 → k ≠ 104 → 36 ≤ k → mxB k ≤ i → h4.1 k i = h.1 k i := fun k i z1 z2 z3 z4 z5 => (F.1 k i z1 z2 z3 z5).trans (E3 k i z4)
      have EC : ∀ k i, k < 65 → ¬ k ∈ hdL → h4.1 k i = h.1 k i := fun k i z1 z2 => (E4 k i z1).trans (OA.1 k i z2)
      refine ⟨-1, h3, h4, rE, Run.d (d := 11) r4, ⟨TP.z ?_ F.2.2.2, ?_, s0, c0, v0, ?_, ?_, o, ro⟩, ?_⟩
      · rw [E4 1 1 (by decide)]; exact e11
      · obtain ⟨m1, m2, m3, m4, m5, q, hq, m6, m7, m8⟩ := m
        refine ⟨?_, ?_, ?_, ?_, ?_, q, hq, ?_, ?_, fun i hi => ?_⟩
        · rw [EC 54 8 (by decide) (by decide), E65 74 (by decide)]; exact m1
        · rw [E4 17 6 (by decide), k7]; exact e6
        · rw [E4 17 7 (by decide), k8]; exact e7
        · rw [E65 68 (by decide), EC 50 6 (by decide) (by decide), EC 50 7 (by decide) (by decide)]; exact m4
        · rw [E65 68 (by decide), EC 50 6 (by decide) (by decide), EC 50 7 (by decide) (by decide), E65 69 (by decide)]; exact m5
        · rw [EC 0 11 (by decide) (by decide)]; exact m6
        · rw [E65 80 (by decide)]; exact m7
        · rw [EC 64 i (by decide) (by decide), EM 120 i (by decide) (by decide) (by decide) (by decide) (Nat.zero_le _)]; exact m8 i hi
      · refine R.sr (fun k i hk => EC k i ?_ ?_)
        · have : k ∈ [7, 8, 9, 12, 13, 14, 15, 16, 36, 37, 38, 39, 40, 41, 42, 43, 44, 46, 47] := List.contains_iff_mem.mp hk
          simp at this
          omega
        · have : k ∈ [7, 8, 9, 12, 13, 14, 15, 16, 36, 37, 38, 39, 40, 41, 42, 43, 44, 46, 47] := List.contains_iff_mem.mp hk
          intro z
          have z2 := hdL_lt k z
          simp at this z2
          omega
      · obtain ⟨⟨x1, x2, x3, x4, x5⟩, x6, x7, x8, x9⟩ := M
        have EL : ∀ k i, k ≠ 105 → mjB k ≤ i → h4.2 k i = h.2 k i := fun k i z1 z2 => (F.2.2.1 k i z1 z2).trans (OA.2 k i (by simp))
        refine ⟨⟨?_, ?_, ?_, ?_, ?_⟩, fun t ht => ?_, fun p hp => ?_, fun k hk => ?_, fun r hr => ?_⟩
        · rw [E65 55 (by decide)]; exact x1
        · rw [EM 88 1 (by decide) (by decide) (by decide) (by decide) (by decide)]; exact x2
        · rw [EM 89 1 (by decide) (by decide) (by decide) (by decide) (by decide)]; exact x3
        · rw [EM 87 1 (by decide) (by decide) (by decide) (by decide) (by decide)]; exact x4
        · rw [EM 90 1 (by decide) (by decide) (by decide) (by decide) (by decide)]; exact x5
        · rw [EM 106 t (by decide) (by decide) (by decide) (by decide) (Nat.zero_le _), EM 107 t (by decide) (by decide) (by decide) (by decide) (Nat.zero_le _), EM 108 t (by decide) (by decide) (by decide) (by decide) (Nat.zero_le _), EM 109 t (by decide) (by decide) (by decide) (by decide) (Nat.zero_le _), EM 110 t (by decide) (by decide) (by decide) (by decide) (Nat.zero_le _), EM 111 t (by decide) (by decide) (by decide) (by decide) (Nat.zero_le _)]; exact x6 t ht
        · rw [EM 92 (16 + p) (by decide) (by decide) (by decide) (by decide) (by show 16 ≤ 16 + p; omega), EL 91 (16 + p) (by decide) (by show 16 ≤ 16 + p; omega)]; exact x7 p hp
        · rw [EM 96 (6 + k) (by decide) (by decide) (by decide) (by decide) (by show 6 ≤ 6 + k; omega), EL 95 (6 + k) (by decide) (by show 6 ≤ 6 + k; omega)]; exact x8 k hk
        · have z60 : 60 ≤ 60 + r := by omega
          rw [EM 97 (60 + r) (by decide) (by decide) (by decide) (by decide) z60, EM 98 (60 + r) (by decide) (by decide) (by decide) (by decide) z60, EM 99 (60 + r) (by decide) (by decide) (by decide) (by decide) z60, EM 100 (60 + r) (by decide) (by decide) (by decide) (by decide) z60]; exact x9 r hr
      · exact w3.ch r4.chr
    · exact (RG2.no RO1).elim
  · have hJ : J s C := by
      obtain ⟨i, g, _⟩ := RG1
      exact J_go hb2 (Or.inr rfl) g
    have hLD : (LD s C (zD s)).length ≤ 200 := by
      obtain ⟨i, g, t⟩ := RG1
      rw [LD_len hJ]; exact t
    obtain ⟨h4, r4, O4, a7, a8, a14, a16⟩ := c_take h3
    have HC4 : HC s C h4 := by
      have e : ∀ k i, 17 ≤ k → h4.1 k i = h3.1 k i := fun k i hk => O4.1 k i (fun z => by simp [tkL] at z; omega)
      obtain ⟨⟨d1, d2, d3, d4, d5, d6⟩, d7, d8, d9, d10, d11⟩ := D3
      have b1 := hJ.1.1.1.1.1
      refine ⟨⟨by rw [a7.1]; exact d1, by rw [a7.2.1]; exact d2, by rw [a7.2.2.1]; exact d3, by rw [e 28 2 (by decide)]; exact d6⟩, fun p hp => ?_, fun x hx => ?_, fun x q k hx hq hk => ?_⟩
      · obtain ⟨x1, x2, x3, x4, x5, x6⟩ := a8 p (by omega)
        obtain ⟨y1, y2, y3, y4⟩ := d7 p hp
        exact ⟨by rw [x2]; exact y2, by rw [x3]; exact y3, by rw [x4]; exact y4⟩
      · rw [e 30 x (by decide), e 31 x (by decide)]; exact ⟨(d11 x hx).1, (d11 x hx).2.1⟩
      · rw [e 33 _ (by decide)]; exact T3 x q k hx hq hk
    obtain ⟨w5, h5, r5, rfl, O5, T5, e44, e43, B5⟩ := c_build HC4 hJ hLD
    obtain ⟨h6, r6, O6, A6⟩ := c_openAll h5
    have r7 := c_forgetE h6
    have r8 := c_forgetS (wI (wI h6 50 6 (-1)) 50 7 (-1))
    generalize h8e : wI (wI (wI h6 50 6 (-1)) 50 7 (-1)) 54 8 (-1) = h8 at r8
    have E86 : ∀ k i, k ≠ 50 → k ≠ 54 → h8.1 k i = h6.1 k i := fun k i z1 z2 => by rw [← h8e, wI_ne _ _ _ z2, wI_ne _ _ _ z1, wI_ne _ _ _ z1]
    have E65 : ∀ k i, k ≠ 46 → k ≠ 47 → h6.1 k i = h5.1 k i := fun k i z1 z2 => O6.1 k i (by simp; omega)
    have E85 : ∀ k i, k ≠ 50 → k ≠ 54 → k ≠ 46 → k ≠ 47 → h8.1 k i = h5.1 k i := fun k i z1 z2 z3 z4 => (E86 k i z1 z2).trans (E65 k i z3 z4)
    have E54 : ∀ k i, k < 36 ∨ 45 ≤ k → h5.1 k i = h4.1 k i := fun k i z => O5.1 k i (fun y => by simp [clL] at y; omega)
    have E43 : ∀ k i, k < 7 ∨ 17 ≤ k → h4.1 k i = h3.1 k i := fun k i z => O4.1 k i (fun y => by simp [tkL] at y; omega)
    have E83 : ∀ k i, 48 ≤ k → k ≠ 50 → k ≠ 54 → h8.1 k i = h.1 k i := fun k i z1 z2 z3 => (E85 k i z2 z3 (by omega) (by omega)).trans ((E54 k i (by omega)).trans ((E43 k i (by omega)).trans (E3 k i (by omega))))
    have T8 : TLc s C (LD s C (zD s)) h8 := T5.o (fun k i hk => by simp at hk; exact E85 k i (by omega) (by omega) (by omega) (by omega))
    have e36 := T8.1
    have rE : Run DD j_E_house [.ref 0] h (some (.int (nI (LD s C (zD s)).length))) h8 := by
      have rE : Run 34 j_E_house [.ref 0] h (some (.int (nI (LD s C (zD s)).length))) h8 := by
        refine Run.of rfl ?_
        refine Wp.norm (L' := [_, _]) rfl ?_
        repeat (first | (refine W1 rfl ?_; try refine Wp.norm (L' := [_, _]) rfl ?_) | ((first | change (_ → _) ∧ (_ → _) | change vp_in _ _ ∧ _ | change ¬ _ ∧ _); simp (disch := omega) only [nI_clamp, nI_leI, nI_ltI, nI_eq, nI_1, nI_add, nI_not_neg, nI_is_pos, nI_m1, nI_z]) | refine brT (by first | assumption | decide | omega) ?_ | refine brF (by first | assumption | decide | omega) ?_ | refine brTn (by first | assumption | decide | omega) ?_ | refine brFn (by first | assumption | decide | omega) ?_ | refine And.intro (vp_in_nI (by omega) (by decide)) ?_ | refine And.intro (vp_lit (by decide)) ?_ | refine divJ (by decide) ?_ | refine divI (by decide) ?_)
        try change _ ∧ _
        refine Cl.of r1 (by decide) ?_
        show Wp 34 j_E_house _ _ _ _ _
        repeat (first | (refine W1 rfl ?_; try refine Wp.norm (L' := [_, _]) rfl ?_) | ((first | change (_ → _) ∧ (_ → _) | change vp_in _ _ ∧ _ | change ¬ _ ∧ _); simp (disch := omega) only [nI_clamp, nI_leI, nI_ltI, nI_eq, nI_1, nI_add, nI_not_neg, nI_is_pos, nI_m1, nI_z]) | refine brT (by first | assumption | decide | omega) ?_ | refine brF (by first | assumption | decide | omega) ?_ | refine brTn (by first | assumption | decide | omega) ?_ | refine brFn (by first | assumption | decide | omega) ?_ | refine And.intro (vp_in_nI (by omega) (by decide)) ?_ | refine And.intro (vp_lit (by decide)) ?_ | refine divJ (by decide) ?_ | refine divI (by decide) ?_)
        try change _ ∧ _
        refine Cl.ofA r3 (by first | done | rfl | (simp (disch := omega) only [nI_1, nI_add, nI_clamp, eT] <;> first | done | rfl)) (by decide) ?_
        show Wp 34 j_E_house _ _ _ _ _
        repeat (first | (refine W1 rfl ?_; try refine Wp.norm (L' := [_, _]) rfl ?_) | ((first | change (_ → _) ∧ (_ → _) | change vp_in _ _ ∧ _ | change ¬ _ ∧ _); simp (disch := omega) only [nI_clamp, nI_leI, nI_ltI, nI_eq, nI_1, nI_add, nI_not_neg, nI_is_pos, nI_m1, nI_z]) | refine brT (by first | assumption | decide | omega) ?_ | refine brF (by first | assumption | decide | omega) ?_ | refine brTn (by first | assumption | decide | omega) ?_ | refine brFn (by first | assumption | decide | omega) ?_ | refine And.intro (vp_in_nI (by omega) (by decide)) ?_ | refine And.intro (vp_lit (by decide)) ?_ | refine divJ (by decide) ?_ | refine divI (by decide) ?_)
        try change _ ∧ _
        refine Cl.of r4 (by decide) ?_
        show Wp 34 j_E_house _ _ _ _ _
        repeat (first | (refine W1 rfl ?_; try refine Wp.norm (L' := [_, _]) rfl ?_) | ((first | change (_ → _) ∧ (_ → _) | change vp_in _ _ ∧ _ | change ¬ _ ∧ _); simp (disch := omega) only [nI_clamp, nI_leI, nI_ltI, nI_eq, nI_1, nI_add, nI_not_neg, nI_is_pos, nI_m1, nI_z]) | refine brT (by first | assumption | decide | omega) ?_ | refine brF (by first | assumption | decide | omega) ?_ | refine brTn (by first | assumption | decide | omega) ?_ | refine brFn (by first | assumption | decide | omega) ?_ | refine And.intro (vp_in_nI (by omega) (by decide)) ?_ | refine And.intro (vp_lit (by decide)) ?_ | refine divJ (by decide) ?_ | refine divI (by decide) ?_)
        try change _ ∧ _
        refine Cl.of r5 (by decide) ?_
        show Wp 34 j_E_house _ _ _ _ _
        repeat (first | (refine W1 rfl ?_; try refine Wp.norm (L' := [_, _]) rfl ?_) | ((first | change (_ → _) ∧ (_ → _) | change vp_in _ _ ∧ _ | change ¬ _ ∧ _); simp (disch := omega) only [nI_clamp, nI_leI, nI_ltI, nI_eq, nI_1, nI_add, nI_not_neg, nI_is_pos, nI_m1, nI_z]) | refine brT (by first | assumption | decide | omega) ?_ | refine brF (by first | assumption | decide | omega) ?_ | refine brTn (by first | assumption | decide | omega) ?_ | refine brFn (by first | assumption | decide | omega) ?_ | refine And.intro (vp_in_nI (by omega) (by decide)) ?_ | refine And.intro (vp_lit (by decide)) ?_ | refine divJ (by decide) ?_ | refine divI (by decide) ?_)
        try change _ ∧ _
        refine Cl.of r6 (by decide) ?_
        show Wp 34 j_E_house _ _ _ _ _
        repeat (first | (refine W1 rfl ?_; try refine Wp.norm (L' := [_, _]) rfl ?_) | ((first | change (_ → _) ∧ (_ → _) | change vp_in _ _ ∧ _ | change ¬ _ ∧ _); simp (disch := omega) only [nI_clamp, nI_leI, nI_ltI, nI_eq, nI_1, nI_add, nI_not_neg, nI_is_pos, nI_m1, nI_z]) | refine brT (by first | assumption | decide | omega) ?_ | refine brF (by first | assumption | decide | omega) ?_ | refine brTn (by first | assumption | decide | omega) ?_ | refine brFn (by first | assumption | decide | omega) ?_ | refine And.intro (vp_in_nI (by omega) (by decide)) ?_ | refine And.intro (vp_lit (by decide)) ?_ | refine divJ (by decide) ?_ | refine divI (by decide) ?_)
        try change _ ∧ _
        refine Cl.of r7 (by decide) ?_
        show Wp 34 j_E_house _ _ _ _ _
        repeat (first | (refine W1 rfl ?_; try refine Wp.norm (L' := [_, _]) rfl ?_) | ((first | change (_ → _) ∧ (_ → _) | change vp_in _ _ ∧ _ | change ¬ _ ∧ _); simp (disch := omega) only [nI_clamp, nI_leI, nI_ltI, nI_eq, nI_1, nI_add, nI_not_neg, nI_is_pos, nI_m1, nI_z]) | refine brT (by first | assumption | decide | omega) ?_ | refine brF (by first | assumption | decide | omega) ?_ | refine brTn (by first | assumption | decide | omega) ?_ | refine brFn (by first | assumption | decide | omega) ?_ | refine And.intro (vp_in_nI (by omega) (by decide)) ?_ | refine And.intro (vp_lit (by decide)) ?_ | refine divJ (by decide) ?_ | refine divI (by decide) ?_)
        try change _ ∧ _
        refine Cl.of r8 (by decide) ?_
        show Wp 34 j_E_house _ _ _ _ _
        repeat (first | (refine W1 rfl ?_; try refine Wp.norm (L' := [_, _]) rfl ?_) | ((first | change (_ → _) ∧ (_ → _) | change vp_in _ _ ∧ _ | change ¬ _ ∧ _); simp (disch := omega) only [nI_clamp, nI_leI, nI_ltI, nI_eq, nI_1, nI_add, nI_not_neg, nI_is_pos, nI_m1, nI_z]) | refine brT (by first | assumption | decide | omega) ?_ | refine brF (by first | assumption | decide | omega) ?_ | refine brTn (by first | assumption | decide | omega) ?_ | refine brFn (by first | assumption | decide | omega) ?_ | refine And.intro (vp_in_nI (by omega) (by decide)) ?_ | refine And.intro (vp_lit (by decide)) ?_ | refine divJ (by decide) ?_ | refine divI (by decide) ?_)
        try change _ ∧ _
        exact ⟨congrArg (fun z => some (Value.int z)) e36, rfl⟩
      exact rE.d
    have w8 : WC h8 := w.ch rE.chr
    obtain ⟨v, h9, r9, P9⟩ := m_houseR (h := h8) (by rw [E83 65 1 (by decide) (by decide) (by decide)]; exact hl1) hn (fun k hk => by rw [E83 66 k (by decide) (by decide) (by decide)]; exact hb k hk) w8
    rcases P9 with ⟨_, _, f', p', _, _, _, RO2⟩ | ⟨s', C', RG2, rfl, F9, k7, k8, k68, k74, TM, HMh, HHh⟩
    · exact (RG1.no RO2).elim
    · obtain ⟨rfl, rfl⟩ := RG1.det RG2
      have E9 : ∀ k i, k < 65 → h9.1 k i = h8.1 k i := fun k i hk => F9.1 k i (by omega) (by omega)
      have eB : ∀ i, h9.1 42 i = nI ((fun i => (h9.1 42 i).toBitVec.toNat) i) := fun i => (nI_bv _).symm
      have E95 : ∀ k i, k < 65 → k ≠ 50 → k ≠ 54 → k ≠ 46 → k ≠ 47 → h9.1 k i = h5.1 k i := fun k i z0 z1 z2 z3 z4 => (E9 k i z0).trans (E85 k i z1 z2 z3 z4)
      have E94 : ∀ k i, k < 36 → h9.1 k i = h4.1 k i := fun k i z => (E95 k i (by omega) (by omega) (by omega) (by omega) (by omega)).trans (E54 k i (by omega))
      have OKs : OK (sT s C (LD s C (zD s)) (fun i => (h9.1 42 i).toBitVec.toNat)) := sT_ok hJ hLD (fun t ht => by
        show (h9.1 42 _).toBitVec.toNat = t
        rw [E95 42 _ (by decide) (by decide) (by decide) (by decide) (by decide), (B5 t ht).2]
        exact bv_nI (by omega))
      have RCs : RC (sT s C (LD s C (zD s)) (fun i => (h9.1 42 i).toBitVec.toNat)) (fun _ => -1) (fun _ => -1) h9 := sT_rc D3 hJ h9 (by rw [E94 7 _ (by decide), E94 7 _ (by decide), E94 7 _ (by decide), E94 7 _ (by decide), E94 7 _ (by decide)]; exact a7) (fun i hi => by rw [E94 8 _ (by decide), E94 9 _ (by decide), E94 10 _ (by decide), E94 11 _ (by decide), E94 12 _ (by decide), E94 13 _ (by decide)]; exact a8 i hi) (fun i hi => by rw [E94 14 _ (by decide), E94 15 _ (by decide)]; exact a14 i hi) (fun i hi => by rw [E94 16 _ (by decide)]; exact a16 i hi) (T8.o (fun k i hk => E9 k i (by simp at hk; omega))) (fun d hd => by rw [E95 44 _ (by decide) (by decide) (by decide) (by decide) (by decide)]; exact e44 d hd) (fun q hq => by rw [E95 43 _ (by decide) (by decide) (by decide) (by decide) (by decide)]; exact e43 q hq) (fun u hu => by rw [E95 41 _ (by decide) (by decide) (by decide) (by decide) (by decide)]; exact (B5 u hu).1) (fun i hi => by rw [E9 46 _ (by decide), E9 47 _ (by decide), E86 46 _ (by decide) (by decide), E86 47 _ (by decide) (by decide)]; exact A6 i hi) hLD eB
      refine ⟨nI (LD s C (zD s)).length, h8, h9, rE, Run.d (d := 11) r9, ⟨TP.z ?_ F9.2.2, ?_, _, _, _, RCs, sT_rm TM HMh HHh, OKs, fun t ht => Or.inl ⟨rfl, rfl⟩⟩, w8.ch r9.chr⟩
      · rw [E94 1 1 (by decide), E43 1 1 (by decide)]; exact e11
      · obtain ⟨m1, m2, m3, m4, m5, q, hq, m6, m7, m8⟩ := m
        refine ⟨?_, ?_, ?_, fun _ => ⟨?_, ?_⟩, fun z => absurd k68 z, q, hq, ?_, ?_, fun i hi => ?_⟩
        · rw [E9 54 8 (by decide), k74, ← h8e]; rfl
        · rw [E94 17 6 (by decide), E43 17 6 (by decide), k7]; exact e6
        · rw [E94 17 7 (by decide), E43 17 7 (by decide), k8]; exact e7
        · rw [E9 50 6 (by decide), ← h8e]; rfl
        · rw [E9 50 7 (by decide), ← h8e]; rfl
        · rw [E94 0 11 (by decide), E43 0 11 (by decide), OA.1 0 11 (by decide)]; exact m6
        · rw [F9.2.1 80 (by decide) (by decide) (by decide) (by decide), E83 65 80 (by decide) (by decide) (by decide)]; exact m7
        · rw [E9 64 i (by decide), E83 64 i (by decide) (by decide) (by decide), F9.1 120 i (by decide) (by decide), E83 120 i (by decide) (by decide) (by decide)]; exact m8 i hi
end HOP
