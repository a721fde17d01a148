/-! ===== THE CLASS READS STATEMENTS: tested ones ===== -/
section CSTQ
variable {b : Nat → Nat} {n : Nat} {s : ST} {C : List Nat} {h h' : HP}
theorem f_test {f p : Nat} (x : Int32) (X : CF b n f p h) : Run 1 j_Reader_readTest [.ref 17, .int x] h none h := by
  have hne := X.ne
  refine Run.of rfl ?_
  refine Wp.norm (L' := [_, _, _, _, _]) rfl ?_
  repeat (first | (refine W1 rfl ?_; try refine Wp.norm (L' := [_, _, _, _, _]) rfl ?_) | ((first | change (_ → _) ∧ (_ → _) | change vp_in _ _ ∧ _ | change ¬ _ ∧ _); simp (disch := omega) only [nI_clamp, nI_leI, nI_ltI, nI_eq, nI_1, nI_add, nI_not_neg, nI_is_pos, nI_m1, nI_z]) | refine brT (by first | assumption | decide | omega) ?_ | refine brF (by first | assumption | decide | omega) ?_ | refine brTn (by first | assumption | decide | omega) ?_ | refine brFn (by first | assumption | decide | omega) ?_ | refine And.intro (vp_in_nI (by omega) (by decide)) ?_ | refine And.intro (vp_lit (by decide)) ?_ | refine divJ (by decide) ?_ | refine divI (by decide) ?_)
  try change _ ∧ _
  try first | exact ⟨rfl, rfl⟩ | exact ⟨Or.inr rfl, rfl, rfl⟩ | exact ⟨Or.inl rfl, rfl, rfl⟩ | exact ⟨trivial, trivial⟩ | exact ⟨rfl, trivial⟩ | exact ⟨Or.inr rfl, rfl, trivial⟩ | exact ⟨Or.inl rfl, rfl, trivial⟩
def clW (h : HP) (X : Nat) (x y k : Int32) : HP := wI (wI (wI (wI h 30 X x) 31 X y) 32 X k) 28 2 (nI (X + 1))
theorem r_close {X : Nat} (hX : X < 60) (e : h.1 28 2 = nI X) (x y : Int32) : Run 0 j_Tests_close [.ref 28, .int x, .int y] h none (clW h X x y (h.1 28 1)) := by
  refine Run.of rfl ?_
  refine Wp.norm (L' := [_, _, _]) rfl ?_
  repeat (first | (refine W1 rfl ?_; try refine Wp.norm (L' := [_, _, _]) rfl ?_) | ((first | change (_ → _) ∧ (_ → _) | change vp_in _ _ ∧ _ | change ¬ _ ∧ _); simp (disch := omega) only [nI_clamp, nI_leI, nI_ltI, nI_eq, nI_1, nI_add, nI_not_neg, nI_is_pos, nI_m1, nI_z, e, wI_ne, show (60 : Int32) = nI 60 from rfl]) | refine brT (by first | assumption | decide | omega) ?_ | refine brF (by first | assumption | decide | omega) ?_ | refine brTn (by first | assumption | decide | omega) ?_ | refine brFn (by first | assumption | decide | omega) ?_ | refine And.intro (vp_in_nI (by omega) (by decide)) ?_ | refine And.intro (vp_lit (by decide)) ?_ | refine divJ (by decide) ?_ | refine divI (by decide) ?_)
  try change _ ∧ _
  simp (disch := omega) only [e, wI_ne, nI_clamp, nI_1, nI_add]
  exact ⟨trivial, rfl⟩
theorem DC.cls {k r : Nat} (D : DC s h) (hr : r = zO s) (h1 : oS s r = 1 ∨ (oA s r ≠ 99)) : DC (clo s k) (clW h (s 0 7) (if oS s r = 1 then -1 else nI (oA s r)) (nI (if oS s r = 1 then oA s r else oB s r)) (nI k)) := by
  subst hr
  obtain ⟨⟨d1, d2, d3, d4, d5, d6⟩, d7, d8, d9, d10, d11⟩ := D
  refine ⟨⟨d1, d2, d3, d4, d5, rfl⟩, d7, d8, d9, d10, fun x hx => ?_⟩
  have hx : x < s 0 7 + 1 := hx
  unfold clW
  by_cases e : x = s 0 7
  · subst e
    by_cases c : oS s (zO s) = 1
    · simp [wI, va_up, upd, clo, sU, c]
    · have := h1.resolve_left c
      simp [wI, va_up, upd, clo, sU, c, this]
  · have := d11 x (by omega)
    simp [wI, va_up, upd, clo, sU, e]
    exact this
/-- what a tested statement comes to, ahead of its last sign -/
def TD (b : Nat → Nat) (n i : Nat) (C : List Nat) (s : ST) (q : Nat) (h' : HP) : Prop := (∃ i' C' s', CS b n i' s' C' (q + 1) h' ∧ C'.length ≤ i' ∧ i < i' ∧ ∃ s1, s' = clo s1 C'.length ∧ zO s' = q + 1 ∧ qGo b n (7, i, [], 0, C, s) (6, i', [], 0, C', s1)) ∨ (∃ f p, CF b n f p h' ∧ qGo b n (7, i, [], 0, C, s) (flt f p))
theorem c_turn {i q : Nat} (X : CS b n i s C q h) (hi : ps b n i < n) (hq : q = zO s) (hl : C.length ≤ i) (hw : owV b n i = 7) : ∃ h', Run 31 j_Reader_readTested [.ref 17, .int 0] h none h' ∧ onlyJ rdL [] h h' ∧ TD b n i C s q h' := by
  have hG := X.G
  have hO := hG.1.2.2.2.1
  have hP := hG.1.1
  have hK := hG.1.2.1
  have hts : tS b n i ≠ 0 := fun z => by
    have := ps_of (b := b) (n := n) (i := i) (fun y => by rw [tS_ow (by omega)] at hw; omega)
    rw [tS_0] at z
    omega
  subst hq
  have q7' : qst b n (7, i, [], 0, C, s) = fin (foT b n s i) (3, i + 3, [], 0, C, sU (adO s 1 (kfi b n s (i + 1)) 0 0) 26 (zO s) C.length) := by
    rw [q7]
    unfold qS
    simp only [hts, hw, if_false, if_true, reduceIte, Nat.reduceEqDiff]
  obtain ⟨h0, r0, O0, X0⟩ := c_beginOther X hi (by omega)
  generalize ho0 : ckC b n (zO s) 60 i = o0 at X0
  obtain ⟨w1, h1, r1, O1, X1, e1⟩ := c_knownKind X0
  generalize ho1 : ch o0 (ckK b n s (i + 1)) = o1 at X1 e1
  obtain ⟨h2, r2, O2, X2⟩ := c_expectOwn (w := 8) X1 (by decide)
  generalize ho2 : ch o1 (ckO b n (i + 2) 8) = o2 at X2
  have OO := (O0.trans O1).trans O2
  have hfo : foT b n s i = o2 := by unfold foT; rw [ho0, ho1, ho2]
  rw [hfo] at q7'
  cases o2 with
  | some e =>
    obtain ⟨f, p⟩ := e
    have X2 : CF b n f p h2 := X2
    have hne := X2.ne
    refine ⟨h2, ?_, OO, Or.inr ⟨f, p, X2, qGo.one q7'⟩⟩
    show Run 31 j_Reader_readTested _ _ _ _
    refine Run.of rfl ?_
    refine Wp.norm (L' := [_, _, _, _]) rfl ?_
    repeat (first | (refine W1 rfl ?_; try refine Wp.norm (L' := [_, _, _, _]) rfl ?_) | ((first | change (_ → _) ∧ (_ → _) | change vp_in _ _ ∧ _ | change ¬ _ ∧ _); simp (disch := omega) only [nI_clamp, nI_leI, nI_ltI, nI_eq, nI_1, nI_add, nI_not_neg, nI_is_pos, nI_m1, nI_z]) | refine brT (by first | assumption | decide | omega) ?_ | refine brF (by first | assumption | decide | omega) ?_ | refine brTn (by first | assumption | decide | omega) ?_ | refine brFn (by first | assumption | decide | omega) ?_ | refine And.intro (vp_in_nI (by omega) (by decide)) ?_ | refine And.intro (vp_lit (by decide)) ?_ | refine divJ (by decide) ?_ | refine divI (by decide) ?_)
    try change _ ∧ _
    refine Cl.of r0 (by decide) ?_
    repeat (first | (refine W1 rfl ?_; try refine Wp.norm (L' := [_, _, _, _]) rfl ?_) | ((first | change (_ → _) ∧ (_ → _) | change vp_in _ _ ∧ _ | change ¬ _ ∧ _); simp (disch := omega) only [nI_clamp, nI_leI, nI_ltI, nI_eq, nI_1, nI_add, nI_not_neg, nI_is_pos, nI_m1, nI_z]) | refine brT (by first | assumption | decide | omega) ?_ | refine brF (by first | assumption | decide | omega) ?_ | refine brTn (by first | assumption | decide | omega) ?_ | refine brFn (by first | assumption | decide | omega) ?_ | refine And.intro (vp_in_nI (by omega) (by decide)) ?_ | refine And.intro (vp_lit (by decide)) ?_ | refine divJ (by decide) ?_ | refine divI (by decide) ?_)
    try change _ ∧ _
    refine Cl.of r1 (by decide) ?_
    repeat (first | (refine W1 rfl ?_; try refine Wp.norm (L' := [_, _, _, _]) rfl ?_) | ((first | change (_ → _) ∧ (_ → _) | change vp_in _ _ ∧ _ | change ¬ _ ∧ _); simp (disch := omega) only [nI_clamp, nI_leI, nI_ltI, nI_eq, nI_1, nI_add, nI_not_neg, nI_is_pos, nI_m1, nI_z]) | refine brT (by first | assumption | decide | omega) ?_ | refine brF (by first | assumption | decide | omega) ?_ | refine brTn (by first | assumption | decide | omega) ?_ | refine brFn (by first | assumption | decide | omega) ?_ | refine And.intro (vp_in_nI (by omega) (by decide)) ?_ | refine And.intro (vp_lit (by decide)) ?_ | refine divJ (by decide) ?_ | refine divI (by decide) ?_)
    try change _ ∧ _
    refine Cl.of r2 (by decide) ?_
    repeat (first | (refine W1 rfl ?_; try refine Wp.norm (L' := [_, _, _, _]) rfl ?_) | ((first | change (_ → _) ∧ (_ → _) | change vp_in _ _ ∧ _ | change ¬ _ ∧ _); simp (disch := omega) only [nI_clamp, nI_leI, nI_ltI, nI_eq, nI_1, nI_add, nI_not_neg, nI_is_pos, nI_m1, nI_z]) | refine brT (by first | assumption | decide | omega) ?_ | refine brF (by first | assumption | decide | omega) ?_ | refine brTn (by first | assumption | decide | omega) ?_ | refine brFn (by first | assumption | decide | omega) ?_ | refine And.intro (vp_in_nI (by omega) (by decide)) ?_ | refine And.intro (vp_lit (by decide)) ?_ | refine divJ (by decide) ?_ | refine divI (by decide) ?_)
    try change _ ∧ _
    refine Cl.of (f_test _ X2) (by decide) ?_
    repeat (first | (refine W1 rfl ?_; try refine Wp.norm (L' := [_, _, _, _]) rfl ?_) | ((first | change (_ → _) ∧ (_ → _) | change vp_in _ _ ∧ _ | change ¬ _ ∧ _); simp (disch := omega) only [nI_clamp, nI_leI, nI_ltI, nI_eq, nI_1, nI_add, nI_not_neg, nI_is_pos, nI_m1, nI_z]) | refine brT (by first | assumption | decide | omega) ?_ | refine brF (by first | assumption | decide | omega) ?_ | refine brTn (by first | assumption | decide | omega) ?_ | refine brFn (by first | assumption | decide | omega) ?_ | refine And.intro (vp_in_nI (by omega) (by decide)) ?_ | refine And.intro (vp_lit (by decide)) ?_ | refine divJ (by decide) ?_ | refine divI (by decide) ?_)
    try change _ ∧ _
    try first | exact ⟨rfl, rfl⟩ | exact ⟨Or.inr rfl, rfl, rfl⟩ | exact ⟨Or.inl rfl, rfl, rfl⟩ | exact ⟨trivial, trivial⟩ | exact ⟨rfl, trivial⟩ | exact ⟨Or.inr rfl, rfl, trivial⟩ | exact ⟨Or.inl rfl, rfl, trivial⟩
  | none =>
    have X2 : CS b n (i + 3) s C (zO s + 1) h2 := X2
    have z1 := ch_none1 ho2
    have z0 := ch_none1 (ho1.trans z1)
    have q0 := ckC_n (ho0.trans z0)
    obtain ⟨k1, l1⟩ := e1 z1
    subst k1
    have X2' : CS b n (i + 3) (sU (adO s 1 (kfi b n s (i + 1)) 0 0) 26 (zO s) C.length) C (zO s + 1) h2 := by
      obtain ⟨k, hi, a1, D, c, g, hb⟩ := X2
      exact ⟨k, hi, a1, D, c, g, hb⟩
    obtain ⟨h3, r3, O3, T3⟩ := (c_tests (zO s + 1) 6 0 rfl).2 h2 (i + 3) C X2' (by omega)
    rcases T3 with ⟨i', C', Y, hii, hll, ⟨hA, hR⟩, go⟩ | ⟨f, p, Y, go⟩
    · have f3 := Y.f0
      have e3 := Y.D.1.2.2.2.2.2
      have e3' : h3.1 28 2 = nI (s 0 7) := e3
      have c3 := Y.cc.2.1
      have h7 := hG.1.2.2.2.2.1
      have rc := r_close (h := h3) (X := s 0 7) (by omega) e3' (-1) (nI (kfi b n s (i + 1)))
      refine ⟨clW h3 (s 0 7) (-1) (nI (kfi b n s (i + 1))) (h3.1 28 1), ?_, (((((OO.trans O3).addI (by decide)).addI (by decide)).addI (by decide)).addI (by decide)), Or.inl ⟨i', C', clo (sU (adO s 1 (kfi b n s (i + 1)) 0 0) 26 (zO s) C.length) C'.length, ?_, by omega, by omega, _, rfl, ?_, (qGo.one q7').trans ((go [] (Or.inl rfl)).trans (qGo.one (qF_n hA hR)))⟩⟩
      · show Run 31 j_Reader_readTested _ _ _ _
        refine Run.of rfl ?_
        refine Wp.norm (L' := [_, _, _, _]) rfl ?_
        repeat (first | (refine W1 rfl ?_; try refine Wp.norm (L' := [_, _, _, _]) rfl ?_) | ((first | change (_ → _) ∧ (_ → _) | change vp_in _ _ ∧ _ | change ¬ _ ∧ _); simp (disch := omega) only [nI_clamp, nI_leI, nI_ltI, nI_eq, nI_1, nI_add, nI_not_neg, nI_is_pos, nI_m1, nI_z]) | refine brT (by first | assumption | decide | omega) ?_ | refine brF (by first | assumption | decide | omega) ?_ | refine brTn (by first | assumption | decide | omega) ?_ | refine brFn (by first | assumption | decide | omega) ?_ | refine And.intro (vp_in_nI (by omega) (by decide)) ?_ | refine And.intro (vp_lit (by decide)) ?_ | refine divJ (by decide) ?_ | refine divI (by decide) ?_)
        try change _ ∧ _
        refine Cl.of r0 (by decide) ?_
        repeat (first | (refine W1 rfl ?_; try refine Wp.norm (L' := [_, _, _, _]) rfl ?_) | ((first | change (_ → _) ∧ (_ → _) | change vp_in _ _ ∧ _ | change ¬ _ ∧ _); simp (disch := omega) only [nI_clamp, nI_leI, nI_ltI, nI_eq, nI_1, nI_add, nI_not_neg, nI_is_pos, nI_m1, nI_z]) | refine brT (by first | assumption | decide | omega) ?_ | refine brF (by first | assumption | decide | omega) ?_ | refine brTn (by first | assumption | decide | omega) ?_ | refine brFn (by first | assumption | decide | omega) ?_ | refine And.intro (vp_in_nI (by omega) (by decide)) ?_ | refine And.intro (vp_lit (by decide)) ?_ | refine divJ (by decide) ?_ | refine divI (by decide) ?_)
        try change _ ∧ _
        refine Cl.of r1 (by decide) ?_
        repeat (first | (refine W1 rfl ?_; try refine Wp.norm (L' := [_, _, _, _]) rfl ?_) | ((first | change (_ → _) ∧ (_ → _) | change vp_in _ _ ∧ _ | change ¬ _ ∧ _); simp (disch := omega) only [nI_clamp, nI_leI, nI_ltI, nI_eq, nI_1, nI_add, nI_not_neg, nI_is_pos, nI_m1, nI_z]) | refine brT (by first | assumption | decide | omega) ?_ | refine brF (by first | assumption | decide | omega) ?_ | refine brTn (by first | assumption | decide | omega) ?_ | refine brFn (by first | assumption | decide | omega) ?_ | refine And.intro (vp_in_nI (by omega) (by decide)) ?_ | refine And.intro (vp_lit (by decide)) ?_ | refine divJ (by decide) ?_ | refine divI (by decide) ?_)
        try change _ ∧ _
        refine Cl.of r2 (by decide) ?_
        repeat (first | (refine W1 rfl ?_; try refine Wp.norm (L' := [_, _, _, _]) rfl ?_) | ((first | change (_ → _) ∧ (_ → _) | change vp_in _ _ ∧ _ | change ¬ _ ∧ _); simp (disch := omega) only [nI_clamp, nI_leI, nI_ltI, nI_eq, nI_1, nI_add, nI_not_neg, nI_is_pos, nI_m1, nI_z]) | refine brT (by first | assumption | decide | omega) ?_ | refine brF (by first | assumption | decide | omega) ?_ | refine brTn (by first | assumption | decide | omega) ?_ | refine brFn (by first | assumption | decide | omega) ?_ | refine And.intro (vp_in_nI (by omega) (by decide)) ?_ | refine And.intro (vp_lit (by decide)) ?_ | refine divJ (by decide) ?_ | refine divI (by decide) ?_)
        try change _ ∧ _
        refine Cl.of r3 (by decide) ?_
        repeat (first | (refine W1 rfl ?_; try refine Wp.norm (L' := [_, _, _, _]) rfl ?_) | ((first | change (_ → _) ∧ (_ → _) | change vp_in _ _ ∧ _ | change ¬ _ ∧ _); simp (disch := omega) only [nI_clamp, nI_leI, nI_ltI, nI_eq, nI_1, nI_add, nI_not_neg, nI_is_pos, nI_m1, nI_z, f3]) | refine brT (by first | assumption | decide | omega) ?_ | refine brF (by first | assumption | decide | omega) ?_ | refine brTn (by first | assumption | decide | omega) ?_ | refine brFn (by first | assumption | decide | omega) ?_ | refine And.intro (vp_in_nI (by omega) (by decide)) ?_ | refine And.intro (vp_lit (by decide)) ?_ | refine divJ (by decide) ?_ | refine divI (by decide) ?_)
        try change _ ∧ _
        refine Cl.of rc (by decide) ?_
        repeat (first | (refine W1 rfl ?_; try refine Wp.norm (L' := [_, _, _, _]) rfl ?_) | ((first | change (_ → _) ∧ (_ → _) | change vp_in _ _ ∧ _ | change ¬ _ ∧ _); simp (disch := omega) only [nI_clamp, nI_leI, nI_ltI, nI_eq, nI_1, nI_add, nI_not_neg, nI_is_pos, nI_m1, nI_z]) | refine brT (by first | assumption | decide | omega) ?_ | refine brF (by first | assumption | decide | omega) ?_ | refine brTn (by first | assumption | decide | omega) ?_ | refine brFn (by first | assumption | decide | omega) ?_ | refine And.intro (vp_in_nI (by omega) (by decide)) ?_ | refine And.intro (vp_lit (by decide)) ?_ | refine divJ (by decide) ?_ | refine divI (by decide) ?_)
        try change _ ∧ _
        try first | exact ⟨rfl, rfl⟩ | exact ⟨Or.inr rfl, rfl, rfl⟩ | exact ⟨Or.inl rfl, rfl, rfl⟩ | exact ⟨trivial, trivial⟩ | exact ⟨rfl, trivial⟩ | exact ⟨Or.inr rfl, rfl, trivial⟩ | exact ⟨Or.inl rfl, rfl, trivial⟩
      · obtain ⟨k, hi, a1, D, c, g, hb⟩ := Y
        rw [c3]
        have D2 := DC.cls (k := C'.length) D rfl (by simp [adO, sU])
        refine ⟨(((k.w (by decide)).w (by decide)).w (by decide)).w (by decide), hi, a1, ?_, c, ?_, hb⟩
        · have eq : (clW h3 (s 0 7) (-1) (nI (kfi b n s (i + 1))) (nI C'.length)) = _ := rfl
          have D3 := D2
          simp [adO, sU] at D3
          exact D3
        · obtain ⟨⟨d1, d2, d3, d4, d5, d6, d7⟩, d8⟩ := g
          refine ⟨⟨d1, d2, d3, q0, ?_, d6, d7⟩, d8⟩
          show s 0 7 + 1 ≤ zO s + 1
          omega
      · rfl
    · have hne := Y.ne
      refine ⟨h3, ?_, OO.trans O3, Or.inr ⟨f, p, Y, (qGo.one q7').trans (go [] (Or.inl rfl))⟩⟩
      show Run 31 j_Reader_readTested _ _ _ _
      refine Run.of rfl ?_
      refine Wp.norm (L' := [_, _, _, _]) rfl ?_
      repeat (first | (refine W1 rfl ?_; try refine Wp.norm (L' := [_, _, _, _]) rfl ?_) | ((first | change (_ → _) ∧ (_ → _) | change vp_in _ _ ∧ _ | change ¬ _ ∧ _); simp (disch := omega) only [nI_clamp, nI_leI, nI_ltI, nI_eq, nI_1, nI_add, nI_not_neg, nI_is_pos, nI_m1, nI_z]) | refine brT (by first | assumption | decide | omega) ?_ | refine brF (by first | assumption | decide | omega) ?_ | refine brTn (by first | assumption | decide | omega) ?_ | refine brFn (by first | assumption | decide | omega) ?_ | refine And.intro (vp_in_nI (by omega) (by decide)) ?_ | refine And.intro (vp_lit (by decide)) ?_ | refine divJ (by decide) ?_ | refine divI (by decide) ?_)
      try change _ ∧ _
      refine Cl.of r0 (by decide) ?_
      repeat (first | (refine W1 rfl ?_; try refine Wp.norm (L' := [_, _, _, _]) rfl ?_) | ((first | change (_ → _) ∧ (_ → _) | change vp_in _ _ ∧ _ | change ¬ _ ∧ _); simp (disch := omega) only [nI_clamp, nI_leI, nI_ltI, nI_eq, nI_1, nI_add, nI_not_neg, nI_is_pos, nI_m1, nI_z]) | refine brT (by first | assumption | decide | omega) ?_ | refine brF (by first | assumption | decide | omega) ?_ | refine brTn (by first | assumption | decide | omega) ?_ | refine brFn (by first | assumption | decide | omega) ?_ | refine And.intro (vp_in_nI (by omega) (by decide)) ?_ | refine And.intro (vp_lit (by decide)) ?_ | refine divJ (by decide) ?_ | refine divI (by decide) ?_)
      try change _ ∧ _
      refine Cl.of r1 (by decide) ?_
      repeat (first | (refine W1 rfl ?_; try refine Wp.norm (L' := [_, _, _, _]) rfl ?_) | ((first | change (_ → _) ∧ (_ → _) | change vp_in _ _ ∧ _ | change ¬ _ ∧ _); simp (disch := omega) only [nI_clamp, nI_leI, nI_ltI, nI_eq, nI_1, nI_add, nI_not_neg, nI_is_pos, nI_m1, nI_z]) | refine brT (by first | assumption | decide | omega) ?_ | refine brF (by first | assumption | decide | omega) ?_ | refine brTn (by first | assumption | decide | omega) ?_ | refine brFn (by first | assumption | decide | omega) ?_ | refine And.intro (vp_in_nI (by omega) (by decide)) ?_ | refine And.intro (vp_lit (by decide)) ?_ | refine divJ (by decide) ?_ | refine divI (by decide) ?_)
      try change _ ∧ _
      refine Cl.of r2 (by decide) ?_
      repeat (first | (refine W1 rfl ?_; try refine Wp.norm (L' := [_, _, _, _]) rfl ?_) | ((first | change (_ → _) ∧ (_ → _) | change vp_in _ _ ∧ _ | change ¬ _ ∧ _); simp (disch := omega) only [nI_clamp, nI_leI, nI_ltI, nI_eq, nI_1, nI_add, nI_not_neg, nI_is_pos, nI_m1, nI_z]) | refine brT (by first | assumption | decide | omega) ?_ | refine brF (by first | assumption | decide | omega) ?_ | refine brTn (by first | assumption | decide | omega) ?_ | refine brFn (by first | assumption | decide | omega) ?_ | refine And.intro (vp_in_nI (by omega) (by decide)) ?_ | refine And.intro (vp_lit (by decide)) ?_ | refine divJ (by decide) ?_ | refine divI (by decide) ?_)
      try change _ ∧ _
      refine Cl.of r3 (by decide) ?_
      repeat (first | (refine W1 rfl ?_; try refine Wp.norm (L' := [_, _, _, _]) rfl ?_) | ((first | change (_ → _) ∧ (_ → _) | change vp_in _ _ ∧ _ | change ¬ _ ∧ _); simp (disch := omega) only [nI_clamp, nI_leI, nI_ltI, nI_eq, nI_1, nI_add, nI_not_neg, nI_is_pos, nI_m1, nI_z]) | refine brT (by first | assumption | decide | omega) ?_ | refine brF (by first | assumption | decide | omega) ?_ | refine brTn (by first | assumption | decide | omega) ?_ | refine brFn (by first | assumption | decide | omega) ?_ | refine And.intro (vp_in_nI (by omega) (by decide)) ?_ | refine And.intro (vp_lit (by decide)) ?_ | refine divJ (by decide) ?_ | refine divI (by decide) ?_)
      try change _ ∧ _
      try first | exact ⟨rfl, rfl⟩ | exact ⟨Or.inr rfl, rfl, rfl⟩ | exact ⟨Or.inl rfl, rfl, rfl⟩ | exact ⟨trivial, trivial⟩ | exact ⟨rfl, trivial⟩ | exact ⟨Or.inr rfl, rfl, trivial⟩ | exact ⟨Or.inl rfl, rfl, trivial⟩
theorem c_never {i q : Nat} (X : CS b n i s C q h) (hi : ps b n i < n) (hq : q = zO s) (hl : C.length ≤ i) (hw : owV b n i = 9) : ∃ h', Run 31 j_Reader_readTested [.ref 17, .int 1] h none h' ∧ onlyJ rdL [] h h' ∧ TD b n i C s q h' := by
  have hG := X.G
  have hO := hG.1.2.2.2.1
  have hP := hG.1.1
  have hK := hG.1.2.1
  have hts : tS b n i ≠ 0 := fun z => by
    have := ps_of (b := b) (n := n) (i := i) (fun y => by rw [tS_ow (by omega)] at hw; omega)
    rw [tS_0] at z
    omega
  subst hq
  have q7' : qst b n (7, i, [], 0, C, s) = fin (foV b n s i) (3, i + 4, [], 0, C, sU (adO s 2 (pfi s b n (i + 1)) (kfi b n s (i + 2)) 0) 26 (zO s) C.length) := by
    rw [q7]
    unfold qS
    simp only [hts, hw, if_false, if_true, reduceIte, Nat.reduceEqDiff]
  obtain ⟨h0, r0, O0, X0⟩ := c_beginOther X hi (by omega)
  generalize ho0 : ckC b n (zO s) 60 i = o0 at X0
  obtain ⟨w5, h5, r5, O5, X5, e5⟩ := c_knownPerson (but := 99) (x := -1) X0 (fun _ => Or.inl ⟨rfl, rfl⟩)
  generalize ho5 : ch o0 (ckP b n s (i + 1) 99) = o5 at X5 e5
  obtain ⟨w1, h1, r1, O1, X1, e1⟩ := c_knownKind X5
  generalize ho1 : ch o5 (ckK b n s (i + 2)) = o1 at X1 e1
  have e1 : o1 = none → w1 = nI (kfi b n s (i + 2)) ∧ kfi b n s (i + 2) < zK s := e1
  obtain ⟨h2, r2, O2, X2⟩ := c_expectOwn (w := 8) X1 (by decide)
  generalize ho2 : ch o1 (ckO b n (i + 3) 8) = o2 at X2
  have OO := ((O0.trans O5).trans O1).trans O2
  have hfo : foV b n s i = o2 := by unfold foV; rw [ho0, ho5, ho1, ho2]
  rw [hfo] at q7'
  cases o2 with
  | some e =>
    obtain ⟨f, p⟩ := e
    have X2 : CF b n f p h2 := X2
    have hne := X2.ne
    refine ⟨h2, ?_, OO, Or.inr ⟨f, p, X2, qGo.one q7'⟩⟩
    show Run 31 j_Reader_readTested _ _ _ _
    refine Run.of rfl ?_
    refine Wp.norm (L' := [_, _, _, _]) rfl ?_
    repeat (first | (refine W1 rfl ?_; try refine Wp.norm (L' := [_, _, _, _]) rfl ?_) | ((first | change (_ → _) ∧ (_ → _) | change vp_in _ _ ∧ _ | change ¬ _ ∧ _); simp (disch := omega) only [nI_clamp, nI_leI, nI_ltI, nI_eq, nI_1, nI_add, nI_not_neg, nI_is_pos, nI_m1, nI_z]) | refine brT (by first | assumption | decide | omega) ?_ | refine brF (by first | assumption | decide | omega) ?_ | refine brTn (by first | assumption | decide | omega) ?_ | refine brFn (by first | assumption | decide | omega) ?_ | refine And.intro (vp_in_nI (by omega) (by decide)) ?_ | refine And.intro (vp_lit (by decide)) ?_ | refine divJ (by decide) ?_ | refine divI (by decide) ?_)
    try change _ ∧ _
    refine Cl.of r0 (by decide) ?_
    repeat (first | (refine W1 rfl ?_; try refine Wp.norm (L' := [_, _, _, _]) rfl ?_) | ((first | change (_ → _) ∧ (_ → _) | change vp_in _ _ ∧ _ | change ¬ _ ∧ _); simp (disch := omega) only [nI_clamp, nI_leI, nI_ltI, nI_eq, nI_1, nI_add, nI_not_neg, nI_is_pos, nI_m1, nI_z]) | refine brT (by first | assumption | decide | omega) ?_ | refine brF (by first | assumption | decide | omega) ?_ | refine brTn (by first | assumption | decide | omega) ?_ | refine brFn (by first | assumption | decide | omega) ?_ | refine And.intro (vp_in_nI (by omega) (by decide)) ?_ | refine And.intro (vp_lit (by decide)) ?_ | refine divJ (by decide) ?_ | refine divI (by decide) ?_)
    try change _ ∧ _
    refine Cl.of r5 (by decide) ?_
    repeat (first | (refine W1 rfl ?_; try refine Wp.norm (L' := [_, _, _, _]) rfl ?_) | ((first | change (_ → _) ∧ (_ → _) | change vp_in _ _ ∧ _ | change ¬ _ ∧ _); simp (disch := omega) only [nI_clamp, nI_leI, nI_ltI, nI_eq, nI_1, nI_add, nI_not_neg, nI_is_pos, nI_m1, nI_z]) | refine brT (by first | assumption | decide | omega) ?_ | refine brF (by first | assumption | decide | omega) ?_ | refine brTn (by first | assumption | decide | omega) ?_ | refine brFn (by first | assumption | decide | omega) ?_ | refine And.intro (vp_in_nI (by omega) (by decide)) ?_ | refine And.intro (vp_lit (by decide)) ?_ | refine divJ (by decide) ?_ | refine divI (by decide) ?_)
    try change _ ∧ _
    refine Cl.of r1 (by decide) ?_
    repeat (first | (refine W1 rfl ?_; try refine Wp.norm (L' := [_, _, _, _]) rfl ?_) | ((first | change (_ → _) ∧ (_ → _) | change vp_in _ _ ∧ _ | change ¬ _ ∧ _); simp (disch := omega) only [nI_clamp, nI_leI, nI_ltI, nI_eq, nI_1, nI_add, nI_not_neg, nI_is_pos, nI_m1, nI_z]) | refine brT (by first | assumption | decide | omega) ?_ | refine brF (by first | assumption | decide | omega) ?_ | refine brTn (by first | assumption | decide | omega) ?_ | refine brFn (by first | assumption | decide | omega) ?_ | refine And.intro (vp_in_nI (by omega) (by decide)) ?_ | refine And.intro (vp_lit (by decide)) ?_ | refine divJ (by decide) ?_ | refine divI (by decide) ?_)
    try change _ ∧ _
    refine Cl.of r2 (by decide) ?_
    repeat (first | (refine W1 rfl ?_; try refine Wp.norm (L' := [_, _, _, _]) rfl ?_) | ((first | change (_ → _) ∧ (_ → _) | change vp_in _ _ ∧ _ | change ¬ _ ∧ _); simp (disch := omega) only [nI_clamp, nI_leI, nI_ltI, nI_eq, nI_1, nI_add, nI_not_neg, nI_is_pos, nI_m1, nI_z]) | refine brT (by first | assumption | decide | omega) ?_ | refine brF (by first | assumption | decide | omega) ?_ | refine brTn (by first | assumption | decide | omega) ?_ | refine brFn (by first | assumption | decide | omega) ?_ | refine And.intro (vp_in_nI (by omega) (by decide)) ?_ | refine And.intro (vp_lit (by decide)) ?_ | refine divJ (by decide) ?_ | refine divI (by decide) ?_)
    try change _ ∧ _
    refine Cl.of (f_test _ X2) (by decide) ?_
    repeat (first | (refine W1 rfl ?_; try refine Wp.norm (L' := [_, _, _, _]) rfl ?_) | ((first | change (_ → _) ∧ (_ → _) | change vp_in _ _ ∧ _ | change ¬ _ ∧ _); simp (disch := omega) only [nI_clamp, nI_leI, nI_ltI, nI_eq, nI_1, nI_add, nI_not_neg, nI_is_pos, nI_m1, nI_z]) | refine brT (by first | assumption | decide | omega) ?_ | refine brF (by first | assumption | decide | omega) ?_ | refine brTn (by first | assumption | decide | omega) ?_ | refine brFn (by first | assumption | decide | omega) ?_ | refine And.intro (vp_in_nI (by omega) (by decide)) ?_ | refine And.intro (vp_lit (by decide)) ?_ | refine divJ (by decide) ?_ | refine divI (by decide) ?_)
    try change _ ∧ _
    try first | exact ⟨rfl, rfl⟩ | exact ⟨Or.inr rfl, rfl, rfl⟩ | exact ⟨Or.inl rfl, rfl, rfl⟩ | exact ⟨trivial, trivial⟩ | exact ⟨rfl, trivial⟩ | exact ⟨Or.inr rfl, rfl, trivial⟩ | exact ⟨Or.inl rfl, rfl, trivial⟩
  | none =>
    have X2 : CS b n (i + 4) s C (zO s + 1) h2 := X2
    have z1 := ch_none1 ho2
    have z5 := ch_none1 (ho1.trans z1)
    have z0 := ch_none1 (ho5.trans z5)
    obtain ⟨k5, l5, _⟩ := e5 z5
    subst k5
    have q0 := ckC_n (ho0.trans z0)
    obtain ⟨k1, l1⟩ := e1 z1
    subst k1
    have X2' : CS b n (i + 4) (sU (adO s 2 (pfi s b n (i + 1)) (kfi b n s (i + 2)) 0) 26 (zO s) C.length) C (zO s + 1) h2 := by
      obtain ⟨k, hi, a1, D, c, g, hb⟩ := X2
      exact ⟨k, hi, a1, D, c, g, hb⟩
    obtain ⟨h3, r3, O3, T3⟩ := (c_tests (zO s + 1) 6 0 rfl).2 h2 (i + 4) C X2' (by omega)
    rcases T3 with ⟨i', C', Y, hii, hll, ⟨hA, hR⟩, go⟩ | ⟨f, p, Y, go⟩
    · have f3 := Y.f0
      have e3 := Y.D.1.2.2.2.2.2
      have e3' : h3.1 28 2 = nI (s 0 7) := e3
      have c3 := Y.cc.2.1
      have h7 := hG.1.2.2.2.2.1
      have rc := r_close (h := h3) (X := s 0 7) (by omega) e3' (nI (pfi s b n (i + 1))) (nI (kfi b n s (i + 2)))
      refine ⟨clW h3 (s 0 7) (nI (pfi s b n (i + 1))) (nI (kfi b n s (i + 2))) (h3.1 28 1), ?_, (((((OO.trans O3).addI (by decide)).addI (by decide)).addI (by decide)).addI (by decide)), Or.inl ⟨i', C', clo (sU (adO s 2 (pfi s b n (i + 1)) (kfi b n s (i + 2)) 0) 26 (zO s) C.length) C'.length, ?_, by omega, by omega, _, rfl, ?_, (qGo.one q7').trans ((go [] (Or.inl rfl)).trans (qGo.one (qF_n hA hR)))⟩⟩
      · show Run 31 j_Reader_readTested _ _ _ _
        refine Run.of rfl ?_
        refine Wp.norm (L' := [_, _, _, _]) rfl ?_
        repeat (first | (refine W1 rfl ?_; try refine Wp.norm (L' := [_, _, _, _]) rfl ?_) | ((first | change (_ → _) ∧ (_ → _) | change vp_in _ _ ∧ _ | change ¬ _ ∧ _); simp (disch := omega) only [nI_clamp, nI_leI, nI_ltI, nI_eq, nI_1, nI_add, nI_not_neg, nI_is_pos, nI_m1, nI_z]) | refine brT (by first | assumption | decide | omega) ?_ | refine brF (by first | assumption | decide | omega) ?_ | refine brTn (by first | assumption | decide | omega) ?_ | refine brFn (by first | assumption | decide | omega) ?_ | refine And.intro (vp_in_nI (by omega) (by decide)) ?_ | refine And.intro (vp_lit (by decide)) ?_ | refine divJ (by decide) ?_ | refine divI (by decide) ?_)
        try change _ ∧ _
        refine Cl.of r0 (by decide) ?_
        repeat (first | (refine W1 rfl ?_; try refine Wp.norm (L' := [_, _, _, _]) rfl ?_) | ((first | change (_ → _) ∧ (_ → _) | change vp_in _ _ ∧ _ | change ¬ _ ∧ _); simp (disch := omega) only [nI_clamp, nI_leI, nI_ltI, nI_eq, nI_1, nI_add, nI_not_neg, nI_is_pos, nI_m1, nI_z]) | refine brT (by first | assumption | decide | omega) ?_ | refine brF (by first | assumption | decide | omega) ?_ | refine brTn (by first | assumption | decide | omega) ?_ | refine brFn (by first | assumption | decide | omega) ?_ | refine And.intro (vp_in_nI (by omega) (by decide)) ?_ | refine And.intro (vp_lit (by decide)) ?_ | refine divJ (by decide) ?_ | refine divI (by decide) ?_)
        try change _ ∧ _
        refine Cl.of r5 (by decide) ?_
        repeat (first | (refine W1 rfl ?_; try refine Wp.norm (L' := [_, _, _, _]) rfl ?_) | ((first | change (_ → _) ∧ (_ → _) | change vp_in _ _ ∧ _ | change ¬ _ ∧ _); simp (disch := omega) only [nI_clamp, nI_leI, nI_ltI, nI_eq, nI_1, nI_add, nI_not_neg, nI_is_pos, nI_m1, nI_z]) | refine brT (by first | assumption | decide | omega) ?_ | refine brF (by first | assumption | decide | omega) ?_ | refine brTn (by first | assumption | decide | omega) ?_ | refine brFn (by first | assumption | decide | omega) ?_ | refine And.intro (vp_in_nI (by omega) (by decide)) ?_ | refine And.intro (vp_lit (by decide)) ?_ | refine divJ (by decide) ?_ | refine divI (by decide) ?_)
        try change _ ∧ _
        refine Cl.of r1 (by decide) ?_
        repeat (first | (refine W1 rfl ?_; try refine Wp.norm (L' := [_, _, _, _]) rfl ?_) | ((first | change (_ → _) ∧ (_ → _) | change vp_in _ _ ∧ _ | change ¬ _ ∧ _); simp (disch := omega) only [nI_clamp, nI_leI, nI_ltI, nI_eq, nI_1, nI_add, nI_not_neg, nI_is_pos, nI_m1, nI_z]) | refine brT (by first | assumption | decide | omega) ?_ | refine brF (by first | assumption | decide | omega) ?_ | refine brTn (by first | assumption | decide | omega) ?_ | refine brFn (by first | assumption | decide | omega) ?_ | refine And.intro (vp_in_nI (by omega) (by decide)) ?_ | refine And.intro (vp_lit (by decide)) ?_ | refine divJ (by decide) ?_ | refine divI (by decide) ?_)
        try change _ ∧ _
        refine Cl.of r2 (by decide) ?_
        repeat (first | (refine W1 rfl ?_; try refine Wp.norm (L' := [_, _, _, _]) rfl ?_) | ((first | change (_ → _) ∧ (_ → _) | change vp_in _ _ ∧ _ | change ¬ _ ∧ _); simp (disch := omega) only [nI_clamp, nI_leI, nI_ltI, nI_eq, nI_1, nI_add, nI_not_neg, nI_is_pos, nI_m1, nI_z]) | refine brT (by first | assumption | decide | omega) ?_ | refine brF (by first | assumption | decide | omega) ?_ | refine brTn (by first | assumption | decide | omega) ?_ | refine brFn (by first | assumption | decide | omega) ?_ | refine And.intro (vp_in_nI (by omega) (by decide)) ?_ | refine And.intro (vp_lit (by decide)) ?_ | refine divJ (by decide) ?_ | refine divI (by decide) ?_)
        try change _ ∧ _
        refine Cl.of r3 (by decide) ?_
        repeat (first | (refine W1 rfl ?_; try refine Wp.norm (L' := [_, _, _, _]) rfl ?_) | ((first | change (_ → _) ∧ (_ → _) | change vp_in _ _ ∧ _ | change ¬ _ ∧ _); simp (disch := omega) only [nI_clamp, nI_leI, nI_ltI, nI_eq, nI_1, nI_add, nI_not_neg, nI_is_pos, nI_m1, nI_z, f3]) | refine brT (by first | assumption | decide | omega) ?_ | refine brF (by first | assumption | decide | omega) ?_ | refine brTn (by first | assumption | decide | omega) ?_ | refine brFn (by first | assumption | decide | omega) ?_ | refine And.intro (vp_in_nI (by omega) (by decide)) ?_ | refine And.intro (vp_lit (by decide)) ?_ | refine divJ (by decide) ?_ | refine divI (by decide) ?_)
        try change _ ∧ _
        refine Cl.of rc (by decide) ?_
        repeat (first | (refine W1 rfl ?_; try refine Wp.norm (L' := [_, _, _, _]) rfl ?_) | ((first | change (_ → _) ∧ (_ → _) | change vp_in _ _ ∧ _ | change ¬ _ ∧ _); simp (disch := omega) only [nI_clamp, nI_leI, nI_ltI, nI_eq, nI_1, nI_add, nI_not_neg, nI_is_pos, nI_m1, nI_z]) | refine brT (by first | assumption | decide | omega) ?_ | refine brF (by first | assumption | decide | omega) ?_ | refine brTn (by first | assumption | decide | omega) ?_ | refine brFn (by first | assumption | decide | omega) ?_ | refine And.intro (vp_in_nI (by omega) (by decide)) ?_ | refine And.intro (vp_lit (by decide)) ?_ | refine divJ (by decide) ?_ | refine divI (by decide) ?_)
        try change _ ∧ _
        try first | exact ⟨rfl, rfl⟩ | exact ⟨Or.inr rfl, rfl, rfl⟩ | exact ⟨Or.inl rfl, rfl, rfl⟩ | exact ⟨trivial, trivial⟩ | exact ⟨rfl, trivial⟩ | exact ⟨Or.inr rfl, rfl, trivial⟩ | exact ⟨Or.inl rfl, rfl, trivial⟩
      · obtain ⟨k, hi, a1, D, c, g, hb⟩ := Y
        rw [c3]
        have D2 := DC.cls (k := C'.length) D rfl (by simp [adO, sU]; omega)
        refine ⟨(((k.w (by decide)).w (by decide)).w (by decide)).w (by decide), hi, a1, ?_, c, ?_, hb⟩
        · have eq : (clW h3 (s 0 7) (nI (pfi s b n (i + 1))) (nI (kfi b n s (i + 2))) (nI C'.length)) = _ := rfl
          have D3 := D2
          simp [adO, sU] at D3
          exact D3
        · obtain ⟨⟨d1, d2, d3, d4, d5, d6, d7⟩, d8⟩ := g
          refine ⟨⟨d1, d2, d3, q0, ?_, d6, d7⟩, d8⟩
          show s 0 7 + 1 ≤ zO s + 1
          omega
      · rfl
    · have hne := Y.ne
      refine ⟨h3, ?_, OO.trans O3, Or.inr ⟨f, p, Y, (qGo.one q7').trans (go [] (Or.inl rfl))⟩⟩
      show Run 31 j_Reader_readTested _ _ _ _
      refine Run.of rfl ?_
      refine Wp.norm (L' := [_, _, _, _]) rfl ?_
      repeat (first | (refine W1 rfl ?_; try refine Wp.norm (L' := [_, _, _, _]) rfl ?_) | ((first | change (_ → _) ∧ (_ → _) | change vp_in _ _ ∧ _ | change ¬ _ ∧ _); simp (disch := omega) only [nI_clamp, nI_leI, nI_ltI, nI_eq, nI_1, nI_add, nI_not_neg, nI_is_pos, nI_m1, nI_z]) | refine brT (by first | assumption | decide | omega) ?_ | refine brF (by first | assumption | decide | omega) ?_ | refine brTn (by first | assumption | decide | omega) ?_ | refine brFn (by first | assumption | decide | omega) ?_ | refine And.intro (vp_in_nI (by omega) (by decide)) ?_ | refine And.intro (vp_lit (by decide)) ?_ | refine divJ (by decide) ?_ | refine divI (by decide) ?_)
      try change _ ∧ _
      refine Cl.of r0 (by decide) ?_
      repeat (first | (refine W1 rfl ?_; try refine Wp.norm (L' := [_, _, _, _]) rfl ?_) | ((first | change (_ → _) ∧ (_ → _) | change vp_in _ _ ∧ _ | change ¬ _ ∧ _); simp (disch := omega) only [nI_clamp, nI_leI, nI_ltI, nI_eq, nI_1, nI_add, nI_not_neg, nI_is_pos, nI_m1, nI_z]) | refine brT (by first | assumption | decide | omega) ?_ | refine brF (by first | assumption | decide | omega) ?_ | refine brTn (by first | assumption | decide | omega) ?_ | refine brFn (by first | assumption | decide | omega) ?_ | refine And.intro (vp_in_nI (by omega) (by decide)) ?_ | refine And.intro (vp_lit (by decide)) ?_ | refine divJ (by decide) ?_ | refine divI (by decide) ?_)
      try change _ ∧ _
      refine Cl.of r5 (by decide) ?_
      repeat (first | (refine W1 rfl ?_; try refine Wp.norm (L' := [_, _, _, _]) rfl ?_) | ((first | change (_ → _) ∧ (_ → _) | change vp_in _ _ ∧ _ | change ¬ _ ∧ _); simp (disch := omega) only [nI_clamp, nI_leI, nI_ltI, nI_eq, nI_1, nI_add, nI_not_neg, nI_is_pos, nI_m1, nI_z]) | refine brT (by first | assumption | decide | omega) ?_ | refine brF (by first | assumption | decide | omega) ?_ | refine brTn (by first | assumption | decide | omega) ?_ | refine brFn (by first | assumption | decide | omega) ?_ | refine And.intro (vp_in_nI (by omega) (by decide)) ?_ | refine And.intro (vp_lit (by decide)) ?_ | refine divJ (by decide) ?_ | refine divI (by decide) ?_)
      try change _ ∧ _
      refine Cl.of r1 (by decide) ?_
      repeat (first | (refine W1 rfl ?_; try refine Wp.norm (L' := [_, _, _, _]) rfl ?_) | ((first | change (_ → _) ∧ (_ → _) | change vp_in _ _ ∧ _ | change ¬ _ ∧ _); simp (disch := omega) only [nI_clamp, nI_leI, nI_ltI, nI_eq, nI_1, nI_add, nI_not_neg, nI_is_pos, nI_m1, nI_z]) | refine brT (by first | assumption | decide | omega) ?_ | refine brF (by first | assumption | decide | omega) ?_ | refine brTn (by first | assumption | decide | omega) ?_ | refine brFn (by first | assumption | decide | omega) ?_ | refine And.intro (vp_in_nI (by omega) (by decide)) ?_ | refine And.intro (vp_lit (by decide)) ?_ | refine divJ (by decide) ?_ | refine divI (by decide) ?_)
      try change _ ∧ _
      refine Cl.of r2 (by decide) ?_
      repeat (first | (refine W1 rfl ?_; try refine Wp.norm (L' := [_, _, _, _]) rfl ?_) | ((first | change (_ → _) ∧ (_ → _) | change vp_in _ _ ∧ _ | change ¬ _ ∧ _); simp (disch := omega) only [nI_clamp, nI_leI, nI_ltI, nI_eq, nI_1, nI_add, nI_not_neg, nI_is_pos, nI_m1, nI_z]) | refine brT (by first | assumption | decide | omega) ?_ | refine brF (by first | assumption | decide | omega) ?_ | refine brTn (by first | assumption | decide | omega) ?_ | refine brFn (by first | assumption | decide | omega) ?_ | refine And.intro (vp_in_nI (by omega) (by decide)) ?_ | refine And.intro (vp_lit (by decide)) ?_ | refine divJ (by decide) ?_ | refine divI (by decide) ?_)
      try change _ ∧ _
      refine Cl.of r3 (by decide) ?_
      repeat (first | (refine W1 rfl ?_; try refine Wp.norm (L' := [_, _, _, _]) rfl ?_) | ((first | change (_ → _) ∧ (_ → _) | change vp_in _ _ ∧ _ | change ¬ _ ∧ _); simp (disch := omega) only [nI_clamp, nI_leI, nI_ltI, nI_eq, nI_1, nI_add, nI_not_neg, nI_is_pos, nI_m1, nI_z]) | refine brT (by first | assumption | decide | omega) ?_ | refine brF (by first | assumption | decide | omega) ?_ | refine brTn (by first | assumption | decide | omega) ?_ | refine brFn (by first | assumption | decide | omega) ?_ | refine And.intro (vp_in_nI (by omega) (by decide)) ?_ | refine And.intro (vp_lit (by decide)) ?_ | refine divJ (by decide) ?_ | refine divI (by decide) ?_)
      try change _ ∧ _
      try first | exact ⟨rfl, rfl⟩ | exact ⟨Or.inr rfl, rfl, rfl⟩ | exact ⟨Or.inl rfl, rfl, rfl⟩ | exact ⟨trivial, trivial⟩ | exact ⟨rfl, trivial⟩ | exact ⟨Or.inr rfl, rfl, trivial⟩ | exact ⟨Or.inl rfl, rfl, trivial⟩
end CSTQ
