/-! ===== THE CLASS READS STATEMENTS: pairs, tested ones ===== -/
theorem or_bit {a p : Nat} (ha : a < 65536) (hp : p < 16) : nI a ||| ((1 : Int32) <<< (nI p &&& 31)) = nI (a ||| 2 ^ p) := by
  have h2 : (2 : Nat) ^ p < 65536 := Nat.pow_lt_pow_right (by decide) hp
  have h3 : a ||| 2 ^ p < 2 ^ 16 := Nat.or_lt_two_pow ha h2
  refine bt_ext fun q hq => ?_
  rw [bt_or, bt_shl (by omega) hq, bt_nI (by omega), bt_nI (by omega), Nat.testBit_or, Nat.testBit_two_pow]
  by_cases e : q = p
  · subst e; simp
  · simp [e, Ne.symm e]
section CSTP
variable {b : Nat → Nat} {n : Nat} {s : ST} {C : List Nat} {h h' : HP}
def jW (h : HP) (m x y : Nat) (X Y : Int32) : HP := wI (wI h m x X) m y Y
theorem r_join23 {x y : Nat} (hx : x < 16) (hy : y < 16) (hne : x ≠ y) (D : DC s h) (g : GB s) : Run 0 j_House_join [.ref 23, .int (nI x), .int (nI y)] h none (jW h 23 x y (nI (s 10 x ||| 2 ^ y)) (nI (s 10 y ||| 2 ^ x))) := by
  have e1 : h.1 23 x = nI (s 10 x) := (D.2.2.1 x hx).1
  have e2 : h.1 23 y = nI (s 10 y) := (D.2.2.1 y hy).1
  have g1 : s 10 x < 65536 := (g.2.2.1 x hx).1
  have g2 : s 10 y < 65536 := (g.2.2.1 y hy).1
  have m1 := or_bit g1 hy
  have m2 := or_bit g2 hx
  have hny : y ≠ x := Ne.symm hne
  refine Run.of rfl ?_
  refine Wp.norm (L' := [_, _, _]) rfl ?_
  repeat (first | (refine W1 rfl ?_; try refine Wp.norm (L' := [_, _, _]) rfl ?_) | ((first | change (_ → _) ∧ (_ → _) | change vp_in _ _ ∧ _ | change ¬ _ ∧ _); simp (disch := omega) only [nI_clamp, nI_leI, nI_ltI, nI_eq, nI_1, nI_add, nI_not_neg, nI_is_pos, nI_m1, nI_z, e1]) | refine brT (by first | assumption | decide | omega) ?_ | refine brF (by first | assumption | decide | omega) ?_ | refine brTn (by first | assumption | decide | omega) ?_ | refine brFn (by first | assumption | decide | omega) ?_ | refine And.intro (vp_in_nI (by omega) (by decide)) ?_ | refine And.intro (vp_lit (by decide)) ?_ | refine divJ (by decide) ?_ | refine divI (by decide) ?_)
  try change _ ∧ _
  simp (disch := omega) only [nI_clamp, e1, m1, wI_ne2, e2, m2]
  exact ⟨trivial, rfl⟩
theorem DC.jn23 {x y : Nat} (D : DC s h) (hne : x ≠ y) : DC (adJ s 4 x y) (jW h 23 x y (nI (s 10 x ||| 2 ^ y)) (nI (s 10 y ||| 2 ^ x))) := by
  have hny : y ≠ x := Ne.symm hne
  obtain ⟨⟨d1, d2, d3, d4, d5, d6⟩, d7, d8, d9, d10, d11⟩ := D
  refine ⟨⟨d1, d2, d3, d4, d5, d6⟩, d7, fun p hp => ?_, d9, d10, d11⟩
  have := d8 p hp
  unfold jW
  by_cases e : p = x
  · subst e
    simp [wI, va_up, upd, adJ, adO, jnM, sU, hne]
    exact this.2
  · by_cases e' : p = y
    · subst e'
      simp [wI, va_up, upd, adJ, adO, jnM, sU, hny]
      exact this.2
    · simp [wI, va_up, upd, adJ, adO, jnM, sU, e, e']
      exact this
theorem GB.jn23 {x y : Nat} (D : GB s) (hO : zO s < 60) (hx : x < 16) (hy : y < 16) (hne : x ≠ y) : GB (adJ s 4 x y) := by
  have hny : y ≠ x := Ne.symm hne
  obtain ⟨⟨d1, d2, d3, d4, d5, d6, d7⟩, d8, d9, d10, d11⟩ := D
  have h2 : ∀ p, p < 16 → (2 : Nat) ^ p < 65536 := fun p hp => Nat.pow_lt_pow_right (by decide) hp
  have h3 : ∀ a p, a < 65536 → p < 16 → a ||| 2 ^ p < 65536 := fun a p ha hp => Nat.or_lt_two_pow (n := 16) ha (h2 p hp)
  refine ⟨⟨d1, d2, d3, hO, ?_, d6, d7⟩, d8, fun p hp => ?_, d10, d11⟩
  · show s 0 7 ≤ zO s + 1
    omega
  have := d9 p hp
  have hx9 := (d9 x hx).1
  have hy9 := (d9 y hy).1
  by_cases e : p = x
  · subst e
    simp [adJ, adO, jnM, sU, hne]
    exact ⟨h3 _ _ hx9 hy, this.2⟩
  · by_cases e' : p = y
    · subst e'
      simp [adJ, adO, jnM, sU, hny]
      exact ⟨h3 _ _ hy9 hx, this.2⟩
    · simp [adJ, adO, jnM, sU, e, e']
      exact this
theorem c_pair23 {i q : Nat} (X : CS b n i s C q h) (hi : ps b n i < n) (hq : q = zO s) : ∃ h', Run 3 j_Reader_readPair [.ref 17, .ref 23] h none h' ∧ onlyJ rdL [] h h' ∧ CZ b n (ch (ch (ckC b n (zO s) 60 i) (ckP b n s (i + 1) 99)) (ckP b n s (i + 2) (pfi s b n (i + 1)))) (i + 3) (adJ s 4 (pfi s b n (i + 1)) (pfi s b n (i + 2))) C (q + 1) h' := by
  have hG := X.G
  have hO := hG.1.2.2.2.1
  have hP := hG.1.1
  subst hq
  obtain ⟨h0, r0, O0, X0⟩ := c_beginOther X hi (by omega)
  generalize ho0 : ckC b n (zO s) 60 i = o0 at X0
  obtain ⟨w1, h1, r1, O1, X1, e1⟩ := c_knownPerson (but := 99) (x := -1) X0 (fun _ => Or.inl ⟨rfl, rfl⟩)
  generalize ho1 : ch o0 (ckP b n s (i + 1) 99) = o1 at X1 e1
  obtain ⟨w2, h2, r2, O2, X2, e2⟩ := c_knownPerson (but := pfi s b n (i + 1)) (x := w1) X1 (fun z => Or.inr ⟨by have := (e1 z).2.1; omega, (e1 z).1⟩)
  generalize ho2 : ch o1 (ckP b n s (i + 2) (pfi s b n (i + 1))) = o2 at X2 e2
  have e2 : o2 = none → w2 = nI (pfi s b n (i + 2)) ∧ pfi s b n (i + 2) < zP s ∧ pfi s b n (i + 2) ≠ pfi s b n (i + 1) := e2
  have OO := (O0.trans O1).trans O2
  cases o2 with
  | some e =>
    obtain ⟨f, p⟩ := e
    have X2 : CF b n f p h2 := X2
    have hne := X2.ne
    refine ⟨h2, ?_, OO, X2⟩
    show Run 3 j_Reader_readPair _ _ _ _
    refine Run.of rfl ?_
    refine Wp.norm (L' := [_, _, _, _]) rfl ?_
    repeat (first | (refine W1 rfl ?_; try refine Wp.norm (L' := [_, _, _, _]) rfl ?_) | ((first | change (_ → _) ∧ (_ → _) | change vp_in _ _ ∧ _ | change ¬ _ ∧ _); simp (disch := omega) only [nI_clamp, nI_leI, nI_ltI, nI_eq, nI_1, nI_add, nI_not_neg, nI_is_pos, nI_m1, nI_z]) | refine brT (by first | assumption | decide | omega) ?_ | refine brF (by first | assumption | decide | omega) ?_ | refine brTn (by first | assumption | decide | omega) ?_ | refine brFn (by first | assumption | decide | omega) ?_ | refine And.intro (vp_in_nI (by omega) (by decide)) ?_ | refine And.intro (vp_lit (by decide)) ?_ | refine divJ (by decide) ?_ | refine divI (by decide) ?_)
    try change _ ∧ _
    refine Cl.of r0 (by decide) ?_
    repeat (first | (refine W1 rfl ?_; try refine Wp.norm (L' := [_, _, _, _]) rfl ?_) | ((first | change (_ → _) ∧ (_ → _) | change vp_in _ _ ∧ _ | change ¬ _ ∧ _); simp (disch := omega) only [nI_clamp, nI_leI, nI_ltI, nI_eq, nI_1, nI_add, nI_not_neg, nI_is_pos, nI_m1, nI_z]) | refine brT (by first | assumption | decide | omega) ?_ | refine brF (by first | assumption | decide | omega) ?_ | refine brTn (by first | assumption | decide | omega) ?_ | refine brFn (by first | assumption | decide | omega) ?_ | refine And.intro (vp_in_nI (by omega) (by decide)) ?_ | refine And.intro (vp_lit (by decide)) ?_ | refine divJ (by decide) ?_ | refine divI (by decide) ?_)
    try change _ ∧ _
    refine Cl.of r1 (by decide) ?_
    repeat (first | (refine W1 rfl ?_; try refine Wp.norm (L' := [_, _, _, _]) rfl ?_) | ((first | change (_ → _) ∧ (_ → _) | change vp_in _ _ ∧ _ | change ¬ _ ∧ _); simp (disch := omega) only [nI_clamp, nI_leI, nI_ltI, nI_eq, nI_1, nI_add, nI_not_neg, nI_is_pos, nI_m1, nI_z]) | refine brT (by first | assumption | decide | omega) ?_ | refine brF (by first | assumption | decide | omega) ?_ | refine brTn (by first | assumption | decide | omega) ?_ | refine brFn (by first | assumption | decide | omega) ?_ | refine And.intro (vp_in_nI (by omega) (by decide)) ?_ | refine And.intro (vp_lit (by decide)) ?_ | refine divJ (by decide) ?_ | refine divI (by decide) ?_)
    try change _ ∧ _
    refine Cl.of r2 (by decide) ?_
    repeat (first | (refine W1 rfl ?_; try refine Wp.norm (L' := [_, _, _, _]) rfl ?_) | ((first | change (_ → _) ∧ (_ → _) | change vp_in _ _ ∧ _ | change ¬ _ ∧ _); simp (disch := omega) only [nI_clamp, nI_leI, nI_ltI, nI_eq, nI_1, nI_add, nI_not_neg, nI_is_pos, nI_m1, nI_z]) | refine brT (by first | assumption | decide | omega) ?_ | refine brF (by first | assumption | decide | omega) ?_ | refine brTn (by first | assumption | decide | omega) ?_ | refine brFn (by first | assumption | decide | omega) ?_ | refine And.intro (vp_in_nI (by omega) (by decide)) ?_ | refine And.intro (vp_lit (by decide)) ?_ | refine divJ (by decide) ?_ | refine divI (by decide) ?_)
    try change _ ∧ _
    try first | exact ⟨rfl, rfl⟩ | exact ⟨Or.inr rfl, rfl, rfl⟩ | exact ⟨Or.inl rfl, rfl, rfl⟩ | exact ⟨trivial, trivial⟩ | exact ⟨rfl, trivial⟩ | exact ⟨Or.inr rfl, rfl, trivial⟩ | exact ⟨Or.inl rfl, rfl, trivial⟩
  | none =>
    have X2 : CS b n (i + 3) s C (zO s + 1) h2 := X2
    have z1 := ch_none1 ho2
    have z0 := ch_none1 (ho1.trans z1)
    have q0 := ckC_n (ho0.trans z0)
    obtain ⟨k1, l1, _⟩ := e1 z1
    obtain ⟨k2, l2, l3⟩ := e2 rfl
    subst k1 k2
    have f7 := X2.f0
    have hn : pfi s b n (i + 1) ≠ pfi s b n (i + 2) := fun z => l3 z.symm
    have ra := r_join23 (x := pfi s b n (i + 1)) (y := pfi s b n (i + 2)) (by omega) (by omega) hn X2.D X2.G
    refine ⟨jW h2 23 (pfi s b n (i + 1)) (pfi s b n (i + 2)) (nI (s 10 (pfi s b n (i + 1)) ||| 2 ^ pfi s b n (i + 2))) (nI (s 10 (pfi s b n (i + 2)) ||| 2 ^ pfi s b n (i + 1))), ?_, (OO.addI (by decide)).addI (by decide), ?_⟩
    rotate_left
    · obtain ⟨k, hi, a1, D, c, g, hb⟩ := X2
      exact ⟨(k.w (by decide)).w (by decide), hi, a1, D.jn23 hn, c, g.jn23 q0 (by omega) (by omega) hn, hb⟩
    · show Run 3 j_Reader_readPair _ _ _ _
      refine Run.of rfl ?_
      refine Wp.norm (L' := [_, _, _, _]) rfl ?_
      repeat (first | (refine W1 rfl ?_; try refine Wp.norm (L' := [_, _, _, _]) rfl ?_) | ((first | change (_ → _) ∧ (_ → _) | change vp_in _ _ ∧ _ | change ¬ _ ∧ _); simp (disch := omega) only [nI_clamp, nI_leI, nI_ltI, nI_eq, nI_1, nI_add, nI_not_neg, nI_is_pos, nI_m1, nI_z]) | refine brT (by first | assumption | decide | omega) ?_ | refine brF (by first | assumption | decide | omega) ?_ | refine brTn (by first | assumption | decide | omega) ?_ | refine brFn (by first | assumption | decide | omega) ?_ | refine And.intro (vp_in_nI (by omega) (by decide)) ?_ | refine And.intro (vp_lit (by decide)) ?_ | refine divJ (by decide) ?_ | refine divI (by decide) ?_)
      try change _ ∧ _
      refine Cl.of r0 (by decide) ?_
      repeat (first | (refine W1 rfl ?_; try refine Wp.norm (L' := [_, _, _, _]) rfl ?_) | ((first | change (_ → _) ∧ (_ → _) | change vp_in _ _ ∧ _ | change ¬ _ ∧ _); simp (disch := omega) only [nI_clamp, nI_leI, nI_ltI, nI_eq, nI_1, nI_add, nI_not_neg, nI_is_pos, nI_m1, nI_z]) | refine brT (by first | assumption | decide | omega) ?_ | refine brF (by first | assumption | decide | omega) ?_ | refine brTn (by first | assumption | decide | omega) ?_ | refine brFn (by first | assumption | decide | omega) ?_ | refine And.intro (vp_in_nI (by omega) (by decide)) ?_ | refine And.intro (vp_lit (by decide)) ?_ | refine divJ (by decide) ?_ | refine divI (by decide) ?_)
      try change _ ∧ _
      refine Cl.of r1 (by decide) ?_
      repeat (first | (refine W1 rfl ?_; try refine Wp.norm (L' := [_, _, _, _]) rfl ?_) | ((first | change (_ → _) ∧ (_ → _) | change vp_in _ _ ∧ _ | change ¬ _ ∧ _); simp (disch := omega) only [nI_clamp, nI_leI, nI_ltI, nI_eq, nI_1, nI_add, nI_not_neg, nI_is_pos, nI_m1, nI_z]) | refine brT (by first | assumption | decide | omega) ?_ | refine brF (by first | assumption | decide | omega) ?_ | refine brTn (by first | assumption | decide | omega) ?_ | refine brFn (by first | assumption | decide | omega) ?_ | refine And.intro (vp_in_nI (by omega) (by decide)) ?_ | refine And.intro (vp_lit (by decide)) ?_ | refine divJ (by decide) ?_ | refine divI (by decide) ?_)
      try change _ ∧ _
      refine Cl.of r2 (by decide) ?_
      repeat (first | (refine W1 rfl ?_; try refine Wp.norm (L' := [_, _, _, _]) rfl ?_) | ((first | change (_ → _) ∧ (_ → _) | change vp_in _ _ ∧ _ | change ¬ _ ∧ _); simp (disch := omega) only [nI_clamp, nI_leI, nI_ltI, nI_eq, nI_1, nI_add, nI_not_neg, nI_is_pos, nI_m1, nI_z, f7]) | refine brT (by first | assumption | decide | omega) ?_ | refine brF (by first | assumption | decide | omega) ?_ | refine brTn (by first | assumption | decide | omega) ?_ | refine brFn (by first | assumption | decide | omega) ?_ | refine And.intro (vp_in_nI (by omega) (by decide)) ?_ | refine And.intro (vp_lit (by decide)) ?_ | refine divJ (by decide) ?_ | refine divI (by decide) ?_)
      try change _ ∧ _
      refine Cl.of ra (by decide) ?_
      repeat (first | (refine W1 rfl ?_; try refine Wp.norm (L' := [_, _, _, _]) rfl ?_) | ((first | change (_ → _) ∧ (_ → _) | change vp_in _ _ ∧ _ | change ¬ _ ∧ _); simp (disch := omega) only [nI_clamp, nI_leI, nI_ltI, nI_eq, nI_1, nI_add, nI_not_neg, nI_is_pos, nI_m1, nI_z]) | refine brT (by first | assumption | decide | omega) ?_ | refine brF (by first | assumption | decide | omega) ?_ | refine brTn (by first | assumption | decide | omega) ?_ | refine brFn (by first | assumption | decide | omega) ?_ | refine And.intro (vp_in_nI (by omega) (by decide)) ?_ | refine And.intro (vp_lit (by decide)) ?_ | refine divJ (by decide) ?_ | refine divI (by decide) ?_)
      try change _ ∧ _
      try first | exact ⟨rfl, rfl⟩ | exact ⟨Or.inr rfl, rfl, rfl⟩ | exact ⟨Or.inl rfl, rfl, rfl⟩ | exact ⟨trivial, trivial⟩ | exact ⟨rfl, trivial⟩ | exact ⟨Or.inr rfl, rfl, trivial⟩ | exact ⟨Or.inl rfl, rfl, trivial⟩
theorem r_join24 {x y : Nat} (hx : x < 16) (hy : y < 16) (hne : x ≠ y) (D : DC s h) (g : GB s) : Run 0 j_House_join [.ref 24, .int (nI x), .int (nI y)] h none (jW h 24 x y (nI (s 11 x ||| 2 ^ y)) (nI (s 11 y ||| 2 ^ x))) := by
  have e1 : h.1 24 x = nI (s 11 x) := (D.2.2.1 x hx).2
  have e2 : h.1 24 y = nI (s 11 y) := (D.2.2.1 y hy).2
  have g1 : s 11 x < 65536 := (g.2.2.1 x hx).2
  have g2 : s 11 y < 65536 := (g.2.2.1 y hy).2
  have m1 := or_bit g1 hy
  have m2 := or_bit g2 hx
  have hny : y ≠ x := Ne.symm hne
  refine Run.of rfl ?_
  refine Wp.norm (L' := [_, _, _]) rfl ?_
  repeat (first | (refine W1 rfl ?_; try refine Wp.norm (L' := [_, _, _]) rfl ?_) | ((first | change (_ → _) ∧ (_ → _) | change vp_in _ _ ∧ _ | change ¬ _ ∧ _); simp (disch := omega) only [nI_clamp, nI_leI, nI_ltI, nI_eq, nI_1, nI_add, nI_not_neg, nI_is_pos, nI_m1, nI_z, e1]) | refine brT (by first | assumption | decide | omega) ?_ | refine brF (by first | assumption | decide | omega) ?_ | refine brTn (by first | assumption | decide | omega) ?_ | refine brFn (by first | assumption | decide | omega) ?_ | refine And.intro (vp_in_nI (by omega) (by decide)) ?_ | refine And.intro (vp_lit (by decide)) ?_ | refine divJ (by decide) ?_ | refine divI (by decide) ?_)
  try change _ ∧ _
  simp (disch := omega) only [nI_clamp, e1, m1, wI_ne2, e2, m2]
  exact ⟨trivial, rfl⟩
theorem DC.jn24 {x y : Nat} (D : DC s h) (hne : x ≠ y) : DC (adJ s 5 x y) (jW h 24 x y (nI (s 11 x ||| 2 ^ y)) (nI (s 11 y ||| 2 ^ x))) := by
  have hny : y ≠ x := Ne.symm hne
  obtain ⟨⟨d1, d2, d3, d4, d5, d6⟩, d7, d8, d9, d10, d11⟩ := D
  refine ⟨⟨d1, d2, d3, d4, d5, d6⟩, d7, fun p hp => ?_, d9, d10, d11⟩
  have := d8 p hp
  unfold jW
  by_cases e : p = x
  · subst e
    simp [wI, va_up, upd, adJ, adO, jnM, sU, hne]
    exact this.1
  · by_cases e' : p = y
    · subst e'
      simp [wI, va_up, upd, adJ, adO, jnM, sU, hny]
      exact this.1
    · simp [wI, va_up, upd, adJ, adO, jnM, sU, e, e']
      exact this
theorem GB.jn24 {x y : Nat} (D : GB s) (hO : zO s < 60) (hx : x < 16) (hy : y < 16) (hne : x ≠ y) : GB (adJ s 5 x y) := by
  have hny : y ≠ x := Ne.symm hne
  obtain ⟨⟨d1, d2, d3, d4, d5, d6, d7⟩, d8, d9, d10, d11⟩ := D
  have h2 : ∀ p, p < 16 → (2 : Nat) ^ p < 65536 := fun p hp => Nat.pow_lt_pow_right (by decide) hp
  have h3 : ∀ a p, a < 65536 → p < 16 → a ||| 2 ^ p < 65536 := fun a p ha hp => Nat.or_lt_two_pow (n := 16) ha (h2 p hp)
  refine ⟨⟨d1, d2, d3, hO, ?_, d6, d7⟩, d8, fun p hp => ?_, d10, d11⟩
  · show s 0 7 ≤ zO s + 1
    omega
  have := d9 p hp
  have hx9 := (d9 x hx).2
  have hy9 := (d9 y hy).2
  by_cases e : p = x
  · subst e
    simp [adJ, adO, jnM, sU, hne]
    exact ⟨this.1, h3 _ _ hx9 hy⟩
  · by_cases e' : p = y
    · subst e'
      simp [adJ, adO, jnM, sU, hny]
      exact ⟨this.1, h3 _ _ hy9 hx⟩
    · simp [adJ, adO, jnM, sU, e, e']
      exact this
theorem c_pair24 {i q : Nat} (X : CS b n i s C q h) (hi : ps b n i < n) (hq : q = zO s) : ∃ h', Run 3 j_Reader_readPair [.ref 17, .ref 24] h none h' ∧ onlyJ rdL [] h h' ∧ CZ b n (ch (ch (ckC b n (zO s) 60 i) (ckP b n s (i + 1) 99)) (ckP b n s (i + 2) (pfi s b n (i + 1)))) (i + 3) (adJ s 5 (pfi s b n (i + 1)) (pfi s b n (i + 2))) C (q + 1) h' := by
  have hG := X.G
  have hO := hG.1.2.2.2.1
  have hP := hG.1.1
  subst hq
  obtain ⟨h0, r0, O0, X0⟩ := c_beginOther X hi (by omega)
  generalize ho0 : ckC b n (zO s) 60 i = o0 at X0
  obtain ⟨w1, h1, r1, O1, X1, e1⟩ := c_knownPerson (but := 99) (x := -1) X0 (fun _ => Or.inl ⟨rfl, rfl⟩)
  generalize ho1 : ch o0 (ckP b n s (i + 1) 99) = o1 at X1 e1
  obtain ⟨w2, h2, r2, O2, X2, e2⟩ := c_knownPerson (but := pfi s b n (i + 1)) (x := w1) X1 (fun z => Or.inr ⟨by have := (e1 z).2.1; omega, (e1 z).1⟩)
  generalize ho2 : ch o1 (ckP b n s (i + 2) (pfi s b n (i + 1))) = o2 at X2 e2
  have e2 : o2 = none → w2 = nI (pfi s b n (i + 2)) ∧ pfi s b n (i + 2) < zP s ∧ pfi s b n (i + 2) ≠ pfi s b n (i + 1) := e2
  have OO := (O0.trans O1).trans O2
  cases o2 with
  | some e =>
    obtain ⟨f, p⟩ := e
    have X2 : CF b n f p h2 := X2
    have hne := X2.ne
    refine ⟨h2, ?_, OO, X2⟩
    show Run 3 j_Reader_readPair _ _ _ _
    refine Run.of rfl ?_
    refine Wp.norm (L' := [_, _, _, _]) rfl ?_
    repeat (first | (refine W1 rfl ?_; try refine Wp.norm (L' := [_, _, _, _]) rfl ?_) | ((first | change (_ → _) ∧ (_ → _) | change vp_in _ _ ∧ _ | change ¬ _ ∧ _); simp (disch := omega) only [nI_clamp, nI_leI, nI_ltI, nI_eq, nI_1, nI_add, nI_not_neg, nI_is_pos, nI_m1, nI_z]) | refine brT (by first | assumption | decide | omega) ?_ | refine brF (by first | assumption | decide | omega) ?_ | refine brTn (by first | assumption | decide | omega) ?_ | refine brFn (by first | assumption | decide | omega) ?_ | refine And.intro (vp_in_nI (by omega) (by decide)) ?_ | refine And.intro (vp_lit (by decide)) ?_ | refine divJ (by decide) ?_ | refine divI (by decide) ?_)
    try change _ ∧ _
    refine Cl.of r0 (by decide) ?_
    repeat (first | (refine W1 rfl ?_; try refine Wp.norm (L' := [_, _, _, _]) rfl ?_) | ((first | change (_ → _) ∧ (_ → _) | change vp_in _ _ ∧ _ | change ¬ _ ∧ _); simp (disch := omega) only [nI_clamp, nI_leI, nI_ltI, nI_eq, nI_1, nI_add, nI_not_neg, nI_is_pos, nI_m1, nI_z]) | refine brT (by first | assumption | decide | omega) ?_ | refine brF (by first | assumption | decide | omega) ?_ | refine brTn (by first | assumption | decide | omega) ?_ | refine brFn (by first | assumption | decide | omega) ?_ | refine And.intro (vp_in_nI (by omega) (by decide)) ?_ | refine And.intro (vp_lit (by decide)) ?_ | refine divJ (by decide) ?_ | refine divI (by decide) ?_)
    try change _ ∧ _
    refine Cl.of r1 (by decide) ?_
    repeat (first | (refine W1 rfl ?_; try refine Wp.norm (L' := [_, _, _, _]) rfl ?_) | ((first | change (_ → _) ∧ (_ → _) | change vp_in _ _ ∧ _ | change ¬ _ ∧ _); simp (disch := omega) only [nI_clamp, nI_leI, nI_ltI, nI_eq, nI_1, nI_add, nI_not_neg, nI_is_pos, nI_m1, nI_z]) | refine brT (by first | assumption | decide | omega) ?_ | refine brF (by first | assumption | decide | omega) ?_ | refine brTn (by first | assumption | decide | omega) ?_ | refine brFn (by first | assumption | decide | omega) ?_ | refine And.intro (vp_in_nI (by omega) (by decide)) ?_ | refine And.intro (vp_lit (by decide)) ?_ | refine divJ (by decide) ?_ | refine divI (by decide) ?_)
    try change _ ∧ _
    refine Cl.of r2 (by decide) ?_
    repeat (first | (refine W1 rfl ?_; try refine Wp.norm (L' := [_, _, _, _]) rfl ?_) | ((first | change (_ → _) ∧ (_ → _) | change vp_in _ _ ∧ _ | change ¬ _ ∧ _); simp (disch := omega) only [nI_clamp, nI_leI, nI_ltI, nI_eq, nI_1, nI_add, nI_not_neg, nI_is_pos, nI_m1, nI_z]) | refine brT (by first | assumption | decide | omega) ?_ | refine brF (by first | assumption | decide | omega) ?_ | refine brTn (by first | assumption | decide | omega) ?_ | refine brFn (by first | assumption | decide | omega) ?_ | refine And.intro (vp_in_nI (by omega) (by decide)) ?_ | refine And.intro (vp_lit (by decide)) ?_ | refine divJ (by decide) ?_ | refine divI (by decide) ?_)
    try change _ ∧ _
    try first | exact ⟨rfl, rfl⟩ | exact ⟨Or.inr rfl, rfl, rfl⟩ | exact ⟨Or.inl rfl, rfl, rfl⟩ | exact ⟨trivial, trivial⟩ | exact ⟨rfl, trivial⟩ | exact ⟨Or.inr rfl, rfl, trivial⟩ | exact ⟨Or.inl rfl, rfl, trivial⟩
  | none =>
    have X2 : CS b n (i + 3) s C (zO s + 1) h2 := X2
    have z1 := ch_none1 ho2
    have z0 := ch_none1 (ho1.trans z1)
    have q0 := ckC_n (ho0.trans z0)
    obtain ⟨k1, l1, _⟩ := e1 z1
    obtain ⟨k2, l2, l3⟩ := e2 rfl
    subst k1 k2
    have f7 := X2.f0
    have hn : pfi s b n (i + 1) ≠ pfi s b n (i + 2) := fun z => l3 z.symm
    have ra := r_join24 (x := pfi s b n (i + 1)) (y := pfi s b n (i + 2)) (by omega) (by omega) hn X2.D X2.G
    refine ⟨jW h2 24 (pfi s b n (i + 1)) (pfi s b n (i + 2)) (nI (s 11 (pfi s b n (i + 1)) ||| 2 ^ pfi s b n (i + 2))) (nI (s 11 (pfi s b n (i + 2)) ||| 2 ^ pfi s b n (i + 1))), ?_, (OO.addI (by decide)).addI (by decide), ?_⟩
    rotate_left
    · obtain ⟨k, hi, a1, D, c, g, hb⟩ := X2
      exact ⟨(k.w (by decide)).w (by decide), hi, a1, D.jn24 hn, c, g.jn24 q0 (by omega) (by omega) hn, hb⟩
    · show Run 3 j_Reader_readPair _ _ _ _
      refine Run.of rfl ?_
      refine Wp.norm (L' := [_, _, _, _]) rfl ?_
      repeat (first | (refine W1 rfl ?_; try refine Wp.norm (L' := [_, _, _, _]) rfl ?_) | ((first | change (_ → _) ∧ (_ → _) | change vp_in _ _ ∧ _ | change ¬ _ ∧ _); simp (disch := omega) only [nI_clamp, nI_leI, nI_ltI, nI_eq, nI_1, nI_add, nI_not_neg, nI_is_pos, nI_m1, nI_z]) | refine brT (by first | assumption | decide | omega) ?_ | refine brF (by first | assumption | decide | omega) ?_ | refine brTn (by first | assumption | decide | omega) ?_ | refine brFn (by first | assumption | decide | omega) ?_ | refine And.intro (vp_in_nI (by omega) (by decide)) ?_ | refine And.intro (vp_lit (by decide)) ?_ | refine divJ (by decide) ?_ | refine divI (by decide) ?_)
      try change _ ∧ _
      refine Cl.of r0 (by decide) ?_
      repeat (first | (refine W1 rfl ?_; try refine Wp.norm (L' := [_, _, _, _]) rfl ?_) | ((first | change (_ → _) ∧ (_ → _) | change vp_in _ _ ∧ _ | change ¬ _ ∧ _); simp (disch := omega) only [nI_clamp, nI_leI, nI_ltI, nI_eq, nI_1, nI_add, nI_not_neg, nI_is_pos, nI_m1, nI_z]) | refine brT (by first | assumption | decide | omega) ?_ | refine brF (by first | assumption | decide | omega) ?_ | refine brTn (by first | assumption | decide | omega) ?_ | refine brFn (by first | assumption | decide | omega) ?_ | refine And.intro (vp_in_nI (by omega) (by decide)) ?_ | refine And.intro (vp_lit (by decide)) ?_ | refine divJ (by decide) ?_ | refine divI (by decide) ?_)
      try change _ ∧ _
      refine Cl.of r1 (by decide) ?_
      repeat (first | (refine W1 rfl ?_; try refine Wp.norm (L' := [_, _, _, _]) rfl ?_) | ((first | change (_ → _) ∧ (_ → _) | change vp_in _ _ ∧ _ | change ¬ _ ∧ _); simp (disch := omega) only [nI_clamp, nI_leI, nI_ltI, nI_eq, nI_1, nI_add, nI_not_neg, nI_is_pos, nI_m1, nI_z]) | refine brT (by first | assumption | decide | omega) ?_ | refine brF (by first | assumption | decide | omega) ?_ | refine brTn (by first | assumption | decide | omega) ?_ | refine brFn (by first | assumption | decide | omega) ?_ | refine And.intro (vp_in_nI (by omega) (by decide)) ?_ | refine And.intro (vp_lit (by decide)) ?_ | refine divJ (by decide) ?_ | refine divI (by decide) ?_)
      try change _ ∧ _
      refine Cl.of r2 (by decide) ?_
      repeat (first | (refine W1 rfl ?_; try refine Wp.norm (L' := [_, _, _, _]) rfl ?_) | ((first | change (_ → _) ∧ (_ → _) | change vp_in _ _ ∧ _ | change ¬ _ ∧ _); simp (disch := omega) only [nI_clamp, nI_leI, nI_ltI, nI_eq, nI_1, nI_add, nI_not_neg, nI_is_pos, nI_m1, nI_z, f7]) | refine brT (by first | assumption | decide | omega) ?_ | refine brF (by first | assumption | decide | omega) ?_ | refine brTn (by first | assumption | decide | omega) ?_ | refine brFn (by first | assumption | decide | omega) ?_ | refine And.intro (vp_in_nI (by omega) (by decide)) ?_ | refine And.intro (vp_lit (by decide)) ?_ | refine divJ (by decide) ?_ | refine divI (by decide) ?_)
      try change _ ∧ _
      refine Cl.of ra (by decide) ?_
      repeat (first | (refine W1 rfl ?_; try refine Wp.norm (L' := [_, _, _, _]) rfl ?_) | ((first | change (_ → _) ∧ (_ → _) | change vp_in _ _ ∧ _ | change ¬ _ ∧ _); simp (disch := omega) only [nI_clamp, nI_leI, nI_ltI, nI_eq, nI_1, nI_add, nI_not_neg, nI_is_pos, nI_m1, nI_z]) | refine brT (by first | assumption | decide | omega) ?_ | refine brF (by first | assumption | decide | omega) ?_ | refine brTn (by first | assumption | decide | omega) ?_ | refine brFn (by first | assumption | decide | omega) ?_ | refine And.intro (vp_in_nI (by omega) (by decide)) ?_ | refine And.intro (vp_lit (by decide)) ?_ | refine divJ (by decide) ?_ | refine divI (by decide) ?_)
      try change _ ∧ _
      try first | exact ⟨rfl, rfl⟩ | exact ⟨Or.inr rfl, rfl, rfl⟩ | exact ⟨Or.inl rfl, rfl, rfl⟩ | exact ⟨trivial, trivial⟩ | exact ⟨rfl, trivial⟩ | exact ⟨Or.inr rfl, rfl, trivial⟩ | exact ⟨Or.inl rfl, rfl, trivial⟩
end CSTP
