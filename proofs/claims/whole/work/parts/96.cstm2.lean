/-! ===== THE CLASS READS STATEMENTS: kinds, rests, pairs, tested ones ===== -/
section CSTN
variable {b : Nat → Nat} {n : Nat} {s : ST} {C : List Nat} {h h' : HP}
def kW' (h : HP) (P : Nat) (x y : Int32) : HP := wI (wI (wI h 25 P x) 26 P y) 18 2 (nI (P + 1))
theorem DC.knd {i : Nat} (D : DC s h) : DC (adK b n s i) (kW' h (zK s) (nI (tV b n (i + 1))) (nI (tV b n (i + 3)))) := by
  obtain ⟨⟨d1, d2, d3, d4, d5, d6⟩, d7, d8, d9, d10, d11⟩ := D
  refine ⟨⟨d1, d2, rfl, d4, d5, d6⟩, d7, d8, fun p hp => ?_, d10, d11⟩
  have hp : p < zK s + 1 := hp
  unfold kW'
  by_cases e : p = zK s
  · subst e
    simp [wI, va_up, upd, adK, sU]
  · have := d9 p (by omega)
    simp [wI, va_up, upd, adK, sU, e]
    exact this
theorem GB.knd {i : Nat} (D : GB s) (hb : ∀ k, k < n → b k < 256) (h1 : zK s < 6) : GB (adK b n s i) := by
  obtain ⟨⟨d1, d2, d3, d4, d5, d6, d7⟩, d8, d9, d10, d11⟩ := D
  refine ⟨⟨d1, h1, d3, d4, d5, d6, d7⟩, d8, d9, d10, fun p hp => ?_⟩
  have hp : p < zK s + 1 := hp
  by_cases e : p = zK s
  · subst e
    simp [adK, sU]
    exact tV_lt hb _
  · simp [adK, sU, e]
    exact d11 p (by omega)
theorem c_kind {i q : Nat} (X : CS b n i s C q h) (hi : ps b n i < n) : ∃ h', Run 3 j_Reader_readKind [.ref 17] h none h' ∧ onlyJ rdL [] h h' ∧ CZ b n (ch (ch (ch (ckC b n (zK s) 6 i) (ckW b n s (i + 1))) (ckO b n (i + 2) 6)) (ckN b n (i + 3) 0 9)) (i + 4) (adK b n s i) C q h' := by
  have hG := X.G
  have hK := hG.1.2.1
  have eP := X.D.1.2.2.1
  obtain ⟨h0, r0, O0, X0, _⟩ := c_beginCounted (t := zK s) (m := 6) X hi (by omega) (by decide)
  rw [← eP] at r0
  generalize ho0 : ckC b n (zK s) 6 i = o0 at X0
  obtain ⟨w1, h1, r1, O1, X1, e1⟩ := c_newName X0
  generalize ho1 : ch o0 (ckW b n s (i + 1)) = o1 at X1 e1
  obtain ⟨h2, r2, O2, X2⟩ := c_expectOwn (w := 6) X1 (by decide)
  generalize ho2 : ch o1 (ckO b n (i + 2) 6) = o2 at X2
  obtain ⟨w3, h3, r3, O3, X3, e3⟩ := c_number (l := 0) (u := 9) (lo := 0) (hi := 9) X2 (fun _ => ⟨rfl, by decide⟩) (fun _ => ⟨rfl, by decide⟩)
  generalize ho3 : ch o2 (ckN b n (i + 3) 0 9) = o3 at X3 e3
  have OO := ((O0.trans O1).trans O2).trans O3
  cases o3 with
  | some e =>
    obtain ⟨f, p⟩ := e
    have X3 : CF b n f p h3 := X3
    have hne := X3.ne
    refine ⟨h3, ?_, OO, X3⟩
    show Run 3 j_Reader_readKind _ _ _ _
    refine Run.of rfl ?_
    refine Wp.norm (L' := [_, _, _]) rfl ?_
    repeat (first | (refine W1 rfl ?_; try refine Wp.norm (L' := [_, _, _]) rfl ?_) | ((first | change (_ → _) ∧ (_ → _) | change vp_in _ _ ∧ _ | change ¬ _ ∧ _); simp (disch := omega) only [nI_clamp, nI_leI, nI_ltI, nI_eq, nI_1, nI_add, nI_not_neg, nI_is_pos, nI_m1, nI_z]) | refine brT (by first | assumption | decide | omega) ?_ | refine brF (by first | assumption | decide | omega) ?_ | refine brTn (by first | assumption | decide | omega) ?_ | refine brFn (by first | assumption | decide | omega) ?_ | refine And.intro (vp_in_nI (by omega) (by decide)) ?_ | refine And.intro (vp_lit (by decide)) ?_ | refine divJ (by decide) ?_ | refine divI (by decide) ?_)
    try change _ ∧ _
    refine Cl.of r0 (by decide) ?_
    repeat (first | (refine W1 rfl ?_; try refine Wp.norm (L' := [_, _, _]) rfl ?_) | ((first | change (_ → _) ∧ (_ → _) | change vp_in _ _ ∧ _ | change ¬ _ ∧ _); simp (disch := omega) only [nI_clamp, nI_leI, nI_ltI, nI_eq, nI_1, nI_add, nI_not_neg, nI_is_pos, nI_m1, nI_z]) | refine brT (by first | assumption | decide | omega) ?_ | refine brF (by first | assumption | decide | omega) ?_ | refine brTn (by first | assumption | decide | omega) ?_ | refine brFn (by first | assumption | decide | omega) ?_ | refine And.intro (vp_in_nI (by omega) (by decide)) ?_ | refine And.intro (vp_lit (by decide)) ?_ | refine divJ (by decide) ?_ | refine divI (by decide) ?_)
    try change _ ∧ _
    refine Cl.of r1 (by decide) ?_
    repeat (first | (refine W1 rfl ?_; try refine Wp.norm (L' := [_, _, _]) rfl ?_) | ((first | change (_ → _) ∧ (_ → _) | change vp_in _ _ ∧ _ | change ¬ _ ∧ _); simp (disch := omega) only [nI_clamp, nI_leI, nI_ltI, nI_eq, nI_1, nI_add, nI_not_neg, nI_is_pos, nI_m1, nI_z]) | refine brT (by first | assumption | decide | omega) ?_ | refine brF (by first | assumption | decide | omega) ?_ | refine brTn (by first | assumption | decide | omega) ?_ | refine brFn (by first | assumption | decide | omega) ?_ | refine And.intro (vp_in_nI (by omega) (by decide)) ?_ | refine And.intro (vp_lit (by decide)) ?_ | refine divJ (by decide) ?_ | refine divI (by decide) ?_)
    try change _ ∧ _
    refine Cl.of r2 (by decide) ?_
    repeat (first | (refine W1 rfl ?_; try refine Wp.norm (L' := [_, _, _]) rfl ?_) | ((first | change (_ → _) ∧ (_ → _) | change vp_in _ _ ∧ _ | change ¬ _ ∧ _); simp (disch := omega) only [nI_clamp, nI_leI, nI_ltI, nI_eq, nI_1, nI_add, nI_not_neg, nI_is_pos, nI_m1, nI_z]) | refine brT (by first | assumption | decide | omega) ?_ | refine brF (by first | assumption | decide | omega) ?_ | refine brTn (by first | assumption | decide | omega) ?_ | refine brFn (by first | assumption | decide | omega) ?_ | refine And.intro (vp_in_nI (by omega) (by decide)) ?_ | refine And.intro (vp_lit (by decide)) ?_ | refine divJ (by decide) ?_ | refine divI (by decide) ?_)
    try change _ ∧ _
    refine Cl.of r3 (by decide) ?_
    repeat (first | (refine W1 rfl ?_; try refine Wp.norm (L' := [_, _, _]) rfl ?_) | ((first | change (_ → _) ∧ (_ → _) | change vp_in _ _ ∧ _ | change ¬ _ ∧ _); simp (disch := omega) only [nI_clamp, nI_leI, nI_ltI, nI_eq, nI_1, nI_add, nI_not_neg, nI_is_pos, nI_m1, nI_z]) | refine brT (by first | assumption | decide | omega) ?_ | refine brF (by first | assumption | decide | omega) ?_ | refine brTn (by first | assumption | decide | omega) ?_ | refine brFn (by first | assumption | decide | omega) ?_ | refine And.intro (vp_in_nI (by omega) (by decide)) ?_ | refine And.intro (vp_lit (by decide)) ?_ | refine divJ (by decide) ?_ | refine divI (by decide) ?_)
    try change _ ∧ _
    try first | exact ⟨rfl, rfl⟩ | exact ⟨Or.inr rfl, rfl, rfl⟩ | exact ⟨Or.inl rfl, rfl, rfl⟩ | exact ⟨trivial, trivial⟩ | exact ⟨rfl, trivial⟩ | exact ⟨Or.inr rfl, rfl, trivial⟩ | exact ⟨Or.inl rfl, rfl, trivial⟩
  | none =>
    have X3 : CS b n (i + 4) s C q h3 := X3
    have z2 := ch_none1 ho3
    have z1 := ch_none1 (ho2.trans z2)
    have z0 := ch_none1 (ho1.trans z1)
    have q0 := ckC_n (ho0.trans z0)
    have k1 := e1 z1
    have k3 := e3 rfl
    subst k1 k3
    have f7 := X3.f0
    have p7 := X3.D.1.2.2.1
    refine ⟨kW' h3 (zK s) (nI (tV b n (i + 1))) (nI (tV b n (i + 3))), ?_, ((OO.addI (by decide)).addI (by decide)).addI (by decide), ?_⟩
    · show Run 3 j_Reader_readKind _ _ _ _
      refine Run.of rfl ?_
      refine Wp.norm (L' := [_, _, _]) rfl ?_
      repeat (first | (refine W1 rfl ?_; try refine Wp.norm (L' := [_, _, _]) rfl ?_) | ((first | change (_ → _) ∧ (_ → _) | change vp_in _ _ ∧ _ | change ¬ _ ∧ _); simp (disch := omega) only [nI_clamp, nI_leI, nI_ltI, nI_eq, nI_1, nI_add, nI_not_neg, nI_is_pos, nI_m1, nI_z]) | refine brT (by first | assumption | decide | omega) ?_ | refine brF (by first | assumption | decide | omega) ?_ | refine brTn (by first | assumption | decide | omega) ?_ | refine brFn (by first | assumption | decide | omega) ?_ | refine And.intro (vp_in_nI (by omega) (by decide)) ?_ | refine And.intro (vp_lit (by decide)) ?_ | refine divJ (by decide) ?_ | refine divI (by decide) ?_)
      try change _ ∧ _
      refine Cl.of r0 (by decide) ?_
      repeat (first | (refine W1 rfl ?_; try refine Wp.norm (L' := [_, _, _]) rfl ?_) | ((first | change (_ → _) ∧ (_ → _) | change vp_in _ _ ∧ _ | change ¬ _ ∧ _); simp (disch := omega) only [nI_clamp, nI_leI, nI_ltI, nI_eq, nI_1, nI_add, nI_not_neg, nI_is_pos, nI_m1, nI_z]) | refine brT (by first | assumption | decide | omega) ?_ | refine brF (by first | assumption | decide | omega) ?_ | refine brTn (by first | assumption | decide | omega) ?_ | refine brFn (by first | assumption | decide | omega) ?_ | refine And.intro (vp_in_nI (by omega) (by decide)) ?_ | refine And.intro (vp_lit (by decide)) ?_ | refine divJ (by decide) ?_ | refine divI (by decide) ?_)
      try change _ ∧ _
      refine Cl.of r1 (by decide) ?_
      repeat (first | (refine W1 rfl ?_; try refine Wp.norm (L' := [_, _, _]) rfl ?_) | ((first | change (_ → _) ∧ (_ → _) | change vp_in _ _ ∧ _ | change ¬ _ ∧ _); simp (disch := omega) only [nI_clamp, nI_leI, nI_ltI, nI_eq, nI_1, nI_add, nI_not_neg, nI_is_pos, nI_m1, nI_z]) | refine brT (by first | assumption | decide | omega) ?_ | refine brF (by first | assumption | decide | omega) ?_ | refine brTn (by first | assumption | decide | omega) ?_ | refine brFn (by first | assumption | decide | omega) ?_ | refine And.intro (vp_in_nI (by omega) (by decide)) ?_ | refine And.intro (vp_lit (by decide)) ?_ | refine divJ (by decide) ?_ | refine divI (by decide) ?_)
      try change _ ∧ _
      refine Cl.of r2 (by decide) ?_
      repeat (first | (refine W1 rfl ?_; try refine Wp.norm (L' := [_, _, _]) rfl ?_) | ((first | change (_ → _) ∧ (_ → _) | change vp_in _ _ ∧ _ | change ¬ _ ∧ _); simp (disch := omega) only [nI_clamp, nI_leI, nI_ltI, nI_eq, nI_1, nI_add, nI_not_neg, nI_is_pos, nI_m1, nI_z]) | refine brT (by first | assumption | decide | omega) ?_ | refine brF (by first | assumption | decide | omega) ?_ | refine brTn (by first | assumption | decide | omega) ?_ | refine brFn (by first | assumption | decide | omega) ?_ | refine And.intro (vp_in_nI (by omega) (by decide)) ?_ | refine And.intro (vp_lit (by decide)) ?_ | refine divJ (by decide) ?_ | refine divI (by decide) ?_)
      try change _ ∧ _
      refine Cl.of r3 (by decide) ?_
      repeat (first | (refine W1 rfl ?_; try refine Wp.norm (L' := [_, _, _]) rfl ?_) | ((first | change (_ → _) ∧ (_ → _) | change vp_in _ _ ∧ _ | change ¬ _ ∧ _); simp (disch := omega) only [nI_clamp, nI_leI, nI_ltI, nI_eq, nI_1, nI_add, nI_not_neg, nI_is_pos, nI_m1, nI_z, f7, p7, wI_ne, show (6 : Int32) = nI 6 from rfl]) | refine brT (by first | assumption | decide | omega) ?_ | refine brF (by first | assumption | decide | omega) ?_ | refine brTn (by first | assumption | decide | omega) ?_ | refine brFn (by first | assumption | decide | omega) ?_ | refine And.intro (vp_in_nI (by omega) (by decide)) ?_ | refine And.intro (vp_lit (by decide)) ?_ | refine divJ (by decide) ?_ | refine divI (by decide) ?_)
      try change _ ∧ _
      simp (disch := omega) only [p7, wI_ne, wI_ne2, nI_clamp, nI_1, nI_add]
      exact ⟨trivial, rfl⟩
    · obtain ⟨k, hi, a1, D, c, g, hb⟩ := X3
      exact ⟨((k.w (by decide)).w (by decide)).w (by decide), hi, a1, D.knd, c, g.knd hb q0, hb⟩
/-! a rest -/
def rW (h : HP) (at' : Nat) (x y : Int32) : HP := wI (wI h 27 at' x) 18 4 y
theorem DC.rst {x y z : Nat} (D : DC s h) (hx : x < 6) (hy : y < 6) : DC (adR s x y z) (rW h (x * 6 + y) (nI (max (kR s (x * 6 + y)) z)) (nI (max (zL s) z))) := by
  obtain ⟨⟨d1, d2, d3, d4, d5, d6⟩, d7, d8, d9, d10, d11⟩ := D
  refine ⟨⟨d1, d2, d3, d4, rfl, d6⟩, d7, d8, d9, fun p hp => ?_, d11⟩
  unfold rW
  by_cases e : p = x * 6 + y
  · subst e
    simp [wI, va_up, upd, adR, adO, sU]
  · have := d10 p hp
    simp [wI, va_up, upd, adR, adO, sU, e]
    exact this
theorem GB.rst {x y z : Nat} (D : GB s) (hz : z ≤ 30) (hO : zO s < 60) (hx : x < 6) (hy : y < 6) : GB (adR s x y z) := by
  obtain ⟨⟨d1, d2, d3, d4, d5, d6, d7⟩, d8, d9, d10, d11⟩ := D
  have h8 := d8 (x * 6 + y) (by omega)
  refine ⟨⟨d1, d2, d3, hO, ?_, ?_, d7⟩, fun p hp => ?_, d9, d10, d11⟩
  · show s 0 7 ≤ zO s + 1
    omega
  · show max (zL s) z ≤ 30
    omega
  · by_cases e : p = x * 6 + y
    · subst e
      simp [adR, adO, sU]
      exact Nat.max_le.mpr ⟨h8, hz⟩
    · simp [adR, adO, sU, e]
      exact d8 p hp
theorem r_askRest {x y z : Nat} (hx : x < 6) (hy : y < 6) (hz : z ≤ 30) (D : DC s h) (g : GB s) : Run 1 j_House_askRest [.ref 18, .int (nI x), .int (nI y), .int (nI z)] h none (rW h (x * 6 + y) (nI (max (kR s (x * 6 + y)) z)) (nI (max (zL s) z))) := by
  have e1 := D.2.2.2.2.1 (x * 6 + y) (by omega)
  have e2 := D.1.2.2.2.2.1
  have g1 := g.2.1 (x * 6 + y) (by omega)
  have g2 := g.1.2.2.2.2.2.1
  have em : nI x * 6 = nI (x * 6) := by rw [show (6 : Int32) = nI 6 from rfl, pk_mul]
  have m1 := mx_nI (a := kR s (x * 6 + y)) (c := z) (by omega) (by omega)
  have m2 := mx_nI (a := zL s) (c := z) (by omega) (by omega)
  have rm1 := fun h' => r_max h' (nI (kR s (x * 6 + y))) (nI z)
  have rm2 := fun h' => r_max h' (nI (zL s)) (nI z)
  rw [m1] at rm1
  rw [m2] at rm2
  refine Run.of rfl ?_
  refine Wp.norm (L' := [_, _, _, _, _]) rfl ?_
  repeat (first | (refine W1 rfl ?_; try refine Wp.norm (L' := [_, _, _, _, _]) rfl ?_) | ((first | change (_ → _) ∧ (_ → _) | change vp_in _ _ ∧ _ | change ¬ _ ∧ _); simp (disch := omega) only [nI_clamp, nI_leI, nI_ltI, nI_eq, nI_1, nI_add, nI_not_neg, nI_is_pos, nI_m1, nI_z, em, e1]) | refine brT (by first | assumption | decide | omega) ?_ | refine brF (by first | assumption | decide | omega) ?_ | refine brTn (by first | assumption | decide | omega) ?_ | refine brFn (by first | assumption | decide | omega) ?_ | refine And.intro (vp_in_nI (by omega) (by decide)) ?_ | refine And.intro (vp_lit (by decide)) ?_ | refine divJ (by decide) ?_ | refine divI (by decide) ?_)
  try change _ ∧ _
  refine Cl.ofA (rm1 _) (by first | done | rfl | (simp (disch := omega) only [nI_1, nI_add, nI_clamp, em, e1] <;> first | done | rfl)) (by decide) ?_
  repeat (first | (refine W1 rfl ?_; try refine Wp.norm (L' := [_, _, _, _, _]) rfl ?_) | ((first | change (_ → _) ∧ (_ → _) | change vp_in _ _ ∧ _ | change ¬ _ ∧ _); simp (disch := omega) only [nI_clamp, nI_leI, nI_ltI, nI_eq, nI_1, nI_add, nI_not_neg, nI_is_pos, nI_m1, nI_z, em, e1]) | refine brT (by first | assumption | decide | omega) ?_ | refine brF (by first | assumption | decide | omega) ?_ | refine brTn (by first | assumption | decide | omega) ?_ | refine brFn (by first | assumption | decide | omega) ?_ | refine And.intro (vp_in_nI (by omega) (by decide)) ?_ | refine And.intro (vp_lit (by decide)) ?_ | refine divJ (by decide) ?_ | refine divI (by decide) ?_)
  try change _ ∧ _
  refine Cl.ofA (rm2 _) (by first | done | rfl | (simp (disch := omega) only [nI_1, nI_add, nI_clamp, wI_ne, e2] <;> first | done | rfl)) (by decide) ?_
  repeat (first | (refine W1 rfl ?_; try refine Wp.norm (L' := [_, _, _, _, _]) rfl ?_) | ((first | change (_ → _) ∧ (_ → _) | change vp_in _ _ ∧ _ | change ¬ _ ∧ _); simp (disch := omega) only [nI_clamp, nI_leI, nI_ltI, nI_eq, nI_1, nI_add, nI_not_neg, nI_is_pos, nI_m1, nI_z, em, e1]) | refine brT (by first | assumption | decide | omega) ?_ | refine brF (by first | assumption | decide | omega) ?_ | refine brTn (by first | assumption | decide | omega) ?_ | refine brFn (by first | assumption | decide | omega) ?_ | refine And.intro (vp_in_nI (by omega) (by decide)) ?_ | refine And.intro (vp_lit (by decide)) ?_ | refine divJ (by decide) ?_ | refine divI (by decide) ?_)
  try change _ ∧ _
  simp (disch := omega) only [em, nI_add, nI_clamp]
  exact ⟨trivial, rfl⟩
theorem c_rest {i q : Nat} (X : CS b n i s C q h) (hi : ps b n i < n) (hq : q = zO s) : ∃ h', Run 3 j_Reader_readRest [.ref 17] h none h' ∧ onlyJ rdL [] h h' ∧ CZ b n (ch (ch (ch (ckC b n (zO s) 60 i) (ckK b n s (i + 1))) (ckK b n s (i + 2))) (ckN b n (i + 3) 1 30)) (i + 4) (adR s (kfi b n s (i + 1)) (kfi b n s (i + 2)) (tV b n (i + 3))) C (q + 1) h' := by
  have hG := X.G
  have hO := hG.1.2.2.2.1
  have hK := hG.1.2.1
  subst hq
  obtain ⟨h0, r0, O0, X0⟩ := c_beginOther X hi (by omega)
  generalize ho0 : ckC b n (zO s) 60 i = o0 at X0
  obtain ⟨w1, h1, r1, O1, X1, e1⟩ := c_knownKind X0
  generalize ho1 : ch o0 (ckK b n s (i + 1)) = o1 at X1 e1
  obtain ⟨w2, h2, r2, O2, X2, e2⟩ := c_knownKind X1
  generalize ho2 : ch o1 (ckK b n s (i + 2)) = o2 at X2 e2
  have e2 : o2 = none → w2 = nI (kfi b n s (i + 2)) ∧ kfi b n s (i + 2) < zK s := e2
  obtain ⟨w3, h3, r3, O3, X3, e3⟩ := c_number (l := 1) (u := 30) (lo := 1) (hi := 30) X2 (fun _ => ⟨rfl, by decide⟩) (fun _ => ⟨rfl, by decide⟩)
  generalize ho3 : ch o2 (ckN b n (i + 3) 1 30) = o3 at X3 e3
  have OO := ((O0.trans O1).trans O2).trans O3
  cases o3 with
  | some e =>
    obtain ⟨f, p⟩ := e
    have X3 : CF b n f p h3 := X3
    have hne := X3.ne
    refine ⟨h3, ?_, OO, X3⟩
    show Run 3 j_Reader_readRest _ _ _ _
    refine Run.of rfl ?_
    refine Wp.norm (L' := [_, _, _, _]) rfl ?_
    repeat (first | (refine W1 rfl ?_; try refine Wp.norm (L' := [_, _, _, _]) rfl ?_) | ((first | change (_ → _) ∧ (_ → _) | change vp_in _ _ ∧ _ | change ¬ _ ∧ _); simp (disch := omega) only [nI_clamp, nI_leI, nI_ltI, nI_eq, nI_1, nI_add, nI_not_neg, nI_is_pos, nI_m1, nI_z]) | refine brT (by first | assumption | decide | omega) ?_ | refine brF (by first | assumption | decide | omega) ?_ | refine brTn (by first | assumption | decide | omega) ?_ | refine brFn (by first | assumption | decide | omega) ?_ | refine And.intro (vp_in_nI (by omega) (by decide)) ?_ | refine And.intro (vp_lit (by decide)) ?_ | refine divJ (by decide) ?_ | refine divI (by decide) ?_)
    try change _ ∧ _
    refine Cl.of r0 (by decide) ?_
    repeat (first | (refine W1 rfl ?_; try refine Wp.norm (L' := [_, _, _, _]) rfl ?_) | ((first | change (_ → _) ∧ (_ → _) | change vp_in _ _ ∧ _ | change ¬ _ ∧ _); simp (disch := omega) only [nI_clamp, nI_leI, nI_ltI, nI_eq, nI_1, nI_add, nI_not_neg, nI_is_pos, nI_m1, nI_z]) | refine brT (by first | assumption | decide | omega) ?_ | refine brF (by first | assumption | decide | omega) ?_ | refine brTn (by first | assumption | decide | omega) ?_ | refine brFn (by first | assumption | decide | omega) ?_ | refine And.intro (vp_in_nI (by omega) (by decide)) ?_ | refine And.intro (vp_lit (by decide)) ?_ | refine divJ (by decide) ?_ | refine divI (by decide) ?_)
    try change _ ∧ _
    refine Cl.of r1 (by decide) ?_
    repeat (first | (refine W1 rfl ?_; try refine Wp.norm (L' := [_, _, _, _]) rfl ?_) | ((first | change (_ → _) ∧ (_ → _) | change vp_in _ _ ∧ _ | change ¬ _ ∧ _); simp (disch := omega) only [nI_clamp, nI_leI, nI_ltI, nI_eq, nI_1, nI_add, nI_not_neg, nI_is_pos, nI_m1, nI_z]) | refine brT (by first | assumption | decide | omega) ?_ | refine brF (by first | assumption | decide | omega) ?_ | refine brTn (by first | assumption | decide | omega) ?_ | refine brFn (by first | assumption | decide | omega) ?_ | refine And.intro (vp_in_nI (by omega) (by decide)) ?_ | refine And.intro (vp_lit (by decide)) ?_ | refine divJ (by decide) ?_ | refine divI (by decide) ?_)
    try change _ ∧ _
    refine Cl.of r2 (by decide) ?_
    repeat (first | (refine W1 rfl ?_; try refine Wp.norm (L' := [_, _, _, _]) rfl ?_) | ((first | change (_ → _) ∧ (_ → _) | change vp_in _ _ ∧ _ | change ¬ _ ∧ _); simp (disch := omega) only [nI_clamp, nI_leI, nI_ltI, nI_eq, nI_1, nI_add, nI_not_neg, nI_is_pos, nI_m1, nI_z]) | refine brT (by first | assumption | decide | omega) ?_ | refine brF (by first | assumption | decide | omega) ?_ | refine brTn (by first | assumption | decide | omega) ?_ | refine brFn (by first | assumption | decide | omega) ?_ | refine And.intro (vp_in_nI (by omega) (by decide)) ?_ | refine And.intro (vp_lit (by decide)) ?_ | refine divJ (by decide) ?_ | refine divI (by decide) ?_)
    try change _ ∧ _
    refine Cl.of r3 (by decide) ?_
    repeat (first | (refine W1 rfl ?_; try refine Wp.norm (L' := [_, _, _, _]) rfl ?_) | ((first | change (_ → _) ∧ (_ → _) | change vp_in _ _ ∧ _ | change ¬ _ ∧ _); simp (disch := omega) only [nI_clamp, nI_leI, nI_ltI, nI_eq, nI_1, nI_add, nI_not_neg, nI_is_pos, nI_m1, nI_z]) | refine brT (by first | assumption | decide | omega) ?_ | refine brF (by first | assumption | decide | omega) ?_ | refine brTn (by first | assumption | decide | omega) ?_ | refine brFn (by first | assumption | decide | omega) ?_ | refine And.intro (vp_in_nI (by omega) (by decide)) ?_ | refine And.intro (vp_lit (by decide)) ?_ | refine divJ (by decide) ?_ | refine divI (by decide) ?_)
    try change _ ∧ _
    try first | exact ⟨rfl, rfl⟩ | exact ⟨Or.inr rfl, rfl, rfl⟩ | exact ⟨Or.inl rfl, rfl, rfl⟩ | exact ⟨trivial, trivial⟩ | exact ⟨rfl, trivial⟩ | exact ⟨Or.inr rfl, rfl, trivial⟩ | exact ⟨Or.inl rfl, rfl, trivial⟩
  | none =>
    have X3 : CS b n (i + 4) s C (zO s + 1) h3 := X3
    have z2 := ch_none1 ho3
    have z1 := ch_none1 (ho2.trans z2)
    have z0 := ch_none1 (ho1.trans z1)
    have q0 := ckC_n (ho0.trans z0)
    obtain ⟨k1, l1⟩ := e1 z1
    obtain ⟨k2, l2⟩ := e2 z2
    have k3 := e3 rfl
    subst k1 k2 k3
    obtain ⟨_, c2, c3⟩ := ckN_n (ch_none.mp ho3).2
    have f7 := X3.f0
    have ra := r_askRest (x := kfi b n s (i + 1)) (y := kfi b n s (i + 2)) (z := tV b n (i + 3)) (by omega) (by omega) c3 X3.D X3.G
    refine ⟨rW h3 (kfi b n s (i + 1) * 6 + kfi b n s (i + 2)) (nI (max (kR s (kfi b n s (i + 1) * 6 + kfi b n s (i + 2))) (tV b n (i + 3)))) (nI (max (zL s) (tV b n (i + 3)))), ?_, (OO.addI (by decide)).addI (by decide), ?_⟩
    rotate_left
    · obtain ⟨k, hi, a1, D, c, g, hb⟩ := X3
      exact ⟨(k.w (by decide)).w (by decide), hi, a1, D.rst (by omega) (by omega), c, g.rst c3 q0 (by omega) (by omega), hb⟩
    · show Run 3 j_Reader_readRest _ _ _ _
      refine Run.of rfl ?_
      refine Wp.norm (L' := [_, _, _, _]) rfl ?_
      repeat (first | (refine W1 rfl ?_; try refine Wp.norm (L' := [_, _, _, _]) rfl ?_) | ((first | change (_ → _) ∧ (_ → _) | change vp_in _ _ ∧ _ | change ¬ _ ∧ _); simp (disch := omega) only [nI_clamp, nI_leI, nI_ltI, nI_eq, nI_1, nI_add, nI_not_neg, nI_is_pos, nI_m1, nI_z]) | refine brT (by first | assumption | decide | omega) ?_ | refine brF (by first | assumption | decide | omega) ?_ | refine brTn (by first | assumption | decide | omega) ?_ | refine brFn (by first | assumption | decide | omega) ?_ | refine And.intro (vp_in_nI (by omega) (by decide)) ?_ | refine And.intro (vp_lit (by decide)) ?_ | refine divJ (by decide) ?_ | refine divI (by decide) ?_)
      try change _ ∧ _
      refine Cl.of r0 (by decide) ?_
      repeat (first | (refine W1 rfl ?_; try refine Wp.norm (L' := [_, _, _, _]) rfl ?_) | ((first | change (_ → _) ∧ (_ → _) | change vp_in _ _ ∧ _ | change ¬ _ ∧ _); simp (disch := omega) only [nI_clamp, nI_leI, nI_ltI, nI_eq, nI_1, nI_add, nI_not_neg, nI_is_pos, nI_m1, nI_z]) | refine brT (by first | assumption | decide | omega) ?_ | refine brF (by first | assumption | decide | omega) ?_ | refine brTn (by first | assumption | decide | omega) ?_ | refine brFn (by first | assumption | decide | omega) ?_ | refine And.intro (vp_in_nI (by omega) (by decide)) ?_ | refine And.intro (vp_lit (by decide)) ?_ | refine divJ (by decide) ?_ | refine divI (by decide) ?_)
      try change _ ∧ _
      refine Cl.of r1 (by decide) ?_
      repeat (first | (refine W1 rfl ?_; try refine Wp.norm (L' := [_, _, _, _]) rfl ?_) | ((first | change (_ → _) ∧ (_ → _) | change vp_in _ _ ∧ _ | change ¬ _ ∧ _); simp (disch := omega) only [nI_clamp, nI_leI, nI_ltI, nI_eq, nI_1, nI_add, nI_not_neg, nI_is_pos, nI_m1, nI_z]) | refine brT (by first | assumption | decide | omega) ?_ | refine brF (by first | assumption | decide | omega) ?_ | refine brTn (by first | assumption | decide | omega) ?_ | refine brFn (by first | assumption | decide | omega) ?_ | refine And.intro (vp_in_nI (by omega) (by decide)) ?_ | refine And.intro (vp_lit (by decide)) ?_ | refine divJ (by decide) ?_ | refine divI (by decide) ?_)
      try change _ ∧ _
      refine Cl.of r2 (by decide) ?_
      repeat (first | (refine W1 rfl ?_; try refine Wp.norm (L' := [_, _, _, _]) rfl ?_) | ((first | change (_ → _) ∧ (_ → _) | change vp_in _ _ ∧ _ | change ¬ _ ∧ _); simp (disch := omega) only [nI_clamp, nI_leI, nI_ltI, nI_eq, nI_1, nI_add, nI_not_neg, nI_is_pos, nI_m1, nI_z]) | refine brT (by first | assumption | decide | omega) ?_ | refine brF (by first | assumption | decide | omega) ?_ | refine brTn (by first | assumption | decide | omega) ?_ | refine brFn (by first | assumption | decide | omega) ?_ | refine And.intro (vp_in_nI (by omega) (by decide)) ?_ | refine And.intro (vp_lit (by decide)) ?_ | refine divJ (by decide) ?_ | refine divI (by decide) ?_)
      try change _ ∧ _
      refine Cl.of r3 (by decide) ?_
      repeat (first | (refine W1 rfl ?_; try refine Wp.norm (L' := [_, _, _, _]) rfl ?_) | ((first | change (_ → _) ∧ (_ → _) | change vp_in _ _ ∧ _ | change ¬ _ ∧ _); simp (disch := omega) only [nI_clamp, nI_leI, nI_ltI, nI_eq, nI_1, nI_add, nI_not_neg, nI_is_pos, nI_m1, nI_z, f7]) | refine brT (by first | assumption | decide | omega) ?_ | refine brF (by first | assumption | decide | omega) ?_ | refine brTn (by first | assumption | decide | omega) ?_ | refine brFn (by first | assumption | decide | omega) ?_ | refine And.intro (vp_in_nI (by omega) (by decide)) ?_ | refine And.intro (vp_lit (by decide)) ?_ | refine divJ (by decide) ?_ | refine divI (by decide) ?_)
      try change _ ∧ _
      refine Cl.of ra (by decide) ?_
      repeat (first | (refine W1 rfl ?_; try refine Wp.norm (L' := [_, _, _, _]) rfl ?_) | ((first | change (_ → _) ∧ (_ → _) | change vp_in _ _ ∧ _ | change ¬ _ ∧ _); simp (disch := omega) only [nI_clamp, nI_leI, nI_ltI, nI_eq, nI_1, nI_add, nI_not_neg, nI_is_pos, nI_m1, nI_z]) | refine brT (by first | assumption | decide | omega) ?_ | refine brF (by first | assumption | decide | omega) ?_ | refine brTn (by first | assumption | decide | omega) ?_ | refine brFn (by first | assumption | decide | omega) ?_ | refine And.intro (vp_in_nI (by omega) (by decide)) ?_ | refine And.intro (vp_lit (by decide)) ?_ | refine divJ (by decide) ?_ | refine divI (by decide) ?_)
      try change _ ∧ _
      try first | exact ⟨rfl, rfl⟩ | exact ⟨Or.inr rfl, rfl, rfl⟩ | exact ⟨Or.inl rfl, rfl, rfl⟩ | exact ⟨trivial, trivial⟩ | exact ⟨rfl, trivial⟩ | exact ⟨Or.inr rfl, rfl, trivial⟩ | exact ⟨Or.inl rfl, rfl, trivial⟩
end CSTN
