/-! ===== THE CLASS READS STATEMENTS ===== -/
theorem nI_subN {a c : Nat} (hc : c ≤ a) : nI a - nI c = nI (a - c) := by
  rw [show nI a = nI (a - c) + nI c by rw [nI_add, Nat.sub_add_cancel hc], Int32.add_sub_cancel]
theorem r_max (h : HP) (x y : Int32) : Run 0 j_Math_max [.int x, .int y] h (some (.int (if x < y then y else x))) h := by
  refine Run.of rfl ?_
  refine Wp.norm (L' := [_, _]) rfl ?_
  repeat (first | (refine W1 rfl ?_; try refine Wp.norm (L' := [_, _]) rfl ?_) | ((first | change (_ → _) ∧ (_ → _) | change vp_in _ _ ∧ _ | change ¬ _ ∧ _); simp (disch := omega) only [nI_clamp, nI_leI, nI_ltI, nI_eq, nI_1, nI_add, nI_not_neg, nI_is_pos, nI_m1, nI_z]) | refine brT (by first | assumption | decide | omega) ?_ | refine brF (by first | assumption | decide | omega) ?_ | refine brTn (by first | assumption | decide | omega) ?_ | refine brFn (by first | assumption | decide | omega) ?_ | refine And.intro (vp_in_nI (by omega) (by decide)) ?_ | refine And.intro (vp_lit (by decide)) ?_ | refine divJ (by decide) ?_ | refine divI (by decide) ?_)
  try change _ ∧ _
  refine ⟨fun q => ?_, fun q => ?_⟩
  · repeat (first | (refine W1 rfl ?_; try refine Wp.norm (L' := [_, _]) rfl ?_) | ((first | change (_ → _) ∧ (_ → _) | change vp_in _ _ ∧ _ | change ¬ _ ∧ _); simp (disch := omega) only [nI_clamp, nI_leI, nI_ltI, nI_eq, nI_1, nI_add, nI_not_neg, nI_is_pos, nI_m1, nI_z]) | refine brT (by first | assumption | decide | omega) ?_ | refine brF (by first | assumption | decide | omega) ?_ | refine brTn (by first | assumption | decide | omega) ?_ | refine brFn (by first | assumption | decide | omega) ?_ | refine And.intro (vp_in_nI (by omega) (by decide)) ?_ | refine And.intro (vp_lit (by decide)) ?_ | refine divJ (by decide) ?_ | refine divI (by decide) ?_)
    try change _ ∧ _
    rw [if_pos q]
    try first | exact ⟨rfl, rfl⟩ | exact ⟨Or.inr rfl, rfl, rfl⟩ | exact ⟨Or.inl rfl, rfl, rfl⟩ | exact ⟨trivial, trivial⟩ | exact ⟨rfl, trivial⟩ | exact ⟨Or.inr rfl, rfl, trivial⟩ | exact ⟨Or.inl rfl, rfl, trivial⟩
  · repeat (first | (refine W1 rfl ?_; try refine Wp.norm (L' := [_, _]) rfl ?_) | ((first | change (_ → _) ∧ (_ → _) | change vp_in _ _ ∧ _ | change ¬ _ ∧ _); simp (disch := omega) only [nI_clamp, nI_leI, nI_ltI, nI_eq, nI_1, nI_add, nI_not_neg, nI_is_pos, nI_m1, nI_z]) | refine brT (by first | assumption | decide | omega) ?_ | refine brF (by first | assumption | decide | omega) ?_ | refine brTn (by first | assumption | decide | omega) ?_ | refine brFn (by first | assumption | decide | omega) ?_ | refine And.intro (vp_in_nI (by omega) (by decide)) ?_ | refine And.intro (vp_lit (by decide)) ?_ | refine divJ (by decide) ?_ | refine divI (by decide) ?_)
    try change _ ∧ _
    rw [if_neg q]
    try first | exact ⟨rfl, rfl⟩ | exact ⟨Or.inr rfl, rfl, rfl⟩ | exact ⟨Or.inl rfl, rfl, rfl⟩ | exact ⟨trivial, trivial⟩ | exact ⟨rfl, trivial⟩ | exact ⟨Or.inr rfl, rfl, trivial⟩ | exact ⟨Or.inl rfl, rfl, trivial⟩
theorem mx_nI {a c : Nat} (ha : a < 2 ^ 31) (hc : c < 2 ^ 31) : (if nI a < nI c then nI c else nI a) = nI (max a c) := by
  by_cases z : a < c
  · rw [if_pos ((nI_ltI ha hc).mpr z), Nat.max_eq_right (by omega)]
  · rw [if_neg (fun y => z ((nI_ltI ha hc).mp y)), Nat.max_eq_left (by omega)]
theorem mn_nI {a c : Nat} (ha : a < 2 ^ 31) (hc : c < 2 ^ 31) : (if nI c < nI a then nI c else nI a) = nI (min a c) := by
  by_cases z : c < a
  · rw [if_pos ((nI_ltI hc ha).mpr z), Nat.min_eq_right (by omega)]
  · rw [if_neg (fun y => z ((nI_ltI hc ha).mp y)), Nat.min_eq_left (by omega)]
section CSTM
variable {b : Nat → Nat} {n : Nat} {s : ST} {C : List Nat} {h h' : HP}
theorem ckN_n {i lo hi : Nat} (h : ckN b n i lo hi = none) : tS b n i = 4 ∧ lo ≤ tV b n i ∧ tV b n i ≤ hi := by
  unfold ckN at h
  by_cases c : tS b n i = 4
  · rw [if_pos c] at h
    by_cases c2 : lo ≤ tV b n i ∧ tV b n i ≤ hi
    · exact ⟨c, c2⟩
    · rw [if_neg c2] at h; cases h
  · rw [if_neg c] at h; cases h
theorem ckC_n {t m i : Nat} (h : ckC b n t m i = none) : t < m := by
  unfold ckC at h
  by_cases c : t < m
  · exact c
  · rw [if_neg c] at h; cases h
theorem CF.w18 {f q : Nat} {x : Int32} (S : CF b n f q h) : CF b n f q (wI h 18 0 x) := by
  obtain ⟨k, a1, a2, a3, a4, a5, a6⟩ := S
  exact ⟨k.w (by decide), a1, a2, a3, a4, a5, a6⟩
theorem CZ.c {o : FO} {i q : Nat} (X : CZ b n o i s C q h) (ho : o = none) : CS b n i s C q h := by subst ho; exact X
theorem DC.day {x : Nat} (D : DC s h) : DC (sU s 0 3 x) (wI h 18 0 (nI x)) := by
  obtain ⟨⟨d1, d2, d3, d4, d5, d6⟩, d7, d8, d9, d10, d11⟩ := D
  exact ⟨⟨rfl, d2, d3, d4, d5, d6⟩, d7, d8, d9, d10, d11⟩
theorem GB.day {x : Nat} (D : GB s) (hx : x ≤ 200) : GB (sU s 0 3 x) := by
  obtain ⟨⟨d1, d2, d3, d4, d5, d6, d7⟩, d8⟩ := D
  exact ⟨⟨d1, d2, d3, d4, d5, d6, hx⟩, d8⟩
theorem c_days {i q : Nat} (X : CS b n i s C q h) (hi : ps b n i < n) : ∃ h', Run 2 j_Reader_readDays [.ref 17] h none h' ∧ onlyJ rdL [] h h' ∧ CZ b n (ckN b n (i + 1) 1 200) (i + 2) (sU s 0 3 (tV b n (i + 1))) C q h' := by
  have hat := X.at
  obtain ⟨w, h1, r1, O1, X1, e1⟩ := c_number (l := 1) (u := 200) (lo := 1) (hi := 200) (o := none) (X.nx hi) (fun _ => ⟨rfl, by decide⟩) (fun _ => ⟨rfl, by decide⟩)
  rw [ch_n] at X1 e1
  refine ⟨wI h1 18 0 (if 1 < w then w else 1), ?_, ((o17 (onlyJ.rfl _ _ h)).trans O1).addI (by decide), ?_⟩
  · show Run 2 j_Reader_readDays _ _ _ _
    refine Run.of rfl ?_
    refine Wp.norm (L' := [_]) rfl ?_
    repeat (first | (refine W1 rfl ?_; try refine Wp.norm (L' := [_]) rfl ?_) | ((first | change (_ → _) ∧ (_ → _) | change vp_in _ _ ∧ _ | change ¬ _ ∧ _); simp (disch := omega) only [nI_clamp, nI_leI, nI_ltI, nI_eq, nI_1, nI_add, nI_not_neg, nI_is_pos, nI_m1, nI_z]) | refine brT (by first | assumption | decide | omega) ?_ | refine brF (by first | assumption | decide | omega) ?_ | refine brTn (by first | assumption | decide | omega) ?_ | refine brFn (by first | assumption | decide | omega) ?_ | refine And.intro (vp_in_nI (by omega) (by decide)) ?_ | refine And.intro (vp_lit (by decide)) ?_ | refine divJ (by decide) ?_ | refine divI (by decide) ?_)
    try change _ ∧ _
    refine Cl.ofH r1 rfl (by rw [hat]; first | done | rfl | (simp (disch := omega) only [nI_1, nI_add, nI_clamp] <;> first | done | rfl)) (by decide) ?_
    repeat (first | (refine W1 rfl ?_; try refine Wp.norm (L' := [_]) rfl ?_) | ((first | change (_ → _) ∧ (_ → _) | change vp_in _ _ ∧ _ | change ¬ _ ∧ _); simp (disch := omega) only [nI_clamp, nI_leI, nI_ltI, nI_eq, nI_1, nI_add, nI_not_neg, nI_is_pos, nI_m1, nI_z]) | refine brT (by first | assumption | decide | omega) ?_ | refine brF (by first | assumption | decide | omega) ?_ | refine brTn (by first | assumption | decide | omega) ?_ | refine brFn (by first | assumption | decide | omega) ?_ | refine And.intro (vp_in_nI (by omega) (by decide)) ?_ | refine And.intro (vp_lit (by decide)) ?_ | refine divJ (by decide) ?_ | refine divI (by decide) ?_)
    try change _ ∧ _
    refine Cl.of (r_max _ _ _) (by decide) ?_
    repeat (first | (refine W1 rfl ?_; try refine Wp.norm (L' := [_]) rfl ?_) | ((first | change (_ → _) ∧ (_ → _) | change vp_in _ _ ∧ _ | change ¬ _ ∧ _); simp (disch := omega) only [nI_clamp, nI_leI, nI_ltI, nI_eq, nI_1, nI_add, nI_not_neg, nI_is_pos, nI_m1, nI_z]) | refine brT (by first | assumption | decide | omega) ?_ | refine brF (by first | assumption | decide | omega) ?_ | refine brTn (by first | assumption | decide | omega) ?_ | refine brFn (by first | assumption | decide | omega) ?_ | refine And.intro (vp_in_nI (by omega) (by decide)) ?_ | refine And.intro (vp_lit (by decide)) ?_ | refine divJ (by decide) ?_ | refine divI (by decide) ?_)
    try change _ ∧ _
    try first | exact ⟨rfl, rfl⟩ | exact ⟨Or.inr rfl, rfl, rfl⟩ | exact ⟨Or.inl rfl, rfl, rfl⟩ | exact ⟨trivial, trivial⟩ | exact ⟨rfl, trivial⟩ | exact ⟨Or.inr rfl, rfl, trivial⟩ | exact ⟨Or.inl rfl, rfl, trivial⟩
  · cases hX : ckN b n (i + 1) 1 200 with
    | some e =>
      rw [hX] at X1
      exact CF.w18 X1
    | none =>
      rw [hX] at X1
      have ew := e1 hX
      subst ew
      obtain ⟨_, c2, c3⟩ := ckN_n hX
      rw [show (1 : Int32) = nI 1 from rfl, mx_nI (by decide) (by omega), Nat.max_eq_right c2]
      obtain ⟨k, hi, a1, D, c, g, hb⟩ := (X1 : CS b n (i + 2) s C q h1)
      exact ⟨k.w (by decide), hi, a1, D.day, c, g.day c3, hb⟩
def pW (h : HP) (P : Nat) (x y z w t : Int32) : HP := wI (wI (wI (wI (wI (wI h 19 P x) 20 P y) 21 P z) 22 P w) 18 3 t) 18 1 (nI (P + 1))
theorem DC.prs {i : Nat} (D : DC s h) : DC (adP b n s i) (pW h (zP s) (nI (tV b n (i + 1))) (nI (tV b n (i + 3))) (nI (tV b n (i + 5))) (nI (tV b n (i + 7))) (nI (zQ s + tV b n (i + 3)))) := by
  obtain ⟨⟨d1, d2, d3, d4, d5, d6⟩, d7, d8, d9, d10, d11⟩ := D
  refine ⟨⟨d1, rfl, d3, rfl, d5, d6⟩, fun p hp => ?_, d8, d9, d10, d11⟩
  have hp : p < zP s + 1 := hp
  unfold pW
  by_cases e : p = zP s
  · subst e
    simp [wI, va_up, upd, adP, sU]
  · have := d7 p (by omega)
    simp [wI, va_up, upd, adP, sU, e]
    exact this
theorem GB.prs {i : Nat} (D : GB s) (hb : ∀ k, k < n → b k < 256) (h1 : zP s < 16) (h2 : zQ s + tV b n (i + 3) ≤ 16) : GB (adP b n s i) := by
  obtain ⟨⟨d1, d2, d3, d4, d5, d6, d7⟩, d8, d9, d10, d11⟩ := D
  refine ⟨⟨h1, d2, h2, d4, d5, d6, d7⟩, d8, d9, fun p hp => ?_, d11⟩
  have hp : p < zP s + 1 := hp
  by_cases e : p = zP s
  · subst e
    simp [adP, sU]
    exact tV_lt hb _
  · simp [adP, sU, e]
    exact d10 p (by omega)
theorem c_person {i q : Nat} (X : CS b n i s C q h) (hi : ps b n i < n) : ∃ h', Run 3 j_Reader_readPerson [.ref 17] h none h' ∧ onlyJ rdL [] h h' ∧ CZ b n (ch (ch (ch (ch (ch (ch (ch (ckC b n (zP s) 16 i) (ckW b n s (i + 1))) (ckO b n (i + 2) 2)) (ckN b n (i + 3) 1 (min 9 (16 - zQ s)))) (ckO b n (i + 4) 3)) (ckN b n (i + 5) 0 199)) (ckO b n (i + 6) 4)) (ckN b n (i + 7) (tV b n (i + 5)) 199)) (i + 8) (adP b n s i) C q h' := by
  have hG := X.G
  have hP := hG.1.1
  have hQ := hG.1.2.2.1
  have eP := X.D.1.2.1
  obtain ⟨h0, r0, O0, X0, _⟩ := c_beginCounted (t := zP s) (m := 16) X hi (by omega) (by decide)
  rw [← eP] at r0
  generalize ho0 : ckC b n (zP s) 16 i = o0 at X0
  obtain ⟨w1, h1, r1, O1, X1, e1⟩ := c_newName X0
  generalize ho1 : ch o0 (ckW b n s (i + 1)) = o1 at X1 e1
  obtain ⟨h2, r2, O2, X2⟩ := c_expectOwn (w := 2) X1 (by decide)
  generalize ho2 : ch o1 (ckO b n (i + 2) 2) = o2 at X2
  have r2m := r_min h2 9 (16 - h2.1 18 3)
  obtain ⟨w3, h3, r3, O3, X3, e3⟩ := c_number (l := 1) (u := min 9 (16 - zQ s)) (lo := 1) (hi := if 16 - h2.1 18 3 < 9 then 16 - h2.1 18 3 else 9) X2 (fun _ => ⟨rfl, by decide⟩) (fun z => ⟨by
    have := (X2.c z).D.1.2.2.2.1
    rw [this, show (16 : Int32) = nI 16 from rfl, nI_subN hQ, show (9 : Int32) = nI 9 from rfl, mn_nI (by decide) (by omega)], by omega⟩)
  generalize ho3 : ch o2 (ckN b n (i + 3) 1 (min 9 (16 - zQ s))) = o3 at X3 e3
  obtain ⟨h4, r4, O4, X4⟩ := c_expectOwn (w := 3) X3 (by decide)
  generalize ho4 : ch o3 (ckO b n (i + 4) 3) = o4 at X4
  obtain ⟨w5, h5, r5, O5, X5, e5⟩ := c_number (l := 0) (u := 199) (lo := 0) (hi := 199) X4 (fun _ => ⟨rfl, by decide⟩) (fun _ => ⟨rfl, by decide⟩)
  generalize ho5 : ch o4 (ckN b n (i + 5) 0 199) = o5 at X5 e5
  obtain ⟨h6, r6, O6, X6⟩ := c_expectOwn (w := 4) X5 (by decide)
  generalize ho6 : ch o5 (ckO b n (i + 6) 4) = o6 at X6
  have h56 : o6 = none → o5 = none := fun z => ch_none1 (ho6.trans z)
  have hb5 : o5 = none → tV b n (i + 5) ≤ 199 := fun z => (ckN_n (ch_none.mp (ho5.trans z)).2).2.2
  obtain ⟨w7, h7, r7, O7, X7, e7⟩ := c_number (l := tV b n (i + 5)) (u := 199) (lo := w5) (hi := 199) X6 (fun z => ⟨e5 (h56 z), by have := hb5 (h56 z); omega⟩) (fun _ => ⟨rfl, by decide⟩)
  have OO := ((((((O0.trans O1).trans O2).trans O3).trans O4).trans O5).trans O6).trans O7
  generalize ho7 : ch o6 (ckN b n (i + 7) (tV b n (i + 5)) 199) = o7 at X7 e7
  cases o7 with
  | some e =>
    obtain ⟨f, p⟩ := e
    have X7 : CF b n f p h7 := X7
    have hne := X7.ne
    refine ⟨h7, ?_, OO, X7⟩
    show Run 3 j_Reader_readPerson _ _ _ _
    refine Run.of rfl ?_
    refine Wp.norm (L' := [_, _, _, _, _]) rfl ?_
    repeat (first | (refine W1 rfl ?_; try refine Wp.norm (L' := [_, _, _, _, _]) rfl ?_) | ((first | change (_ → _) ∧ (_ → _) | change vp_in _ _ ∧ _ | change ¬ _ ∧ _); simp (disch := omega) only [nI_clamp, nI_leI, nI_ltI, nI_eq, nI_1, nI_add, nI_not_neg, nI_is_pos, nI_m1, nI_z]) | refine brT (by first | assumption | decide | omega) ?_ | refine brF (by first | assumption | decide | omega) ?_ | refine brTn (by first | assumption | decide | omega) ?_ | refine brFn (by first | assumption | decide | omega) ?_ | refine And.intro (vp_in_nI (by omega) (by decide)) ?_ | refine And.intro (vp_lit (by decide)) ?_ | refine divJ (by decide) ?_ | refine divI (by decide) ?_)
    try change _ ∧ _
    refine Cl.of r0 (by decide) ?_
    repeat (first | (refine W1 rfl ?_; try refine Wp.norm (L' := [_, _, _, _, _]) rfl ?_) | ((first | change (_ → _) ∧ (_ → _) | change vp_in _ _ ∧ _ | change ¬ _ ∧ _); simp (disch := omega) only [nI_clamp, nI_leI, nI_ltI, nI_eq, nI_1, nI_add, nI_not_neg, nI_is_pos, nI_m1, nI_z]) | refine brT (by first | assumption | decide | omega) ?_ | refine brF (by first | assumption | decide | omega) ?_ | refine brTn (by first | assumption | decide | omega) ?_ | refine brFn (by first | assumption | decide | omega) ?_ | refine And.intro (vp_in_nI (by omega) (by decide)) ?_ | refine And.intro (vp_lit (by decide)) ?_ | refine divJ (by decide) ?_ | refine divI (by decide) ?_)
    try change _ ∧ _
    refine Cl.of r1 (by decide) ?_
    repeat (first | (refine W1 rfl ?_; try refine Wp.norm (L' := [_, _, _, _, _]) rfl ?_) | ((first | change (_ → _) ∧ (_ → _) | change vp_in _ _ ∧ _ | change ¬ _ ∧ _); simp (disch := omega) only [nI_clamp, nI_leI, nI_ltI, nI_eq, nI_1, nI_add, nI_not_neg, nI_is_pos, nI_m1, nI_z]) | refine brT (by first | assumption | decide | omega) ?_ | refine brF (by first | assumption | decide | omega) ?_ | refine brTn (by first | assumption | decide | omega) ?_ | refine brFn (by first | assumption | decide | omega) ?_ | refine And.intro (vp_in_nI (by omega) (by decide)) ?_ | refine And.intro (vp_lit (by decide)) ?_ | refine divJ (by decide) ?_ | refine divI (by decide) ?_)
    try change _ ∧ _
    refine Cl.of r2 (by decide) ?_
    repeat (first | (refine W1 rfl ?_; try refine Wp.norm (L' := [_, _, _, _, _]) rfl ?_) | ((first | change (_ → _) ∧ (_ → _) | change vp_in _ _ ∧ _ | change ¬ _ ∧ _); simp (disch := omega) only [nI_clamp, nI_leI, nI_ltI, nI_eq, nI_1, nI_add, nI_not_neg, nI_is_pos, nI_m1, nI_z]) | refine brT (by first | assumption | decide | omega) ?_ | refine brF (by first | assumption | decide | omega) ?_ | refine brTn (by first | assumption | decide | omega) ?_ | refine brFn (by first | assumption | decide | omega) ?_ | refine And.intro (vp_in_nI (by omega) (by decide)) ?_ | refine And.intro (vp_lit (by decide)) ?_ | refine divJ (by decide) ?_ | refine divI (by decide) ?_)
    try change _ ∧ _
    refine Cl.of r2m (by decide) ?_
    show Wp 3 j_Reader_readPerson _ _ _ _ _
    repeat (first | (refine W1 rfl ?_; try refine Wp.norm (L' := [_, _, _, _, _]) rfl ?_) | ((first | change (_ → _) ∧ (_ → _) | change vp_in _ _ ∧ _ | change ¬ _ ∧ _); simp (disch := omega) only [nI_clamp, nI_leI, nI_ltI, nI_eq, nI_1, nI_add, nI_not_neg, nI_is_pos, nI_m1, nI_z]) | refine brT (by first | assumption | decide | omega) ?_ | refine brF (by first | assumption | decide | omega) ?_ | refine brTn (by first | assumption | decide | omega) ?_ | refine brFn (by first | assumption | decide | omega) ?_ | refine And.intro (vp_in_nI (by omega) (by decide)) ?_ | refine And.intro (vp_lit (by decide)) ?_ | refine divJ (by decide) ?_ | refine divI (by decide) ?_)
    try change _ ∧ _
    refine Cl.of r3 (by decide) ?_
    repeat (first | (refine W1 rfl ?_; try refine Wp.norm (L' := [_, _, _, _, _]) rfl ?_) | ((first | change (_ → _) ∧ (_ → _) | change vp_in _ _ ∧ _ | change ¬ _ ∧ _); simp (disch := omega) only [nI_clamp, nI_leI, nI_ltI, nI_eq, nI_1, nI_add, nI_not_neg, nI_is_pos, nI_m1, nI_z]) | refine brT (by first | assumption | decide | omega) ?_ | refine brF (by first | assumption | decide | omega) ?_ | refine brTn (by first | assumption | decide | omega) ?_ | refine brFn (by first | assumption | decide | omega) ?_ | refine And.intro (vp_in_nI (by omega) (by decide)) ?_ | refine And.intro (vp_lit (by decide)) ?_ | refine divJ (by decide) ?_ | refine divI (by decide) ?_)
    try change _ ∧ _
    refine Cl.of r4 (by decide) ?_
    repeat (first | (refine W1 rfl ?_; try refine Wp.norm (L' := [_, _, _, _, _]) rfl ?_) | ((first | change (_ → _) ∧ (_ → _) | change vp_in _ _ ∧ _ | change ¬ _ ∧ _); simp (disch := omega) only [nI_clamp, nI_leI, nI_ltI, nI_eq, nI_1, nI_add, nI_not_neg, nI_is_pos, nI_m1, nI_z]) | refine brT (by first | assumption | decide | omega) ?_ | refine brF (by first | assumption | decide | omega) ?_ | refine brTn (by first | assumption | decide | omega) ?_ | refine brFn (by first | assumption | decide | omega) ?_ | refine And.intro (vp_in_nI (by omega) (by decide)) ?_ | refine And.intro (vp_lit (by decide)) ?_ | refine divJ (by decide) ?_ | refine divI (by decide) ?_)
    try change _ ∧ _
    refine Cl.of r5 (by decide) ?_
    repeat (first | (refine W1 rfl ?_; try refine Wp.norm (L' := [_, _, _, _, _]) rfl ?_) | ((first | change (_ → _) ∧ (_ → _) | change vp_in _ _ ∧ _ | change ¬ _ ∧ _); simp (disch := omega) only [nI_clamp, nI_leI, nI_ltI, nI_eq, nI_1, nI_add, nI_not_neg, nI_is_pos, nI_m1, nI_z]) | refine brT (by first | assumption | decide | omega) ?_ | refine brF (by first | assumption | decide | omega) ?_ | refine brTn (by first | assumption | decide | omega) ?_ | refine brFn (by first | assumption | decide | omega) ?_ | refine And.intro (vp_in_nI (by omega) (by decide)) ?_ | refine And.intro (vp_lit (by decide)) ?_ | refine divJ (by decide) ?_ | refine divI (by decide) ?_)
    try change _ ∧ _
    refine Cl.of r6 (by decide) ?_
    repeat (first | (refine W1 rfl ?_; try refine Wp.norm (L' := [_, _, _, _, _]) rfl ?_) | ((first | change (_ → _) ∧ (_ → _) | change vp_in _ _ ∧ _ | change ¬ _ ∧ _); simp (disch := omega) only [nI_clamp, nI_leI, nI_ltI, nI_eq, nI_1, nI_add, nI_not_neg, nI_is_pos, nI_m1, nI_z]) | refine brT (by first | assumption | decide | omega) ?_ | refine brF (by first | assumption | decide | omega) ?_ | refine brTn (by first | assumption | decide | omega) ?_ | refine brFn (by first | assumption | decide | omega) ?_ | refine And.intro (vp_in_nI (by omega) (by decide)) ?_ | refine And.intro (vp_lit (by decide)) ?_ | refine divJ (by decide) ?_ | refine divI (by decide) ?_)
    try change _ ∧ _
    refine Cl.of r7 (by decide) ?_
    repeat (first | (refine W1 rfl ?_; try refine Wp.norm (L' := [_, _, _, _, _]) rfl ?_) | ((first | change (_ → _) ∧ (_ → _) | change vp_in _ _ ∧ _ | change ¬ _ ∧ _); simp (disch := omega) only [nI_clamp, nI_leI, nI_ltI, nI_eq, nI_1, nI_add, nI_not_neg, nI_is_pos, nI_m1, nI_z]) | refine brT (by first | assumption | decide | omega) ?_ | refine brF (by first | assumption | decide | omega) ?_ | refine brTn (by first | assumption | decide | omega) ?_ | refine brFn (by first | assumption | decide | omega) ?_ | refine And.intro (vp_in_nI (by omega) (by decide)) ?_ | refine And.intro (vp_lit (by decide)) ?_ | refine divJ (by decide) ?_ | refine divI (by decide) ?_)
    try change _ ∧ _
    try first | exact ⟨rfl, rfl⟩ | exact ⟨Or.inr rfl, rfl, rfl⟩ | exact ⟨Or.inl rfl, rfl, rfl⟩ | exact ⟨trivial, trivial⟩ | exact ⟨rfl, trivial⟩ | exact ⟨Or.inr rfl, rfl, trivial⟩ | exact ⟨Or.inl rfl, rfl, trivial⟩
  | none =>
    have X7 : CS b n (i + 8) s C q h7 := X7
    have z6 := ch_none1 ho7
    have z5 := h56 z6
    have z4 := ch_none1 (ho5.trans z5)
    have z3 := ch_none1 (ho4.trans z4)
    have z2 := ch_none1 (ho3.trans z3)
    have z1 := ch_none1 (ho2.trans z2)
    have z0 := ch_none1 (ho1.trans z1)
    have q0 := ckC_n (ho0.trans z0)
    have q3 := ckN_n (ch_none.mp (ho3.trans z3)).2
    have q7 := ckN_n (ch_none.mp ho7).2
    have k1 := e1 z1
    have k3 := e3 z3
    have k5 := e5 z5
    have k7 := e7 rfl
    subst k1 k3 k5 k7
    have f7 := X7.f0
    have p7 := X7.D.1.2.1
    have t7 := X7.D.1.2.2.2.1
    refine ⟨pW h7 (zP s) (nI (tV b n (i + 1))) (nI (tV b n (i + 3))) (nI (tV b n (i + 5))) (nI (tV b n (i + 7))) (nI (zQ s + tV b n (i + 3))), ?_, (((((OO.addI (by decide)).addI (by decide)).addI (by decide)).addI (by decide)).addI (by decide)).addI (by decide), ?_⟩
    · show Run 3 j_Reader_readPerson _ _ _ _
      refine Run.of rfl ?_
      refine Wp.norm (L' := [_, _, _, _, _]) rfl ?_
      repeat (first | (refine W1 rfl ?_; try refine Wp.norm (L' := [_, _, _, _, _]) rfl ?_) | ((first | change (_ → _) ∧ (_ → _) | change vp_in _ _ ∧ _ | change ¬ _ ∧ _); simp (disch := omega) only [nI_clamp, nI_leI, nI_ltI, nI_eq, nI_1, nI_add, nI_not_neg, nI_is_pos, nI_m1, nI_z]) | refine brT (by first | assumption | decide | omega) ?_ | refine brF (by first | assumption | decide | omega) ?_ | refine brTn (by first | assumption | decide | omega) ?_ | refine brFn (by first | assumption | decide | omega) ?_ | refine And.intro (vp_in_nI (by omega) (by decide)) ?_ | refine And.intro (vp_lit (by decide)) ?_ | refine divJ (by decide) ?_ | refine divI (by decide) ?_)
      try change _ ∧ _
      refine Cl.of r0 (by decide) ?_
      repeat (first | (refine W1 rfl ?_; try refine Wp.norm (L' := [_, _, _, _, _]) rfl ?_) | ((first | change (_ → _) ∧ (_ → _) | change vp_in _ _ ∧ _ | change ¬ _ ∧ _); simp (disch := omega) only [nI_clamp, nI_leI, nI_ltI, nI_eq, nI_1, nI_add, nI_not_neg, nI_is_pos, nI_m1, nI_z]) | refine brT (by first | assumption | decide | omega) ?_ | refine brF (by first | assumption | decide | omega) ?_ | refine brTn (by first | assumption | decide | omega) ?_ | refine brFn (by first | assumption | decide | omega) ?_ | refine And.intro (vp_in_nI (by omega) (by decide)) ?_ | refine And.intro (vp_lit (by decide)) ?_ | refine divJ (by decide) ?_ | refine divI (by decide) ?_)
      try change _ ∧ _
      refine Cl.of r1 (by decide) ?_
      repeat (first | (refine W1 rfl ?_; try refine Wp.norm (L' := [_, _, _, _, _]) rfl ?_) | ((first | change (_ → _) ∧ (_ → _) | change vp_in _ _ ∧ _ | change ¬ _ ∧ _); simp (disch := omega) only [nI_clamp, nI_leI, nI_ltI, nI_eq, nI_1, nI_add, nI_not_neg, nI_is_pos, nI_m1, nI_z]) | refine brT (by first | assumption | decide | omega) ?_ | refine brF (by first | assumption | decide | omega) ?_ | refine brTn (by first | assumption | decide | omega) ?_ | refine brFn (by first | assumption | decide | omega) ?_ | refine And.intro (vp_in_nI (by omega) (by decide)) ?_ | refine And.intro (vp_lit (by decide)) ?_ | refine divJ (by decide) ?_ | refine divI (by decide) ?_)
      try change _ ∧ _
      refine Cl.of r2 (by decide) ?_
      repeat (first | (refine W1 rfl ?_; try refine Wp.norm (L' := [_, _, _, _, _]) rfl ?_) | ((first | change (_ → _) ∧ (_ → _) | change vp_in _ _ ∧ _ | change ¬ _ ∧ _); simp (disch := omega) only [nI_clamp, nI_leI, nI_ltI, nI_eq, nI_1, nI_add, nI_not_neg, nI_is_pos, nI_m1, nI_z]) | refine brT (by first | assumption | decide | omega) ?_ | refine brF (by first | assumption | decide | omega) ?_ | refine brTn (by first | assumption | decide | omega) ?_ | refine brFn (by first | assumption | decide | omega) ?_ | refine And.intro (vp_in_nI (by omega) (by decide)) ?_ | refine And.intro (vp_lit (by decide)) ?_ | refine divJ (by decide) ?_ | refine divI (by decide) ?_)
      try change _ ∧ _
      refine Cl.of r2m (by decide) ?_
      show Wp 3 j_Reader_readPerson _ _ _ _ _
      repeat (first | (refine W1 rfl ?_; try refine Wp.norm (L' := [_, _, _, _, _]) rfl ?_) | ((first | change (_ → _) ∧ (_ → _) | change vp_in _ _ ∧ _ | change ¬ _ ∧ _); simp (disch := omega) only [nI_clamp, nI_leI, nI_ltI, nI_eq, nI_1, nI_add, nI_not_neg, nI_is_pos, nI_m1, nI_z]) | refine brT (by first | assumption | decide | omega) ?_ | refine brF (by first | assumption | decide | omega) ?_ | refine brTn (by first | assumption | decide | omega) ?_ | refine brFn (by first | assumption | decide | omega) ?_ | refine And.intro (vp_in_nI (by omega) (by decide)) ?_ | refine And.intro (vp_lit (by decide)) ?_ | refine divJ (by decide) ?_ | refine divI (by decide) ?_)
      try change _ ∧ _
      refine Cl.of r3 (by decide) ?_
      repeat (first | (refine W1 rfl ?_; try refine Wp.norm (L' := [_, _, _, _, _]) rfl ?_) | ((first | change (_ → _) ∧ (_ → _) | change vp_in _ _ ∧ _ | change ¬ _ ∧ _); simp (disch := omega) only [nI_clamp, nI_leI, nI_ltI, nI_eq, nI_1, nI_add, nI_not_neg, nI_is_pos, nI_m1, nI_z]) | refine brT (by first | assumption | decide | omega) ?_ | refine brF (by first | assumption | decide | omega) ?_ | refine brTn (by first | assumption | decide | omega) ?_ | refine brFn (by first | assumption | decide | omega) ?_ | refine And.intro (vp_in_nI (by omega) (by decide)) ?_ | refine And.intro (vp_lit (by decide)) ?_ | refine divJ (by decide) ?_ | refine divI (by decide) ?_)
      try change _ ∧ _
      refine Cl.of r4 (by decide) ?_
      repeat (first | (refine W1 rfl ?_; try refine Wp.norm (L' := [_, _, _, _, _]) rfl ?_) | ((first | change (_ → _) ∧ (_ → _) | change vp_in _ _ ∧ _ | change ¬ _ ∧ _); simp (disch := omega) only [nI_clamp, nI_leI, nI_ltI, nI_eq, nI_1, nI_add, nI_not_neg, nI_is_pos, nI_m1, nI_z]) | refine brT (by first | assumption | decide | omega) ?_ | refine brF (by first | assumption | decide | omega) ?_ | refine brTn (by first | assumption | decide | omega) ?_ | refine brFn (by first | assumption | decide | omega) ?_ | refine And.intro (vp_in_nI (by omega) (by decide)) ?_ | refine And.intro (vp_lit (by decide)) ?_ | refine divJ (by decide) ?_ | refine divI (by decide) ?_)
      try change _ ∧ _
      refine Cl.of r5 (by decide) ?_
      repeat (first | (refine W1 rfl ?_; try refine Wp.norm (L' := [_, _, _, _, _]) rfl ?_) | ((first | change (_ → _) ∧ (_ → _) | change vp_in _ _ ∧ _ | change ¬ _ ∧ _); simp (disch := omega) only [nI_clamp, nI_leI, nI_ltI, nI_eq, nI_1, nI_add, nI_not_neg, nI_is_pos, nI_m1, nI_z]) | refine brT (by first | assumption | decide | omega) ?_ | refine brF (by first | assumption | decide | omega) ?_ | refine brTn (by first | assumption | decide | omega) ?_ | refine brFn (by first | assumption | decide | omega) ?_ | refine And.intro (vp_in_nI (by omega) (by decide)) ?_ | refine And.intro (vp_lit (by decide)) ?_ | refine divJ (by decide) ?_ | refine divI (by decide) ?_)
      try change _ ∧ _
      refine Cl.of r6 (by decide) ?_
      repeat (first | (refine W1 rfl ?_; try refine Wp.norm (L' := [_, _, _, _, _]) rfl ?_) | ((first | change (_ → _) ∧ (_ → _) | change vp_in _ _ ∧ _ | change ¬ _ ∧ _); simp (disch := omega) only [nI_clamp, nI_leI, nI_ltI, nI_eq, nI_1, nI_add, nI_not_neg, nI_is_pos, nI_m1, nI_z]) | refine brT (by first | assumption | decide | omega) ?_ | refine brF (by first | assumption | decide | omega) ?_ | refine brTn (by first | assumption | decide | omega) ?_ | refine brFn (by first | assumption | decide | omega) ?_ | refine And.intro (vp_in_nI (by omega) (by decide)) ?_ | refine And.intro (vp_lit (by decide)) ?_ | refine divJ (by decide) ?_ | refine divI (by decide) ?_)
      try change _ ∧ _
      refine Cl.of r7 (by decide) ?_
      repeat (first | (refine W1 rfl ?_; try refine Wp.norm (L' := [_, _, _, _, _]) rfl ?_) | ((first | change (_ → _) ∧ (_ → _) | change vp_in _ _ ∧ _ | change ¬ _ ∧ _); simp (disch := omega) only [nI_clamp, nI_leI, nI_ltI, nI_eq, nI_1, nI_add, nI_not_neg, nI_is_pos, nI_m1, nI_z, f7, p7, wI_ne, show (16 : Int32) = nI 16 from rfl]) | refine brT (by first | assumption | decide | omega) ?_ | refine brF (by first | assumption | decide | omega) ?_ | refine brTn (by first | assumption | decide | omega) ?_ | refine brFn (by first | assumption | decide | omega) ?_ | refine And.intro (vp_in_nI (by omega) (by decide)) ?_ | refine And.intro (vp_lit (by decide)) ?_ | refine divJ (by decide) ?_ | refine divI (by decide) ?_)
      try change _ ∧ _
      simp (disch := omega) only [p7, t7, wI_ne, wI_ne2, nI_clamp, nI_1, nI_add]
      exact ⟨trivial, rfl⟩
    · obtain ⟨k, hi, a1, D, c, g, hb⟩ := X7
      exact ⟨(((((k.w (by decide)).w (by decide)).w (by decide)).w (by decide)).w (by decide)).w (by decide), hi, a1, D.prs, c, g.prs hb q0 (by omega), hb⟩
end CSTM
