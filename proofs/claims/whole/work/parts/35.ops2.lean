/-! ===== CLAUSES: feed, end, level, gap, owes ===== -/
def kRC (k _i : Nat) : Bool := [7, 8, 9, 12, 13, 14, 15, 16, 36, 37, 38, 39, 40, 41, 42, 43, 44, 46, 47].contains k
def kRM (k i : Nat) : Bool := [87, 88, 89, 90, 92, 96, 97, 98, 99, 100, 106, 107, 108, 109, 110, 111].contains k || (Nat.beq k 65 && Nat.beq i 55)
def kTP (k i : Nat) : Bool := [1, 2, 66].contains k || (Nat.beq k 65 && Nat.beq i 1)
def kSM (k i : Nat) : Bool := [64, 120].contains k || (bif Nat.beq k 0 then Nat.beq i 11 else bif Nat.beq k 17 then Nat.beq i 6 || Nat.beq i 7 else bif Nat.beq k 50 then Nat.beq i 6 || Nat.beq i 7 else bif Nat.beq k 54 then Nat.beq i 8 else bif Nat.beq k 65 then [7, 8, 68, 69, 74, 80].contains i else false)
section FR2
variable {s : ST} {c v : RT} {h h' : HP}
theorem RC.sr (S : SameK kRC h h') (R : RC s c v h) : RC s c v h' := by
  unfold RC
  have e := S
  refine ⟨?_, fun t ht => ?_, fun t ht => ?_, fun t ht => ?_, fun t ht => ?_, fun t ht => ?_, fun t ht => ?_⟩
  · rw [e 36 1 rfl, e 7 1 rfl, e 7 2 rfl, e 7 0 rfl, e 7 3 rfl, e 7 4 rfl]; exact R.1
  · rw [e 37 t rfl, e 38 t rfl, e 41 t rfl, e 39 t rfl, e 40 t rfl, e 42 t rfl, e 46 t rfl, e 47 t rfl]; exact R.2.1 t ht
  · rw [e 9 t rfl, e 12 t rfl, e 13 t rfl, e 8 t rfl]; exact R.2.2.1 t ht
  · rw [e 15 t rfl, e 14 t rfl]; exact R.2.2.2.1 t ht
  · rw [e 16 t rfl]; exact R.rst ht
  · rw [e 43 t rfl]; exact R.kfs ht
  · rw [e 44 t rfl]; exact R.dfs ht
theorem RM.sr (S : SameK kRM h h') (J : ∀ k i, keepJ k = true → h'.2 k i = h.2 k i) (R : RM s c v h) : RM s c v h' := by
  unfold RM
  have e := S
  refine ⟨?_, fun t ht => ?_, fun t ht => ?_, fun t ht => ?_, fun t ht => ?_⟩
  · rw [e 65 55 rfl, e 88 1 rfl, e 89 1 rfl, e 87 1 rfl, e 90 1 rfl]; exact R.1
  · rw [e 106 t rfl, e 107 t rfl, e 108 t rfl, e 109 t rfl, e 110 t rfl, e 111 t rfl]; exact R.2.1 t ht
  · rw [e 92 _ rfl, J 91 _ rfl]; exact R.2.2.1 t ht
  · rw [e 96 _ rfl, J 95 _ rfl]; exact R.2.2.2.1 t ht
  · rw [e 97 _ rfl, e 98 _ rfl, e 99 _ rfl, e 100 _ rfl]; exact R.2.2.2.2 t ht
theorem TP.sr (S : SameK kTP h h') (t : TP h) : TP h' := by
  obtain ⟨n, h1, h2, h3, h4⟩ := t
  refine ⟨n, h1, ?_, ?_, fun i hi => ?_⟩
  · rw [S 1 1 rfl]; exact h2
  · rw [S 65 1 rfl]; exact h3
  · rw [S 2 i rfl, S 66 i rfl]; exact h4 i hi
theorem SMX.sr (S : SameK kSM h h') (t : SMX h) : SMX h' := by
  obtain ⟨h1, h2, h3, h4, h5, n, h6, h7, h8, h9⟩ := t
  unfold SMX
  rw [S 54 8 rfl, S 65 74 rfl, S 17 6 rfl, S 65 7 rfl, S 17 7 rfl, S 65 8 rfl, S 65 68 rfl, S 50 6 rfl, S 50 7 rfl, S 65 69 rfl, S 0 11 rfl, S 65 80 rfl]
  refine ⟨h1, h2, h3, h4, h5, n, h6, h7, h8, fun i hi => ?_⟩
  rw [S 64 i rfl, S 120 i rfl]
  exact h9 i hi
end FR2
theorem mByte_255 (w k : Int32) : ∃ b, b < 256 ∧ mByte w k = nI b := pk_andE _ 8 (by decide)
theorem kTP_of (k i : Nat) : kTP k i = true → k = 1 ∨ k = 2 ∨ k = 66 ∨ (k = 65 ∧ i = 1) := by
  unfold kTP
  simp
  omega
theorem o_feed : op_0 Inv := fun a b c d e h I => by
  obtain ⟨⟨n, h1, h2, h3, h4⟩, m, s, co, v, R, M, o, ro⟩ := id I
  by_cases hl : n + 20 ≤ 900
  · have hn1 : (ap20 h n a b c d e).1 65 1 = nI n := by rw [ap20_out h n a b c d e 65 (by decide) (by decide)]; exact h3
    refine ⟨_, _, _, (r_E_feed_ok a b c d e h2 hl).d, (r_M_feed_ok a b c d e hn1 hl).d, ?_⟩
    have out : ∀ k i, k ≠ 1 → k ≠ 2 → k ≠ 66 → (k = 65 → i ≠ 1) → (am20 (ap20 h n a b c d e) n a b c d e 20).1 k i = h.1 k i := by
      intro k i g1 g2 g3 g4
      by_cases g5 : k = 65
      · subst g5
        rw [am20_65 _ n a b c d e i (g4 rfl), ap20_out h n a b c d e 65 g1 g2]
      · rw [am20_out _ n a b c d e k g5 g3, ap20_out h n a b c d e k g1 g2]
    refine ⟨⟨n + 20, hl, ?_, am20_len _ n a b c d e hn1 20, fun i hi => ?_⟩, m.sr (fun k i hk => out k i ?_ ?_ ?_ ?_), s, co, v, R.sr (fun k i hk => out k i ?_ ?_ ?_ ?_), M.sr (fun k i hk => out k i ?_ ?_ ?_ ?_) (fun k i _ => by rw [am20_2]; rfl), o, ro⟩
    · rw [am20_out _ n a b c d e 1 (by decide) (by decide)]
      exact ap20_len h n a b c d e
    · rw [am20_out _ n a b c d e 2 (by decide) (by decide)]
      by_cases hin : i < n
      · rw [ap20_old h n a b c d e hin, am20_old _ n a b c d e hin, ap20_out h n a b c d e 66 (by decide) (by decide)]
        exact h4 i hin
      · obtain ⟨j, rfl⟩ : ∃ j, i = n + j := ⟨i - n, by omega⟩
        rw [ap20_new h n a b c d e j (by omega), am20_new _ n a b c d e 20 j (by omega)]
        exact ⟨rfl, mByte_255 _ _⟩
    all_goals (rintro rfl; revert hk)
    all_goals first | exact (fun hk => absurd (show false = true from hk) (by decide)) | (rintro hk rfl; exact absurd (show false = true from hk) (by decide))
  · refine ⟨_, _, _, (r_E_feed_no a b c d e h2 h1 hl).d, (r_M_feed_no a b c d e h3 h1 hl).d, I⟩
theorem o_end : op_1 Inv := fun x h I => by
  obtain ⟨⟨n, h1, h2, h3, h4⟩, m, s, co, v, R, M, o, ro⟩ := id I
  have E := (r_E_end h x).d
  by_cases hx : x < 0 ∨ nI n < x
  · rw [h2, if_pos hx, if_pos hx] at E
    have F := (r_M_end h x).d
    rw [h3, if_pos hx, if_pos hx] at F
    exact ⟨_, _, _, E, F, I⟩
  · rw [h2, if_neg hx, if_neg hx] at E
    have F := (r_M_end (wI h 1 1 x) x).d
    rw [wI_ne h 1 x (by decide : (65 : Nat) ≠ 1), h3, if_neg hx, if_neg hx] at F
    refine ⟨_, _, _, E, F, ?_⟩
    obtain ⟨j, hj, rfl⟩ := nI_of (x := x) (fun z => hx (Or.inl z))
    have hjn : j ≤ n := by
      have := mt Or.inr hx
      rw [nI_ltI (by omega) hj] at this
      omega
    refine ⟨⟨j, by omega, ?_, wI_same _ _ _ _, fun i hi => ?_⟩, m.sr (((SameK.refl kSM h).addI (k := 1) (i := 1) (x := nI j) rfl).addI (k := 65) (i := 1) (x := nI j) rfl), s, co, v, R.sr (((SameK.refl kRC h).addI (k := 1) (i := 1) (x := nI j) rfl).addI (k := 65) (i := 1) (x := nI j) rfl), M.sr (((SameK.refl kRM h).addI (k := 1) (i := 1) (x := nI j) rfl).addI (k := 65) (i := 1) (x := nI j) rfl) (fun _ _ _ => rfl), o, ro⟩
    · rw [wI_ne _ 1 _ (by decide), wI_same]
    · rw [wI_ne _ 1 _ (by decide), wI_ne _ 1 _ (by decide), wI_ne _ 1 _ (by decide), wI_ne _ 1 _ (by decide)]
      exact h4 i (by omega)
/-! level, gap -/
section OPS2
variable {s : ST} {c v : RT} {h : HP} {k : Option Nat}
def NOL : Int64 := -1000000000000
def levR (s : ST) (c : RT) (p : Nat) (k : Option Nat) (i : Nat) : Int64 := if i ≤ cO s k (zT s) then lvl s c p k i else NOL
theorem r_E_level (R : RC s c v h) (o : OK s) (hk : kOK s k) {p i : Nat} (hp : p < zP s) (hi : i < 2 ^ 31) : Run 3 j_E_level [.ref 0, .int (nI p), .int (kV k), .int (nI i)] h (some (.long (levR s c p k i))) h := by
  have hT := o.T; have hP := o.P; have hK := o.K; have hD := o.D; have hO := o.O; have hQ := o.Q; have hL := o.L
  have hc := cO_le s k (zT s)
  refine Run.of rfl ?_
  refine Wp.norm (L' := [_, _, _, _]) rfl ?_
  repeat (first | (refine W1 rfl ?_; try refine Wp.norm (L' := [_, _, _, _]) rfl ?_) | refine brT (by first | decide | omega) ?_ | refine brF (by first | decide | omega) ?_ | refine brTn (by first | decide | omega) ?_ | refine brFn (by first | decide | omega) ?_ | refine And.intro (vp_lit (by decide)) ?_ | refine And.intro (vp_in_nI (by omega) (by decide)) ?_ | (change _ ∧ _; simp (disch := omega) only [nI_clamp, nI_leI, nI_ltI, nI_eq, nI_1, nI_add, nI_not_neg, nI_is_pos, nI_m1, nI_z]))
  try change _ ∧ _
  refine Cl.of (g_EP R o hp) (by decide) ?_
  repeat (first | (refine W1 rfl ?_; try refine Wp.norm (L' := [_, _, _, _]) rfl ?_) | refine brT (by first | decide | omega) ?_ | refine brF (by first | decide | omega) ?_ | refine brTn (by first | decide | omega) ?_ | refine brFn (by first | decide | omega) ?_ | refine And.intro (vp_lit (by decide)) ?_ | refine And.intro (vp_in_nI (by omega) (by decide)) ?_ | (change _ ∧ _; simp (disch := omega) only [nI_clamp, nI_leI, nI_ltI, nI_eq, nI_1, nI_add, nI_not_neg, nI_is_pos, nI_m1, nI_z]))
  try change _ ∧ _
  refine Cl.of (g_EKN R o hk) (by decide) ?_
  repeat (first | (refine W1 rfl ?_; try refine Wp.norm (L' := [_, _, _, _]) rfl ?_) | refine brT (by first | decide | omega) ?_ | refine brF (by first | decide | omega) ?_ | refine brTn (by first | decide | omega) ?_ | refine brFn (by first | decide | omega) ?_ | refine And.intro (vp_lit (by decide)) ?_ | refine And.intro (vp_in_nI (by omega) (by decide)) ?_ | (change _ ∧ _; simp (disch := omega) only [nI_clamp, nI_leI, nI_ltI, nI_eq, nI_1, nI_add, nI_not_neg, nI_is_pos, nI_m1, nI_z]))
  try change _ ∧ _
  refine Cl.of (r_Calendar_countOf R o hk) (by decide) ?_
  repeat (first | (refine W1 rfl ?_; try refine Wp.norm (L' := [_, _, _, _]) rfl ?_) | refine brT (by first | decide | omega) ?_ | refine brF (by first | decide | omega) ?_ | refine brTn (by first | decide | omega) ?_ | refine brFn (by first | decide | omega) ?_ | refine And.intro (vp_lit (by decide)) ?_ | refine And.intro (vp_in_nI (by omega) (by decide)) ?_ | (change _ ∧ _; simp (disch := omega) only [nI_clamp, nI_leI, nI_ltI, nI_eq, nI_1, nI_add, nI_not_neg, nI_is_pos, nI_m1, nI_z]))
  try change _ ∧ _
  unfold levR
  refine ⟨fun hle => ?_, fun hle => ?_⟩
  · rw [if_pos hle]
    repeat (first | (refine W1 rfl ?_; try refine Wp.norm (L' := [_, _, _, _]) rfl ?_) | refine brT (by first | decide | omega) ?_ | refine brF (by first | decide | omega) ?_ | refine brTn (by first | decide | omega) ?_ | refine brFn (by first | decide | omega) ?_ | refine And.intro (vp_lit (by decide)) ?_ | refine And.intro (vp_in_nI (by omega) (by decide)) ?_ | (change _ ∧ _; simp (disch := omega) only [nI_clamp, nI_leI, nI_ltI, nI_eq, nI_1, nI_add, nI_not_neg, nI_is_pos, nI_m1, nI_z]))
    try change _ ∧ _
    refine Cl.of (r_Levels_ahead R o hk hp hle) (by decide) ?_
    repeat (first | (refine W1 rfl ?_; try refine Wp.norm (L' := [_, _, _, _]) rfl ?_) | refine brT (by first | decide | omega) ?_ | refine brF (by first | decide | omega) ?_ | refine brTn (by first | decide | omega) ?_ | refine brFn (by first | decide | omega) ?_ | refine And.intro (vp_lit (by decide)) ?_ | refine And.intro (vp_in_nI (by omega) (by decide)) ?_ | (change _ ∧ _; simp (disch := omega) only [nI_clamp, nI_leI, nI_ltI, nI_eq, nI_1, nI_add, nI_not_neg, nI_is_pos, nI_m1, nI_z]))
    try change _ ∧ _
    try first | exact ⟨rfl, rfl⟩ | exact ⟨Or.inr rfl, rfl, rfl⟩ | exact ⟨Or.inl rfl, rfl, rfl⟩ | exact ⟨trivial, trivial⟩ | exact ⟨rfl, trivial⟩ | exact ⟨Or.inr rfl, rfl, trivial⟩ | exact ⟨Or.inl rfl, rfl, trivial⟩
  · rw [if_neg hle]
    repeat (first | (refine W1 rfl ?_; try refine Wp.norm (L' := [_, _, _, _]) rfl ?_) | refine brT (by first | decide | omega) ?_ | refine brF (by first | decide | omega) ?_ | refine brTn (by first | decide | omega) ?_ | refine brFn (by first | decide | omega) ?_ | refine And.intro (vp_lit (by decide)) ?_ | refine And.intro (vp_in_nI (by omega) (by decide)) ?_ | (change _ ∧ _; simp (disch := omega) only [nI_clamp, nI_leI, nI_ltI, nI_eq, nI_1, nI_add, nI_not_neg, nI_is_pos, nI_m1, nI_z]))
    try change _ ∧ _
    try first | exact ⟨rfl, rfl⟩ | exact ⟨Or.inr rfl, rfl, rfl⟩ | exact ⟨Or.inl rfl, rfl, rfl⟩ | exact ⟨trivial, trivial⟩ | exact ⟨rfl, trivial⟩ | exact ⟨Or.inr rfl, rfl, trivial⟩ | exact ⟨Or.inl rfl, rfl, trivial⟩
theorem r_E_levelN (R : RC s c v h) (o : OK s) {x y z : Int32} (hb : ¬ (0 ≤ x ∧ x < nI (zP s)) ∨ (¬ y = -1 ∧ ¬ (0 ≤ y ∧ y < nI (zK s))) ∨ z < 0) : Run 3 j_E_level [.ref 0, .int x, .int y, .int z] h (some (.long NOL)) h := by
  have hT := o.T; have hP := o.P; have hK := o.K; have hD := o.D; have hO := o.O; have hQ := o.Q; have hL := o.L
  refine Run.of rfl ?_
  refine Wp.norm (L' := [_, _, _, _]) rfl ?_
  repeat (first | (refine W1 rfl ?_; try refine Wp.norm (L' := [_, _, _, _]) rfl ?_) | refine brT (by first | decide | omega) ?_ | refine brF (by first | decide | omega) ?_ | refine brTn (by first | decide | omega) ?_ | refine brFn (by first | decide | omega) ?_ | refine And.intro (vp_lit (by decide)) ?_ | refine And.intro (vp_in_nI (by omega) (by decide)) ?_ | (change _ ∧ _; simp (disch := omega) only [nI_clamp, nI_leI, nI_ltI, nI_eq, nI_1, nI_add, nI_not_neg, nI_is_pos, nI_m1, nI_z]))
  try change _ ∧ _
  rcases ix_cases x (n := zP s) (by omega) with ⟨p, hp, rfl⟩ | hx
  · refine Cl.of (g_EP R o hp) (by decide) ?_
    repeat (first | (refine W1 rfl ?_; try refine Wp.norm (L' := [_, _, _, _]) rfl ?_) | refine brT (by first | decide | omega) ?_ | refine brF (by first | decide | omega) ?_ | refine brTn (by first | decide | omega) ?_ | refine brFn (by first | decide | omega) ?_ | refine And.intro (vp_lit (by decide)) ?_ | refine And.intro (vp_in_nI (by omega) (by decide)) ?_ | (change _ ∧ _; simp (disch := omega) only [nI_clamp, nI_leI, nI_ltI, nI_eq, nI_1, nI_add, nI_not_neg, nI_is_pos, nI_m1, nI_z]))
    try change _ ∧ _
    rcases k_cases o y with ⟨k, hk, rfl⟩ | ⟨h1, h2⟩
    · refine Cl.of (g_EKN R o hk) (by decide) ?_
      repeat (first | (refine W1 rfl ?_; try refine Wp.norm (L' := [_, _, _, _]) rfl ?_) | refine brT (by first | decide | omega) ?_ | refine brF (by first | decide | omega) ?_ | refine brTn (by first | decide | omega) ?_ | refine brFn (by first | decide | omega) ?_ | refine And.intro (vp_lit (by decide)) ?_ | refine And.intro (vp_in_nI (by omega) (by decide)) ?_ | (change _ ∧ _; simp (disch := omega) only [nI_clamp, nI_leI, nI_ltI, nI_eq, nI_1, nI_add, nI_not_neg, nI_is_pos, nI_m1, nI_z]))
      try change _ ∧ _
      have hz : z < 0 := by
        rcases hb with q | ⟨q1, q2⟩ | q
        · exact absurd (ix_ok hp (by omega)) q
        · exfalso
          cases k with
          | none => exact q1 rfl
          | some k => exact q2 (ix_ok (hk k rfl) (by omega))
        · exact q
      refine brT hz ?_
      repeat (first | (refine W1 rfl ?_; try refine Wp.norm (L' := [_, _, _, _]) rfl ?_) | refine brT (by first | decide | omega) ?_ | refine brF (by first | decide | omega) ?_ | refine brTn (by first | decide | omega) ?_ | refine brFn (by first | decide | omega) ?_ | refine And.intro (vp_lit (by decide)) ?_ | refine And.intro (vp_in_nI (by omega) (by decide)) ?_ | (change _ ∧ _; simp (disch := omega) only [nI_clamp, nI_leI, nI_ltI, nI_eq, nI_1, nI_add, nI_not_neg, nI_is_pos, nI_m1, nI_z]))
      try change _ ∧ _
      try first | exact ⟨rfl, rfl⟩ | exact ⟨Or.inr rfl, rfl, rfl⟩ | exact ⟨Or.inl rfl, rfl, rfl⟩ | exact ⟨trivial, trivial⟩ | exact ⟨rfl, trivial⟩ | exact ⟨Or.inr rfl, rfl, trivial⟩ | exact ⟨Or.inl rfl, rfl, trivial⟩
    · refine Cl.of (g_EKNn R h1 h2) (by decide) ?_
      repeat (first | (refine W1 rfl ?_; try refine Wp.norm (L' := [_, _, _, _]) rfl ?_) | refine brT (by first | decide | omega) ?_ | refine brF (by first | decide | omega) ?_ | refine brTn (by first | decide | omega) ?_ | refine brFn (by first | decide | omega) ?_ | refine And.intro (vp_lit (by decide)) ?_ | refine And.intro (vp_in_nI (by omega) (by decide)) ?_ | (change _ ∧ _; simp (disch := omega) only [nI_clamp, nI_leI, nI_ltI, nI_eq, nI_1, nI_add, nI_not_neg, nI_is_pos, nI_m1, nI_z]))
      try change _ ∧ _
      try first | exact ⟨rfl, rfl⟩ | exact ⟨Or.inr rfl, rfl, rfl⟩ | exact ⟨Or.inl rfl, rfl, rfl⟩ | exact ⟨trivial, trivial⟩ | exact ⟨rfl, trivial⟩ | exact ⟨Or.inr rfl, rfl, trivial⟩ | exact ⟨Or.inl rfl, rfl, trivial⟩
  · refine Cl.of (g_EPn R hx) (by decide) ?_
    repeat (first | (refine W1 rfl ?_; try refine Wp.norm (L' := [_, _, _, _]) rfl ?_) | refine brT (by first | decide | omega) ?_ | refine brF (by first | decide | omega) ?_ | refine brTn (by first | decide | omega) ?_ | refine brFn (by first | decide | omega) ?_ | refine And.intro (vp_lit (by decide)) ?_ | refine And.intro (vp_in_nI (by omega) (by decide)) ?_ | (change _ ∧ _; simp (disch := omega) only [nI_clamp, nI_leI, nI_ltI, nI_eq, nI_1, nI_add, nI_not_neg, nI_is_pos, nI_m1, nI_z]))
    try change _ ∧ _
    try first | exact ⟨rfl, rfl⟩ | exact ⟨Or.inr rfl, rfl, rfl⟩ | exact ⟨Or.inl rfl, rfl, rfl⟩ | exact ⟨trivial, trivial⟩ | exact ⟨rfl, trivial⟩ | exact ⟨Or.inr rfl, rfl, trivial⟩ | exact ⟨Or.inl rfl, rfl, trivial⟩
theorem r_M_level (R : RM s c v h) (o : OK s) (hk : kOK s k) {p i : Nat} (hp : p < zP s) (hi : i < 2 ^ 31) : Run 3 j_M_level [.ref 65, .int (nI p), .int (kV k), .int (nI i)] h (some (.long (levR s c p k i))) h := by
  have hT := o.T; have hP := o.P; have hK := o.K; have hD := o.D; have hO := o.O; have hQ := o.Q; have hL := o.L
  have hc := cO_le s k (zT s)
  have mid : Wp 3 j_M_level 21 [.ref 65, .int (nI p), .int (kV k), .int (nI i), .null, .null, .null, .null] [] h (fun v' h2 => v' = some (.long (levR s c p k i)) ∧ h2 = h) := by
    iterate 2 (refine W1 rfl ?_; try refine Wp.norm (L' := [_, _, _, _, _, _, _, _]) rfl ?_)
    refine brT (nI_pos' hi) ?_
    refine Wp.norm (L' := [_, _, _, _, _, _, _, _]) rfl ?_
    iterate 6 (refine W1 rfl ?_; try refine Wp.norm (L' := [_, _, _, _, _, _, _, _]) rfl ?_)
    refine Wp.at (up_ind (n := zT s) (P := fun t => cO s k t ≤ i → Wp 3 j_M_level 38 [.ref 65, .int (nI p), .int (kV k), .int (nI i), .long (lvl s c p k (cO s k t)), .null, .int (nI (cO s k t)), .int (nI t)] [] h _) (fun hle => ?_) (fun t ht ih hle => ?_) 0 (Nat.zero_le _) (Nat.zero_le _)) rfl rfl rfl rfl
    · repeat (first | (refine W1 rfl ?_; try refine Wp.norm (L' := [_, _, _, _, _, _, _, _]) rfl ?_) | refine brT (by first | decide | omega) ?_ | refine brF (by first | decide | omega) ?_ | refine brTn (by first | decide | omega) ?_ | refine brFn (by first | decide | omega) ?_ | refine And.intro (vp_lit (by decide)) ?_ | refine And.intro (vp_in_nI (by omega) (by decide)) ?_ | (change _ ∧ _; simp (disch := omega) only [nI_clamp, nI_leI, nI_ltI, nI_eq, nI_1, nI_add, nI_not_neg, nI_is_pos, nI_m1, nI_z, R.T]))
      try change _ ∧ _
      refine ⟨fun hne => ?_, fun he => ?_⟩
      · repeat (first | (refine W1 rfl ?_; try refine Wp.norm (L' := [_, _, _, _, _, _, _, _]) rfl ?_) | refine brT (by first | decide | omega) ?_ | refine brF (by first | decide | omega) ?_ | refine brTn (by first | decide | omega) ?_ | refine brFn (by first | decide | omega) ?_ | refine And.intro (vp_lit (by decide)) ?_ | refine And.intro (vp_in_nI (by omega) (by decide)) ?_ | (change _ ∧ _; simp (disch := omega) only [nI_clamp, nI_leI, nI_ltI, nI_eq, nI_1, nI_add, nI_not_neg, nI_is_pos, nI_m1, nI_z]))
        try change _ ∧ _
        rw [levR, if_neg (by omega)]
        try first | exact ⟨rfl, rfl⟩ | exact ⟨Or.inr rfl, rfl, rfl⟩ | exact ⟨Or.inl rfl, rfl, rfl⟩ | exact ⟨trivial, trivial⟩ | exact ⟨rfl, trivial⟩ | exact ⟨Or.inr rfl, rfl, trivial⟩ | exact ⟨Or.inl rfl, rfl, trivial⟩
      · repeat (first | (refine W1 rfl ?_; try refine Wp.norm (L' := [_, _, _, _, _, _, _, _]) rfl ?_) | refine brT (by first | decide | omega) ?_ | refine brF (by first | decide | omega) ?_ | refine brTn (by first | decide | omega) ?_ | refine brFn (by first | decide | omega) ?_ | refine And.intro (vp_lit (by decide)) ?_ | refine And.intro (vp_in_nI (by omega) (by decide)) ?_ | (change _ ∧ _; simp (disch := omega) only [nI_clamp, nI_leI, nI_ltI, nI_eq, nI_1, nI_add, nI_not_neg, nI_is_pos, nI_m1, nI_z]))
        try change _ ∧ _
        rw [levR, if_pos (by omega), he]
        try first | exact ⟨rfl, rfl⟩ | exact ⟨Or.inr rfl, rfl, rfl⟩ | exact ⟨Or.inl rfl, rfl, rfl⟩ | exact ⟨trivial, trivial⟩ | exact ⟨rfl, trivial⟩ | exact ⟨Or.inr rfl, rfl, trivial⟩ | exact ⟨Or.inl rfl, rfl, trivial⟩
    · have hc2 := cO_le s k t
      repeat (first | (refine W1 rfl ?_; try refine Wp.norm (L' := [_, _, _, _, _, _, _, _]) rfl ?_) | refine brT (by first | decide | omega) ?_ | refine brF (by first | decide | omega) ?_ | refine brTn (by first | decide | omega) ?_ | refine brFn (by first | decide | omega) ?_ | refine And.intro (vp_lit (by decide)) ?_ | refine And.intro (vp_in_nI (by omega) (by decide)) ?_ | (change _ ∧ _; simp (disch := omega) only [nI_clamp, nI_leI, nI_ltI, nI_eq, nI_1, nI_add, nI_not_neg, nI_is_pos, nI_m1, nI_z, R.T]))
      try change _ ∧ _
      refine Cl.of (r_M_isOf R o hk ht) (by decide) ?_
      have e := cO_succ s k t
      by_cases hb : isO s k t = true
      · rw [if_pos hb] at e ⊢
        rw [e] at ih
        repeat (first | (refine W1 rfl ?_; try refine Wp.norm (L' := [_, _, _, _, _, _, _, _]) rfl ?_) | refine brT (by first | decide | omega) ?_ | refine brF (by first | decide | omega) ?_ | refine brTn (by first | decide | omega) ?_ | refine brFn (by first | decide | omega) ?_ | refine And.intro (vp_lit (by decide)) ?_ | refine And.intro (vp_in_nI (by omega) (by decide)) ?_ | (change _ ∧ _; simp (disch := omega) only [nI_clamp, nI_leI, nI_ltI, nI_eq, nI_1, nI_add, nI_not_neg, nI_is_pos, nI_m1, nI_z]))
        try change _ ∧ _
        refine ⟨fun hne => ?_, fun he => ?_⟩
        · have ih := ih (by omega)
          repeat (first | (refine W1 rfl ?_; try refine Wp.norm (L' := [_, _, _, _, _, _, _, _]) rfl ?_) | refine brT (by first | decide | omega) ?_ | refine brF (by first | decide | omega) ?_ | refine brTn (by first | decide | omega) ?_ | refine brFn (by first | decide | omega) ?_ | refine And.intro (vp_lit (by decide)) ?_ | refine And.intro (vp_in_nI (by omega) (by decide)) ?_ | (change _ ∧ _; simp (disch := omega) only [nI_clamp, nI_leI, nI_ltI, nI_eq, nI_1, nI_add, nI_not_neg, nI_is_pos, nI_m1, nI_z]))
          try change _ ∧ _
          refine Cl.of (r_M_stepOf R o hk hp ht) (by decide) ?_
          repeat (first | refine Wp.at ih rfl rfl ?_ rfl | (refine W1 rfl ?_; try refine Wp.norm (L' := [_, _, _, _, _, _, _, _]) rfl ?_) | refine brT (by first | decide | omega) ?_ | refine brF (by first | decide | omega) ?_ | refine brTn (by first | decide | omega) ?_ | refine brFn (by first | decide | omega) ?_ | refine And.intro (vp_lit (by decide)) ?_ | refine And.intro (vp_in_nI (by omega) (by decide)) ?_ | (change _ ∧ _; simp (disch := omega) only [nI_clamp, nI_leI, nI_ltI, nI_eq, nI_1, nI_add, nI_not_neg, nI_is_pos, nI_m1, nI_z]))
          try change _ ∧ _
          rw [nI_1, nI_1]
          have e2 : lvl s c p k (cO s k t + 1) = lvl s c p k (cO s k t) + chg s c p k t := by
            show lvl s c p k (cO s k t) + chg s c p k (tA s k (cO s k t)) = _
            rw [tA_of o ht hb]
          rw [e2]
        · repeat (first | (refine W1 rfl ?_; try refine Wp.norm (L' := [_, _, _, _, _, _, _, _]) rfl ?_) | refine brT (by first | decide | omega) ?_ | refine brF (by first | decide | omega) ?_ | refine brTn (by first | decide | omega) ?_ | refine brFn (by first | decide | omega) ?_ | refine And.intro (vp_lit (by decide)) ?_ | refine And.intro (vp_in_nI (by omega) (by decide)) ?_ | (change _ ∧ _; simp (disch := omega) only [nI_clamp, nI_leI, nI_ltI, nI_eq, nI_1, nI_add, nI_not_neg, nI_is_pos, nI_m1, nI_z]))
          try change _ ∧ _
          have := cnt_mono (fun u => isO s k u = true) (Nat.le_of_lt ht)
          rw [levR, if_pos (by unfold cO at *; omega), he]
          try first | exact ⟨rfl, rfl⟩ | exact ⟨Or.inr rfl, rfl, rfl⟩ | exact ⟨Or.inl rfl, rfl, rfl⟩ | exact ⟨trivial, trivial⟩ | exact ⟨rfl, trivial⟩ | exact ⟨Or.inr rfl, rfl, trivial⟩ | exact ⟨Or.inl rfl, rfl, trivial⟩
      · rw [if_neg hb] at e ⊢
        rw [e] at ih
        have ih := ih (by omega)
        repeat (first | refine Wp.at ih rfl rfl ?_ rfl | (refine W1 rfl ?_; try refine Wp.norm (L' := [_, _, _, _, _, _, _, _]) rfl ?_) | refine brT (by first | decide | omega) ?_ | refine brF (by first | decide | omega) ?_ | refine brTn (by first | decide | omega) ?_ | refine brFn (by first | decide | omega) ?_ | refine And.intro (vp_lit (by decide)) ?_ | refine And.intro (vp_in_nI (by omega) (by decide)) ?_ | (change _ ∧ _; simp (disch := omega) only [nI_clamp, nI_leI, nI_ltI, nI_eq, nI_1, nI_add, nI_not_neg, nI_is_pos, nI_m1, nI_z]))
        try change _ ∧ _
        rw [nI_1]
        rfl
  refine Run.of rfl ?_
  refine Wp.norm (L' := [_, _, _, _, _, _, _, _]) rfl ?_
  repeat (first | (refine W1 rfl ?_; try refine Wp.norm (L' := [_, _, _, _, _, _, _, _]) rfl ?_) | refine brT (by first | decide | omega) ?_ | refine brF (by first | decide | omega) ?_ | refine brTn (by first | decide | omega) ?_ | refine brFn (by first | decide | omega) ?_ | refine And.intro (vp_lit (by decide)) ?_ | refine And.intro (vp_in_nI (by omega) (by decide)) ?_ | (change _ ∧ _; simp (disch := omega) only [nI_clamp, nI_leI, nI_ltI, nI_eq, nI_1, nI_add, nI_not_neg, nI_is_pos, nI_m1, nI_z]))
  try change _ ∧ _
  refine Cl.of (g_MP R o hp) (by decide) ?_
  repeat (first | (refine W1 rfl ?_; try refine Wp.norm (L' := [_, _, _, _, _, _, _, _]) rfl ?_) | refine brT (by first | decide | omega) ?_ | refine brF (by first | decide | omega) ?_ | refine brTn (by first | decide | omega) ?_ | refine brFn (by first | decide | omega) ?_ | refine And.intro (vp_lit (by decide)) ?_ | refine And.intro (vp_in_nI (by omega) (by decide)) ?_ | (change _ ∧ _; simp (disch := omega) only [nI_clamp, nI_leI, nI_ltI, nI_eq, nI_1, nI_add, nI_not_neg, nI_is_pos, nI_m1, nI_z]))
  try change _ ∧ _
  cases k with
  | none =>
    refine brT rfl ?_
    exact mid
  | some k =>
    have hk1 := hk k rfl
    refine brF (fun z => (nI_m1 (by omega)).mp z) ?_
    repeat (first | (refine W1 rfl ?_; try refine Wp.norm (L' := [_, _, _, _, _, _, _, _]) rfl ?_) | refine brT (by first | decide | omega) ?_ | refine brF (by first | decide | omega) ?_ | refine brTn (by first | decide | omega) ?_ | refine brFn (by first | decide | omega) ?_ | refine And.intro (vp_lit (by decide)) ?_ | refine And.intro (vp_in_nI (by omega) (by decide)) ?_ | (change _ ∧ _; simp (disch := omega) only [nI_clamp, nI_leI, nI_ltI, nI_eq, nI_1, nI_add, nI_not_neg, nI_is_pos, nI_m1, nI_z]))
    try change _ ∧ _
    refine Cl.of (g_MK R o hk1) (by decide) ?_
    (refine W1 rfl ?_; try refine Wp.norm (L' := [_, _, _, _, _, _, _, _]) rfl ?_)
    refine brF (by decide) ?_
    exact mid
theorem r_M_levelN (R : RM s c v h) (o : OK s) {x y z : Int32} (hb : ¬ (0 ≤ x ∧ x < nI (zP s)) ∨ (¬ y = -1 ∧ ¬ (0 ≤ y ∧ y < nI (zK s))) ∨ z < 0) : Run 3 j_M_level [.ref 65, .int x, .int y, .int z] h (some (.long NOL)) h := by
  have hT := o.T; have hP := o.P; have hK := o.K; have hD := o.D; have hO := o.O; have hQ := o.Q; have hL := o.L
  refine Run.of rfl ?_
  refine Wp.norm (L' := [_, _, _, _, _, _, _, _]) rfl ?_
  repeat (first | (refine W1 rfl ?_; try refine Wp.norm (L' := [_, _, _, _, _, _, _, _]) rfl ?_) | refine brT (by first | decide | omega) ?_ | refine brF (by first | decide | omega) ?_ | refine brTn (by first | decide | omega) ?_ | refine brFn (by first | decide | omega) ?_ | refine And.intro (vp_lit (by decide)) ?_ | refine And.intro (vp_in_nI (by omega) (by decide)) ?_ | (change _ ∧ _; simp (disch := omega) only [nI_clamp, nI_leI, nI_ltI, nI_eq, nI_1, nI_add, nI_not_neg, nI_is_pos, nI_m1, nI_z]))
  try change _ ∧ _
  rcases ix_cases x (n := zP s) (by omega) with ⟨p, hp, rfl⟩ | hx
  · refine Cl.of (g_MP R o hp) (by decide) ?_
    repeat (first | (refine W1 rfl ?_; try refine Wp.norm (L' := [_, _, _, _, _, _, _, _]) rfl ?_) | refine brT (by first | decide | omega) ?_ | refine brF (by first | decide | omega) ?_ | refine brTn (by first | decide | omega) ?_ | refine brFn (by first | decide | omega) ?_ | refine And.intro (vp_lit (by decide)) ?_ | refine And.intro (vp_in_nI (by omega) (by decide)) ?_ | (change _ ∧ _; simp (disch := omega) only [nI_clamp, nI_leI, nI_ltI, nI_eq, nI_1, nI_add, nI_not_neg, nI_is_pos, nI_m1, nI_z]))
    try change _ ∧ _
    rcases k_cases o y with ⟨k, hk, rfl⟩ | ⟨h1, h2⟩
    · have hz : z < 0 := by
        rcases hb with q | ⟨q1, q2⟩ | q
        · exact absurd (ix_ok hp (by omega)) q
        · exfalso
          cases k with
          | none => exact q1 rfl
          | some k => exact q2 (ix_ok (hk k rfl) (by omega))
        · exact q
      cases k with
      | none =>
        refine brT rfl ?_
        repeat (first | (refine W1 rfl ?_; try refine Wp.norm (L' := [_, _, _, _, _, _, _, _]) rfl ?_) | refine brT (by first | decide | omega) ?_ | refine brF (by first | decide | omega) ?_ | refine brTn (by first | decide | omega) ?_ | refine brFn (by first | decide | omega) ?_ | refine And.intro (vp_lit (by decide)) ?_ | refine And.intro (vp_in_nI (by omega) (by decide)) ?_ | (change _ ∧ _; simp (disch := omega) only [nI_clamp, nI_leI, nI_ltI, nI_eq, nI_1, nI_add, nI_not_neg, nI_is_pos, nI_m1, nI_z]))
        try change _ ∧ _
        refine brF (Int32.not_le.mpr hz) ?_
        repeat (first | (refine W1 rfl ?_; try refine Wp.norm (L' := [_, _, _, _, _, _, _, _]) rfl ?_) | refine brT (by first | decide | omega) ?_ | refine brF (by first | decide | omega) ?_ | refine brTn (by first | decide | omega) ?_ | refine brFn (by first | decide | omega) ?_ | refine And.intro (vp_lit (by decide)) ?_ | refine And.intro (vp_in_nI (by omega) (by decide)) ?_ | (change _ ∧ _; simp (disch := omega) only [nI_clamp, nI_leI, nI_ltI, nI_eq, nI_1, nI_add, nI_not_neg, nI_is_pos, nI_m1, nI_z]))
        try change _ ∧ _
        try first | exact ⟨rfl, rfl⟩ | exact ⟨Or.inr rfl, rfl, rfl⟩ | exact ⟨Or.inl rfl, rfl, rfl⟩ | exact ⟨trivial, trivial⟩ | exact ⟨rfl, trivial⟩ | exact ⟨Or.inr rfl, rfl, trivial⟩ | exact ⟨Or.inl rfl, rfl, trivial⟩
      | some k =>
        have hk1 := hk k rfl
        refine brF (fun z => (nI_m1 (by omega)).mp z) ?_
        repeat (first | (refine W1 rfl ?_; try refine Wp.norm (L' := [_, _, _, _, _, _, _, _]) rfl ?_) | refine brT (by first | decide | omega) ?_ | refine brF (by first | decide | omega) ?_ | refine brTn (by first | decide | omega) ?_ | refine brFn (by first | decide | omega) ?_ | refine And.intro (vp_lit (by decide)) ?_ | refine And.intro (vp_in_nI (by omega) (by decide)) ?_ | (change _ ∧ _; simp (disch := omega) only [nI_clamp, nI_leI, nI_ltI, nI_eq, nI_1, nI_add, nI_not_neg, nI_is_pos, nI_m1, nI_z]))
        try change _ ∧ _
        refine Cl.of (g_MK R o hk1) (by decide) ?_
        repeat (first | (refine W1 rfl ?_; try refine Wp.norm (L' := [_, _, _, _, _, _, _, _]) rfl ?_) | refine brT (by first | decide | omega) ?_ | refine brF (by first | decide | omega) ?_ | refine brTn (by first | decide | omega) ?_ | refine brFn (by first | decide | omega) ?_ | refine And.intro (vp_lit (by decide)) ?_ | refine And.intro (vp_in_nI (by omega) (by decide)) ?_ | (change _ ∧ _; simp (disch := omega) only [nI_clamp, nI_leI, nI_ltI, nI_eq, nI_1, nI_add, nI_not_neg, nI_is_pos, nI_m1, nI_z]))
        try change _ ∧ _
        refine brF (Int32.not_le.mpr hz) ?_
        repeat (first | (refine W1 rfl ?_; try refine Wp.norm (L' := [_, _, _, _, _, _, _, _]) rfl ?_) | refine brT (by first | decide | omega) ?_ | refine brF (by first | decide | omega) ?_ | refine brTn (by first | decide | omega) ?_ | refine brFn (by first | decide | omega) ?_ | refine And.intro (vp_lit (by decide)) ?_ | refine And.intro (vp_in_nI (by omega) (by decide)) ?_ | (change _ ∧ _; simp (disch := omega) only [nI_clamp, nI_leI, nI_ltI, nI_eq, nI_1, nI_add, nI_not_neg, nI_is_pos, nI_m1, nI_z]))
        try change _ ∧ _
        try first | exact ⟨rfl, rfl⟩ | exact ⟨Or.inr rfl, rfl, rfl⟩ | exact ⟨Or.inl rfl, rfl, rfl⟩ | exact ⟨trivial, trivial⟩ | exact ⟨rfl, trivial⟩ | exact ⟨Or.inr rfl, rfl, trivial⟩ | exact ⟨Or.inl rfl, rfl, trivial⟩
    · refine brF h1 ?_
      repeat (first | (refine W1 rfl ?_; try refine Wp.norm (L' := [_, _, _, _, _, _, _, _]) rfl ?_) | refine brT (by first | decide | omega) ?_ | refine brF (by first | decide | omega) ?_ | refine brTn (by first | decide | omega) ?_ | refine brFn (by first | decide | omega) ?_ | refine And.intro (vp_lit (by decide)) ?_ | refine And.intro (vp_in_nI (by omega) (by decide)) ?_ | (change _ ∧ _; simp (disch := omega) only [nI_clamp, nI_leI, nI_ltI, nI_eq, nI_1, nI_add, nI_not_neg, nI_is_pos, nI_m1, nI_z]))
      try change _ ∧ _
      refine Cl.of (g_MKn R o h2) (by decide) ?_
      repeat (first | (refine W1 rfl ?_; try refine Wp.norm (L' := [_, _, _, _, _, _, _, _]) rfl ?_) | refine brT (by first | decide | omega) ?_ | refine brF (by first | decide | omega) ?_ | refine brTn (by first | decide | omega) ?_ | refine brFn (by first | decide | omega) ?_ | refine And.intro (vp_lit (by decide)) ?_ | refine And.intro (vp_in_nI (by omega) (by decide)) ?_ | (change _ ∧ _; simp (disch := omega) only [nI_clamp, nI_leI, nI_ltI, nI_eq, nI_1, nI_add, nI_not_neg, nI_is_pos, nI_m1, nI_z]))
      try change _ ∧ _
      try first | exact ⟨rfl, rfl⟩ | exact ⟨Or.inr rfl, rfl, rfl⟩ | exact ⟨Or.inl rfl, rfl, rfl⟩ | exact ⟨trivial, trivial⟩ | exact ⟨rfl, trivial⟩ | exact ⟨Or.inr rfl, rfl, trivial⟩ | exact ⟨Or.inl rfl, rfl, trivial⟩
  · refine Cl.of (g_MPn R o hx) (by decide) ?_
    repeat (first | (refine W1 rfl ?_; try refine Wp.norm (L' := [_, _, _, _, _, _, _, _]) rfl ?_) | refine brT (by first | decide | omega) ?_ | refine brF (by first | decide | omega) ?_ | refine brTn (by first | decide | omega) ?_ | refine brFn (by first | decide | omega) ?_ | refine And.intro (vp_lit (by decide)) ?_ | refine And.intro (vp_in_nI (by omega) (by decide)) ?_ | (change _ ∧ _; simp (disch := omega) only [nI_clamp, nI_leI, nI_ltI, nI_eq, nI_1, nI_add, nI_not_neg, nI_is_pos, nI_m1, nI_z]))
    try change _ ∧ _
    try first | exact ⟨rfl, rfl⟩ | exact ⟨Or.inr rfl, rfl, rfl⟩ | exact ⟨Or.inl rfl, rfl, rfl⟩ | exact ⟨trivial, trivial⟩ | exact ⟨rfl, trivial⟩ | exact ⟨Or.inr rfl, rfl, trivial⟩ | exact ⟨Or.inl rfl, rfl, trivial⟩
theorem o_level : op_9 Inv := fun x y z => op_roL fun _ _ R M o _ => by
  have hP := o.P
  rcases ix_cases x (n := zP _) (Nat.lt_of_le_of_lt o.P (by decide)) with ⟨p, hp, rfl⟩ | hx
  · rcases k_cases o y with ⟨k, hk, rfl⟩ | hy
    · by_cases hz : z < 0
      · exact ⟨_, (r_E_levelN R o (Or.inr (Or.inr hz))).d, (r_M_levelN M o (Or.inr (Or.inr hz))).d⟩
      · obtain ⟨j, hj, rfl⟩ := nI_of hz
        exact ⟨_, (r_E_level R o hk hp hj).d, (r_M_level M o hk hp hj).d⟩
    · exact ⟨_, (r_E_levelN R o (Or.inr (Or.inl hy))).d, (r_M_levelN M o (Or.inr (Or.inl hy))).d⟩
  · exact ⟨_, (r_E_levelN R o (Or.inl hx)).d, (r_M_levelN M o (Or.inl hx)).d⟩
end OPS2
