/-! ===== TESTS ARE TRIED: the model, all of them; how many turns ===== -/
section MTA
variable {s : ST} {C : List Nat} {h h' : HP}
theorem DM.hx (D : DM s h) (F : HX h h') : DM s h' := by
  obtain ⟨d1, d2, d3, d4⟩ := D
  have e : ∀ k i, k ≠ 65 → h'.1 k i = h.1 k i := fun k i hk => F.1 k i (fun z => hk z.1)
  have eJ : ∀ k i, k ≠ 105 → h'.2 k i = h.2 k i := fun k i hk => F.2 k i hk
  refine ⟨?_, fun p hp => ?_, fun p hp => ?_, fun p hp => ?_⟩
  · rw [e 87 _ (by decide), e 88 _ (by decide), e 89 _ (by decide), e 90 _ (by decide)]; exact d1
  · rw [eJ 91 _ (by decide), e 92 _ (by decide), e 93 _ (by decide), e 94 _ (by decide)]; exact d2 p hp
  · rw [eJ 95 _ (by decide), e 96 _ (by decide)]; exact d3 p hp
  · rw [e 97 _ (by decide), e 98 _ (by decide), e 99 _ (by decide), e 100 _ (by decide), e 101 _ (by decide), e 102 _ (by decide)]; exact d4 p hp
theorem CM.hx (c : CM C h) (F : HX h h') : CM C h' := by
  refine ⟨c.1, ?_, fun k hk => ?_⟩
  · rw [F.1 65 48 (fun z => absurd z.2 (by decide))]; exact c.2.1
  · rw [F.1 103 k (fun z => absurd z.1 (by decide))]; exact c.2.2 k hk
theorem m_hold {rr off r d : Nat} (hoff : (rr < 60 ∧ off = 0) ∨ (60 ≤ rr ∧ rr < 120 ∧ off = 900)) (e101 : h.1 101 rr = nI (s 26 r)) (e102 : h.1 102 rr = nI (s 27 r)) (hc : ∀ q, q < C.length → h.1 103 (off + q) = nI (C.getD q 0)) (hC : C.length ≤ 900) (h1 : s 26 r ≤ s 27 r) (h2 : s 27 r ≤ C.length) (h3 : tyC (sgm C (s 26 r) (s 27 r)) [] = some [true]) (hd : d < 200) : ∃ w h', Run 2 j_M_holds [.ref 65, .int (nI rr), .int (nI d)] h w h' ∧ (w = some (.int (bI (hdB s C r d))) ∧ HX h h') := by
  refine Run.ofP rfl ?_
  refine Wp.norm (L' := [_, _, _, _, _, _]) rfl ?_
  generalize hQQ : (fun (w : Option Value) (h' : HP) => w = some (.int (bI (hdB s C r d))) ∧ HX h h') = QQ
  have F1 : HX h (wI h 65 54 0) := (HX.rfl h).w
  have ih := m_holds (e := s 27 r) (rr := rr) (off := off) (Q := QQ) (h0 := h) hd (by omega) (by omega) (by omega) (sgm C (s 26 r) (s 27 r)) (s 26 r) [] [] (wI h 65 54 0) .null (fun q hq => by
    rw [sgm_len h2] at hq
    rw [sgm_get hq, wI_ne _ _ _ (by decide)]
    exact hc _ (by omega)) (by rw [sgm_len h2]; omega) e102 rfl h3 trivial trivial (Nat.zero_le _) F1 (fun g' O' => by rw [← hQQ]; exact ⟨rfl, O'⟩)
  have e1 : (wI h 65 54 0).1 101 rr = nI (s 26 r) := e101
  show Wp 2 j_M_holds 0 [.ref 65, .int (nI rr), .int (nI d), .null, .null, .null] [] h QQ
  rcases hoff with ⟨c1, rfl⟩ | ⟨c1, c2, rfl⟩
  · repeat (first | refine Wp.at ih rfl rfl ?_ rfl | (refine W1 rfl ?_; try refine Wp.norm (L' := [_, _, _, _, _, _]) rfl ?_) | ((first | change (_ → _) ∧ (_ → _) | change vp_in _ _ ∧ _ | change ¬ _ ∧ _); simp (disch := omega) only [nI_clamp, nI_leI, nI_ltI, nI_eq, nI_1, nI_add, nI_not_neg, nI_is_pos, nI_m1, nI_z, e1, show (60 : Int32) = nI 60 from rfl]) | refine brT (by first | assumption | decide | omega) ?_ | refine brF (by first | assumption | decide | omega) ?_ | refine brTn (by first | assumption | decide | omega) ?_ | refine brFn (by first | assumption | decide | omega) ?_ | refine And.intro (vp_in_nI (by omega) (by decide)) ?_ | refine And.intro (vp_lit (by decide)) ?_ | refine divJ (by decide) ?_ | refine divI (by decide) ?_)
    try change _ ∧ _
    first | done | rfl | (simp (disch := omega) only [nI_1, nI_add, nI_clamp, e1] <;> first | done | rfl)
  · repeat (first | refine Wp.at ih rfl rfl ?_ rfl | (refine W1 rfl ?_; try refine Wp.norm (L' := [_, _, _, _, _, _]) rfl ?_) | ((first | change (_ → _) ∧ (_ → _) | change vp_in _ _ ∧ _ | change ¬ _ ∧ _); simp (disch := omega) only [nI_clamp, nI_leI, nI_ltI, nI_eq, nI_1, nI_add, nI_not_neg, nI_is_pos, nI_m1, nI_z, e1, show (60 : Int32) = nI 60 from rfl]) | refine brT (by first | assumption | decide | omega) ?_ | refine brF (by first | assumption | decide | omega) ?_ | refine brTn (by first | assumption | decide | omega) ?_ | refine brFn (by first | assumption | decide | omega) ?_ | refine And.intro (vp_in_nI (by omega) (by decide)) ?_ | refine And.intro (vp_lit (by decide)) ?_ | refine divJ (by decide) ?_ | refine divI (by decide) ?_)
    try change _ ∧ _
    first | done | rfl | (simp (disch := omega) only [nI_1, nI_add, nI_clamp, e1] <;> first | done | rfl)
def rC (s : ST) (C : List Nat) (d m : Nat) : Nat := sm (fun r => if oS s r = 1 ∧ hdB s C r d = true then 1 else 0) m
theorem rC_le (s : ST) (C : List Nat) (d : Nat) : ∀ m, rC s C d m ≤ m
  | 0 => Nat.le_refl 0
  | m + 1 => by
    have := rC_le s C d m
    show rC s C d m + (if _ then 1 else 0) ≤ m + 1
    split <;> omega
theorem rT_le (s : ST) (C : List Nat) (m : Nat) : ∀ X, sm (fun d => rC s C d m) X ≤ X * m
  | 0 => by rw [Nat.zero_mul]; exact Nat.le_refl 0
  | X + 1 => by
    have := rT_le s C m X
    have := rC_le s C X m
    show sm (fun d => rC s C d m) X + rC s C X m ≤ (X + 1) * m
    rw [Nat.succ_mul]
    omega
theorem m_turnsOf (D : DM s h) (c : CM C h) (j : J s C) : ∃ w h', Run 3 j_M_turnsOf [.ref 65] h w h' ∧ (w = some (.int (nI (sm (fun d => rC s C d (zO s)) (zD s)))) ∧ HX h h') := by
  refine Run.ofP rfl ?_
  refine Wp.norm (L' := [_, _, _, _]) rfl ?_
  generalize hQQ : (fun (w : Option Value) (h' : HP) => w = some (.int (nI (sm (fun d => rC s C d (zO s)) (zD s)))) ∧ HX h h') = QQ
  have hO := j.1.1.1.1.2.2.2.1
  have hD := j.1.1.1.1.2.2.2.2.2.2
  have lp : ∀ m, m ≤ zD s → ∀ g y, HX h g → Wp 3 j_M_turnsOf 4 [.ref 65, .int (nI (sm (fun d => rC s C d (zO s)) m)), .int (nI m), y] [] g QQ := by
    refine up_ind ?_ (fun m hm ih => ?_)
    · intro g y F
      have eD := (D.hx F).1.1
      show Wp 3 j_M_turnsOf _ _ _ _ _
      repeat (first | (refine W1 rfl ?_; try refine Wp.norm (L' := [_, _, _, _]) rfl ?_) | ((first | change (_ → _) ∧ (_ → _) | change vp_in _ _ ∧ _ | change ¬ _ ∧ _); simp (disch := omega) only [nI_clamp, nI_leI, nI_ltI, nI_eq, nI_1, nI_add, nI_not_neg, nI_is_pos, nI_m1, nI_z, eD, i32_c0]) | refine brT (by first | assumption | decide | omega) ?_ | refine brF (by first | assumption | decide | omega) ?_ | refine brTn (by first | assumption | decide | omega) ?_ | refine brFn (by first | assumption | decide | omega) ?_ | refine And.intro (vp_in_nI (by omega) (by decide)) ?_ | refine And.intro (vp_lit (by decide)) ?_ | refine divJ (by decide) ?_ | refine divI (by decide) ?_)
      try change _ ∧ _
      rw [← hQQ]
      exact ⟨rfl, F⟩
    · intro g y F
      have ihn := ih
      clear ih
      have hsm : sm (fun d => rC s C d (zO s)) (m + 1) = sm (fun d => rC s C d (zO s)) m + rC s C m (zO s) := rfl
      have b1 := rT_le s C (zO s) m
      have b1' : m * zO s ≤ 200 * 60 := Nat.mul_le_mul (by omega) hO
      generalize sm (fun d => rC s C d (zO s)) m = acc at *
      have inner : ∀ q, q ≤ zO s → ∀ g, HX h g → Wp 3 j_M_turnsOf 16 [.ref 65, .int (nI (acc + rC s C m q)), .int (nI m), .int (nI q)] [] g QQ := by
        refine up_ind ?_ (fun q hq ih => ?_)
        · intro g F
          have eO := (D.hx F).1.2.2.2
          have ih := ihn g (.int (nI (zO s))) F
          rw [hsm] at ih
          have b2 := rC_le s C m (zO s)
          show Wp 3 j_M_turnsOf _ _ _ _ _
          repeat (first | refine Wp.at ih rfl rfl ?_ rfl | (refine W1 rfl ?_; try refine Wp.norm (L' := [_, _, _, _]) rfl ?_) | ((first | change (_ → _) ∧ (_ → _) | change vp_in _ _ ∧ _ | change ¬ _ ∧ _); simp (disch := omega) only [nI_clamp, nI_leI, nI_ltI, nI_eq, nI_1, nI_add, nI_not_neg, nI_is_pos, nI_m1, nI_z, eO, i32_c0]) | refine brT (by first | assumption | decide | omega) ?_ | refine brF (by first | assumption | decide | omega) ?_ | refine brTn (by first | assumption | decide | omega) ?_ | refine brFn (by first | assumption | decide | omega) ?_ | refine And.intro (vp_in_nI (by omega) (by decide)) ?_ | refine And.intro (vp_lit (by decide)) ?_ | refine divJ (by decide) ?_ | refine divI (by decide) ?_)
          try change _ ∧ _
          first | done | rfl | (simp (disch := omega) only [nI_1, nI_add, nI_clamp] <;> first | done | rfl)
        · intro g F
          have Dg := D.hx F
          have cg := c.hx F
          have eO := Dg.1.2.2.2
          have b2 := rC_le s C m q
          have e97 := (Dg.2.2.2 q hq).1
          have hst : rC s C m (q + 1) = rC s C m q + (if oS s q = 1 ∧ hdB s C q m = true then 1 else 0) := rfl
          have o6 := (j.2.1.2.2.2.2 q hq).1
          by_cases c1 : oS s q = 1
          · obtain ⟨k1, k2⟩ := (Dg.2.2.2 q hq).2.2.2.2 (Or.inl c1)
            obtain ⟨b1, b2', b3, b4, b5, b6⟩ := j.2.2.2.1 q hq (Or.inl c1)
            obtain ⟨w2, g2, r2, rfl, F2⟩ := m_hold (h := g) (rr := q) (off := 0) (C := C) (Or.inl ⟨by omega, rfl⟩) k1 k2 (fun z hz => by rw [Nat.zero_add]; exact cg.2.2 z hz) cg.1 b2' b3 b4 (show m < 200 by omega)
            rw [c1] at e97
            have e97 : g.1 97 q = 1 := e97
            cases hB : hdB s C q m with
            | false =>
              rw [hB, bI_f] at r2
              have ih := ih g2 (F.trans F2)
              rw [hst, if_neg (fun z => by rw [hB] at z; exact absurd z.2 (by decide)), Nat.add_zero] at ih
              show Wp 3 j_M_turnsOf _ _ _ _ _
              (refine W1 rfl ?_; try refine Wp.norm (L' := [_, _, _, _]) rfl ?_)
              repeat (first | (refine W1 rfl ?_; try refine Wp.norm (L' := [_, _, _, _]) rfl ?_) | ((first | change (_ → _) ∧ (_ → _) | change vp_in _ _ ∧ _ | change ¬ _ ∧ _); simp (disch := omega) only [nI_clamp, nI_leI, nI_ltI, nI_eq, nI_1, nI_add, nI_not_neg, nI_is_pos, nI_m1, nI_z, eO, e97, i32_c0]) | refine brT (by first | assumption | decide | omega) ?_ | refine brF (by first | assumption | decide | omega) ?_ | refine brTn (by first | assumption | decide | omega) ?_ | refine brFn (by first | assumption | decide | omega) ?_ | refine And.intro (vp_in_nI (by omega) (by decide)) ?_ | refine And.intro (vp_lit (by decide)) ?_ | refine divJ (by decide) ?_ | refine divI (by decide) ?_)
              try change _ ∧ _
              refine Cl.of r2 (by decide) ?_
              repeat (first | refine Wp.at ih rfl rfl ?_ rfl | (refine W1 rfl ?_; try refine Wp.norm (L' := [_, _, _, _]) rfl ?_) | ((first | change (_ → _) ∧ (_ → _) | change vp_in _ _ ∧ _ | change ¬ _ ∧ _); simp (disch := omega) only [nI_clamp, nI_leI, nI_ltI, nI_eq, nI_1, nI_add, nI_not_neg, nI_is_pos, nI_m1, nI_z]) | refine brT (by first | assumption | decide | omega) ?_ | refine brF (by first | assumption | decide | omega) ?_ | refine brTn (by first | assumption | decide | omega) ?_ | refine brFn (by first | assumption | decide | omega) ?_ | refine And.intro (vp_in_nI (by omega) (by decide)) ?_ | refine And.intro (vp_lit (by decide)) ?_ | refine divJ (by decide) ?_ | refine divI (by decide) ?_)
              try change _ ∧ _
              first | done | rfl | (simp (disch := omega) only [nI_1, nI_add, nI_clamp] <;> first | done | rfl)
            | true =>
              rw [hB, bI_t] at r2
              have ih := ih g2 (F.trans F2)
              rw [hst, if_pos ⟨c1, hB⟩] at ih
              show Wp 3 j_M_turnsOf _ _ _ _ _
              (refine W1 rfl ?_; try refine Wp.norm (L' := [_, _, _, _]) rfl ?_)
              repeat (first | (refine W1 rfl ?_; try refine Wp.norm (L' := [_, _, _, _]) rfl ?_) | ((first | change (_ → _) ∧ (_ → _) | change vp_in _ _ ∧ _ | change ¬ _ ∧ _); simp (disch := omega) only [nI_clamp, nI_leI, nI_ltI, nI_eq, nI_1, nI_add, nI_not_neg, nI_is_pos, nI_m1, nI_z, eO, e97, i32_c0]) | refine brT (by first | assumption | decide | omega) ?_ | refine brF (by first | assumption | decide | omega) ?_ | refine brTn (by first | assumption | decide | omega) ?_ | refine brFn (by first | assumption | decide | omega) ?_ | refine And.intro (vp_in_nI (by omega) (by decide)) ?_ | refine And.intro (vp_lit (by decide)) ?_ | refine divJ (by decide) ?_ | refine divI (by decide) ?_)
              try change _ ∧ _
              refine Cl.of r2 (by decide) ?_
              repeat (first | refine Wp.at ih rfl rfl ?_ rfl | (refine W1 rfl ?_; try refine Wp.norm (L' := [_, _, _, _]) rfl ?_) | ((first | change (_ → _) ∧ (_ → _) | change vp_in _ _ ∧ _ | change ¬ _ ∧ _); simp (disch := omega) only [nI_clamp, nI_leI, nI_ltI, nI_eq, nI_1, nI_add, nI_not_neg, nI_is_pos, nI_m1, nI_z]) | refine brT (by first | assumption | decide | omega) ?_ | refine brF (by first | assumption | decide | omega) ?_ | refine brTn (by first | assumption | decide | omega) ?_ | refine brFn (by first | assumption | decide | omega) ?_ | refine And.intro (vp_in_nI (by omega) (by decide)) ?_ | refine And.intro (vp_lit (by decide)) ?_ | refine divJ (by decide) ?_ | refine divI (by decide) ?_)
              try change _ ∧ _
              first | done | rfl | (simp (disch := omega) only [nI_1, nI_add, nI_clamp] <;> first | done | rfl)
          · have ih := ih g F
            rw [hst, if_neg (fun z => c1 z.1), Nat.add_zero] at ih
            have e98 : ¬ nI (oS s q) = 1 := fun z => c1 ((nI_one (by omega)).mp z)
            show Wp 3 j_M_turnsOf _ _ _ _ _
            (refine W1 rfl ?_; try refine Wp.norm (L' := [_, _, _, _]) rfl ?_)
            repeat (first | refine Wp.at ih rfl rfl ?_ rfl | (refine W1 rfl ?_; try refine Wp.norm (L' := [_, _, _, _]) rfl ?_) | ((first | change (_ → _) ∧ (_ → _) | change vp_in _ _ ∧ _ | change ¬ _ ∧ _); simp (disch := omega) only [nI_clamp, nI_leI, nI_ltI, nI_eq, nI_1, nI_add, nI_not_neg, nI_is_pos, nI_m1, nI_z, eO, e97, i32_c0]) | refine brT (by first | assumption | decide | omega) ?_ | refine brF (by first | assumption | decide | omega) ?_ | refine brTn (by first | assumption | decide | omega) ?_ | refine brFn (by first | assumption | decide | omega) ?_ | refine And.intro (vp_in_nI (by omega) (by decide)) ?_ | refine And.intro (vp_lit (by decide)) ?_ | refine divJ (by decide) ?_ | refine divI (by decide) ?_)
            try change _ ∧ _
            first | done | rfl | (simp (disch := omega) only [nI_1, nI_add, nI_clamp] <;> first | done | rfl)
      have eD := (D.hx F).1.1
      have ih := inner 0 (Nat.zero_le _) g F
      rw [show rC s C m 0 = 0 from rfl, Nat.add_zero] at ih
      show Wp 3 j_M_turnsOf _ _ _ _ _
      (refine W1 rfl ?_; try refine Wp.norm (L' := [_, _, _, _]) rfl ?_)
      repeat (first | refine Wp.at ih rfl rfl ?_ rfl | (refine W1 rfl ?_; try refine Wp.norm (L' := [_, _, _, _]) rfl ?_) | ((first | change (_ → _) ∧ (_ → _) | change vp_in _ _ ∧ _ | change ¬ _ ∧ _); simp (disch := omega) only [nI_clamp, nI_leI, nI_ltI, nI_eq, nI_1, nI_add, nI_not_neg, nI_is_pos, nI_m1, nI_z, eD, i32_c0]) | refine brT (by first | assumption | decide | omega) ?_ | refine brF (by first | assumption | decide | omega) ?_ | refine brTn (by first | assumption | decide | omega) ?_ | refine brFn (by first | assumption | decide | omega) ?_ | refine And.intro (vp_in_nI (by omega) (by decide)) ?_ | refine And.intro (vp_lit (by decide)) ?_ | refine divJ (by decide) ?_ | refine divI (by decide) ?_)
      try change _ ∧ _
      first | done | rfl | (simp (disch := omega) only [nI_1, nI_add, nI_clamp] <;> first | done | rfl)
  have ih := lp 0 (Nat.zero_le _) h .null (HX.rfl h)
  show Wp 3 j_M_turnsOf _ _ _ _ _
  repeat (first | refine Wp.at ih rfl rfl ?_ rfl | (refine W1 rfl ?_; try refine Wp.norm (L' := [_, _, _, _]) rfl ?_) | ((first | change (_ → _) ∧ (_ → _) | change vp_in _ _ ∧ _ | change ¬ _ ∧ _); simp (disch := omega) only [nI_clamp, nI_leI, nI_ltI, nI_eq, nI_1, nI_add, nI_not_neg, nI_is_pos, nI_m1, nI_z]) | refine brT (by first | assumption | decide | omega) ?_ | refine brF (by first | assumption | decide | omega) ?_ | refine brTn (by first | assumption | decide | omega) ?_ | refine brFn (by first | assumption | decide | omega) ?_ | refine And.intro (vp_in_nI (by omega) (by decide)) ?_ | refine And.intro (vp_lit (by decide)) ?_ | refine divJ (by decide) ?_ | refine divI (by decide) ?_)
  try change _ ∧ _
  first | done | rfl | (simp (disch := omega) only [nI_1, nI_add, nI_clamp] <;> first | done | rfl)
/-! both count the same -/
theorem sm_add (f g : Nat → Nat) : ∀ n, sm (fun i => f i + g i) n = sm f n + sm g n
  | 0 => rfl
  | n + 1 => by
    show sm (fun i => f i + g i) n + (f n + g n) = sm f n + f n + (sm g n + g n)
    rw [sm_add f g n]
    omega
theorem sm_zero : ∀ n, sm (fun _ => 0) n = 0
  | 0 => rfl
  | n + 1 => sm_zero n
theorem sm_comm (f : Nat → Nat → Nat) (m : Nat) : ∀ n, sm (fun r => sm (fun d => f r d) m) n = sm (fun d => sm (fun r => f r d) n) m
  | 0 => (sm_zero m).symm
  | n + 1 => by
    show sm (fun r => sm (fun d => f r d) m) n + sm (fun d => f n d) m = sm (fun d => sm (fun r => f r d) n + f n d) m
    rw [sm_comm f m n, ← sm_add]
theorem s28_99 (j : J s C) {x : Nat} (hx : x < s 0 7) : s 28 x = 99 ↔ oS s (s 31 x) = 1 := by
  obtain ⟨k1, k2, k3, _⟩ := j.2.2.1 x hx
  rw [k3]
  by_cases c : oS s (s 31 x) = 1
  · rw [if_pos c]; exact ⟨fun _ => c, fun _ => rfl⟩
  · rw [if_neg c]
    have := (j.2.1.2.2.2.2 _ k1).2.1
    exact ⟨fun z => by omega, fun z => absurd z c⟩
theorem cnt_turns (j : J s C) : sm (fun x => tC s C x (zD s)) (s 0 7) = sm (fun d => rC s C d (zO s)) (zD s) := by
  rw [sm_congr (g := fun x => (fun r => sm (fun d => if oS s r = 1 ∧ hdB s C r d = true then 1 else 0) (zD s)) (s 31 x)) (fun x hx => by
    unfold tC
    simp only [s28_99 j hx])]
  rw [j.2.2.2.2.1 (fun r => sm (fun d => if oS s r = 1 ∧ hdB s C r d = true then 1 else 0) (zD s))]
  unfold rC
  rw [← sm_comm (fun r d => if oS s r = 1 ∧ hdB s C r d = true then 1 else 0)]
  refine sm_congr (fun r hr => ?_)
  by_cases c : oS s r = 1 ∨ oS s r = 2
  · rw [if_pos c]
  · rw [if_neg c]
    have : ¬ oS s r = 1 := fun z => c (Or.inl z)
    simp only [this, false_and, if_false]
    exact (sm_zero _).symm
end MTA
