/-! ===== THE CLASS LAYS THE TURNS: a day's of a kind ===== -/
def cX (s : ST) (C : List Nat) (d k m : Nat) : Nat := sm (fun x => if s 29 x = k ∧ hdB s C (s 31 x) d = true ∧ s 28 x = 99 then 1 else 0) m
def nX (s : ST) (C : List Nat) (d k q m : Nat) : Nat := sm (fun x => if s 29 x = k ∧ hdB s C (s 31 x) d = true ∧ s 28 x = q then 1 else 0) m
def TLc (s : ST) (C : List Nat) (L : List (Nat × Nat)) (h : HP) : Prop := h.1 36 1 = nI L.length ∧ ∀ t, t < L.length → h.1 37 t = nI (gL L t).1 ∧ h.1 38 t = nI (gL L t).2 ∧ h.1 39 t = nI (mkN s C (gL L t).1 (gL L t).2) ∧ h.1 40 t = nI (uN s C (gL L t).1 (gL L t).2)
section CAD
variable {s : ST} {C : List Nat} {h h' : HP} {L : List (Nat × Nat)}
theorem cX_le (d k : Nat) : ∀ m, cX s C d k m ≤ m
  | 0 => Nat.le_refl 0
  | m + 1 => by
    have := cX_le d k m
    show cX s C d k m + (if _ then 1 else 0) ≤ m + 1
    split <;> omega
theorem cX_eq (j : J s C) (d k : Nat) : cX s C d k (s 0 7) = cNt s C d k := by
  unfold cX cNt
  rw [sm_congr (g := fun x => (fun r => if oS s r = 1 ∧ oA s r = k ∧ hdB s C r d = true then 1 else 0) (s 31 x)) (fun x hx => by
    obtain ⟨k1, k2, k3, k4, _⟩ := j.2.2.1 x hx
    have e := s28_99 j hx
    by_cases c : oS s (s 31 x) = 1
    · rw [if_pos c] at k4
      simp only [k4, e, c, true_and, and_true]
    · simp only [e, c, and_false, false_and, if_false])]
  rw [j.2.2.2.2.1 (fun r => if oS s r = 1 ∧ oA s r = k ∧ hdB s C r d = true then 1 else 0)]
  refine sm_congr (fun r hr => ?_)
  by_cases c : oS s r = 1 ∨ oS s r = 2
  · rw [if_pos c]
  · rw [if_neg c, if_neg (fun z => c (Or.inl z.1))]
theorem nX_eq (j : J s C) (d k : Nat) {q : Nat} (hq : q < 16) : nX s C d k q (s 0 7) = nevN s C d k q := by
  unfold nX nevN
  rw [sm_congr (g := fun x => (fun r => if oS s r = 2 ∧ oA s r = q ∧ oB s r = k ∧ hdB s C r d = true then 1 else 0) (s 31 x)) (fun x hx => by
    obtain ⟨k1, k2, k3, k4, _⟩ := j.2.2.1 x hx
    by_cases c : oS s (s 31 x) = 1
    · rw [if_pos c] at k3
      rw [if_neg (fun z => by have := z.2.2; omega)]
      show 0 = (if oS s (s 31 x) = 2 ∧ oA s (s 31 x) = q ∧ oB s (s 31 x) = k ∧ hdB s C (s 31 x) d = true then 1 else 0)
      rw [if_neg (fun z => by have := z.1; omega)]
    · have c2 : oS s (s 31 x) = 2 := k2.resolve_left c
      rw [if_neg c] at k3 k4
      simp only [k3, k4, c2, true_and]
      by_cases z : oB s (s 31 x) = k ∧ hdB s C (s 31 x) d = true ∧ oA s (s 31 x) = q
      · rw [if_pos z, if_pos ⟨z.2.2, z.1, z.2.1⟩]
      · rw [if_neg z, if_neg (fun y => z ⟨y.2.1, y.2.2, y.1⟩)])]
  rw [j.2.2.2.2.1 (fun r => if oS s r = 2 ∧ oA s r = q ∧ oB s r = k ∧ hdB s C r d = true then 1 else 0)]
  refine sm_congr (fun r hr => ?_)
  by_cases c : oS s r = 1 ∨ oS s r = 2
  · rw [if_pos c]
  · rw [if_neg c, if_neg (fun z => c (Or.inr z.1))]
theorem mk_lt (j : J s C) (d k : Nat) : mkN s C d k < 65536 := by
  have h1 := smp_lt (mB s C d k) (zP s)
  have hP := j.1.1.1.1.1
  have h2 : 2 ^ zP s ≤ 2 ^ 16 := Nat.pow_le_pow_right (by decide) hP
  unfold mkN
  omega
theorem mk_of (j : J s C) {d k : Nat} {m : Int32} (hm : ∀ q, q < 32 → bt m q = (decide (q < zP s) && presB s d q && decide (nX s C d k q (s 0 7) = 0))) : m = nI (mkN s C d k) := by
  have hl := mk_lt j d k
  have hP := j.1.1.1.1.1
  refine bt_ext (fun q hq => ?_)
  rw [hm q hq, bt_nI (by omega)]
  unfold mkN
  rw [smp_bit]
  unfold mB
  by_cases c : q < zP s
  · rw [nX_eq j d k (show q < 16 by omega), Bool.and_assoc]
  · simp [c]
theorem TLc.o (T : TLc s C L h) (O : ∀ k i, k ∈ [36, 37, 38, 39, 40] → h'.1 k i = h.1 k i) : TLc s C L h' := by
  refine ⟨?_, fun t ht => ?_⟩
  · rw [O 36 _ (by decide)]; exact T.1
  · rw [O 37 _ (by decide), O 38 _ (by decide), O 39 _ (by decide), O 40 _ (by decide)]; exact T.2 t ht
def adU (h : HP) (n : Nat) (d k m u : Int32) : HP := wI (wI (wI (wI (wI h 37 n d) 38 n k) 39 n m) 40 n u) 36 1 (nI (n + 1))
theorem TLc.add {d k : Nat} (T : TLc s C L h) : TLc s C (L ++ [(d, k)]) (adU h L.length (nI d) (nI k) (nI (mkN s C d k)) (nI (uN s C d k))) := by
  have hl : (L ++ [(d, k)]).length = L.length + 1 := by rw [List.length_append]; rfl
  refine ⟨by rw [hl]; rfl, fun t ht => ?_⟩
  rw [hl] at ht
  unfold adU
  by_cases e : t = L.length
  · subst e
    rw [gL_r (Nat.le_refl _), Nat.sub_self, show gL [(d, k)] 0 = (d, k) from rfl]
    simp [wI, va_up, upd]
  · rw [gL_l (by omega)]
    have := T.2 t (by omega)
    simp [wI, va_up, upd, e]
    exact this
theorem adU_o {n : Nat} {d k m u : Int32} {h0 : HP} (O : onlyJ clL [] h0 h) : onlyJ clL [] h0 (adU h n d k m u) := ((((O.addI (by decide)).addI (by decide)).addI (by decide)).addI (by decide)).addI (by decide)
theorem c_addTurns {d k : Nat} (H : HC s C h) (j : J s C) (T : TLc s C L h) (hd : d < zD s) (hk : k < zK s) (hL : L.length + cNt s C d k ≤ 200) : ∃ w h', Run 1 j_Calendar_addTurns [.ref 36, .ref 28, .int (nI d), .int (nI k)] h w h' ∧ (w = none ∧ onlyJ clL [] h h' ∧ (∀ k i, 41 ≤ k → h'.1 k i = h.1 k i) ∧ TLc s C (L ++ List.replicate (cNt s C d k) (d, k)) h') := by
  refine Run.ofP rfl ?_
  refine Wp.norm (L' := [_, _, _, _, _, _, _, _]) rfl ?_
  generalize hQQ : (fun (w : Option Value) (h' : HP) => w = none ∧ onlyJ clL [] h h' ∧ (∀ k i, 41 ≤ k → h'.1 k i = h.1 k i) ∧ TLc s C (L ++ List.replicate (cNt s C d k) (d, k)) h') = QQ
  have hX := j.1.1.1.1.2.2.2.2.1
  have hO := j.1.1.1.1.2.2.2.1
  have hD := j.1.1.1.1.2.2.2.2.2.2
  have hK := j.1.1.1.1.2.1
  have eX := H.1.2.2.2
  obtain ⟨w0, g0, r0, e0, m0, rfl, hm0⟩ := c_present H j (show d < 200 by omega)
  rw [e0] at r0
  have ru := c_unit H j (mk_lt j d k)
  have lay : ∀ i, i ≤ cNt s C d k → ∀ g, onlyJ clL [] h g → (∀ k i, 41 ≤ k → g.1 k i = h.1 k i) → TLc s C (L ++ List.replicate i (d, k)) g → Wp 1 j_Calendar_addTurns 93 [.ref 36, .ref 28, .int (nI d), .int (nI k), .int (nI (mkN s C d k)), .int (nI (cNt s C d k)), .int (nI (uN s C d k)), .int (nI i)] [] g QQ := by
    refine up_ind ?_ (fun i hi ih => ?_)
    · intro g O E T
      show Wp 1 j_Calendar_addTurns _ _ _ _ _
      repeat (first | (refine W1 rfl ?_; try refine Wp.norm (L' := [_, _, _, _, _, _, _, _]) rfl ?_) | ((first | change (_ → _) ∧ (_ → _) | change vp_in _ _ ∧ _ | change ¬ _ ∧ _); simp (disch := omega) only [nI_clamp, nI_leI, nI_ltI, nI_eq, nI_1, nI_add, nI_not_neg, nI_is_pos, nI_m1, nI_z]) | refine brT (by first | assumption | decide | omega) ?_ | refine brF (by first | assumption | decide | omega) ?_ | refine brTn (by first | assumption | decide | omega) ?_ | refine brFn (by first | assumption | decide | omega) ?_ | refine And.intro (vp_in_nI (by omega) (by decide)) ?_ | refine And.intro (vp_lit (by decide)) ?_ | refine divJ (by decide) ?_ | refine divI (by decide) ?_)
      try change _ ∧ _
      rw [← hQQ]
      exact ⟨rfl, O, E, T⟩
    · intro g O E T
      have hlen : (L ++ List.replicate i (d, k)).length = L.length + i := by rw [List.length_append, List.length_replicate]
      have eT := T.1
      rw [hlen] at eT
      have T2 := T.add (d := d) (k := k)
      rw [List.append_assoc, ← List.replicate_succ', hlen] at T2
      have ih := ih _ (adU_o O) (fun k i hk => by
        unfold adU
        rw [wI_ne _ _ _ (by omega), wI_ne _ _ _ (by omega), wI_ne _ _ _ (by omega), wI_ne _ _ _ (by omega), wI_ne _ _ _ (by omega)]
        exact E k i hk) T2
      unfold adU at ih
      show Wp 1 j_Calendar_addTurns _ _ _ _ _
      (refine W1 rfl ?_; try refine Wp.norm (L' := [_, _, _, _, _, _, _, _]) rfl ?_)
      repeat (first | refine Wp.at ih rfl rfl ?_ ?_ | (refine W1 rfl ?_; try refine Wp.norm (L' := [_, _, _, _, _, _, _, _]) rfl ?_) | ((first | change (_ → _) ∧ (_ → _) | change vp_in _ _ ∧ _ | change ¬ _ ∧ _); simp (disch := omega) only [nI_clamp, nI_leI, nI_ltI, nI_eq, nI_1, nI_add, nI_not_neg, nI_is_pos, nI_m1, nI_z, eT, wI_ne, show (200 : Int32) = nI 200 from rfl]) | refine brT (by first | assumption | decide | omega) ?_ | refine brF (by first | assumption | decide | omega) ?_ | refine brTn (by first | assumption | decide | omega) ?_ | refine brFn (by first | assumption | decide | omega) ?_ | refine And.intro (vp_in_nI (by omega) (by decide)) ?_ | refine And.intro (vp_lit (by decide)) ?_ | refine divJ (by decide) ?_ | refine divI (by decide) ?_)
      try change _ ∧ _
      · first | done | rfl | (simp (disch := omega) only [nI_1, nI_add, nI_clamp] <;> first | done | rfl)
      · first | done | rfl | (simp (disch := omega) only [nI_1, nI_add, nI_clamp, eT, wI_ne] <;> first | done | rfl)
  have lp : ∀ n, n ≤ s 0 7 → ∀ (m : Int32) y, (∀ q, q < 32 → bt m q = (decide (q < zP s) && presB s d q && decide (nX s C d k q n = 0))) → Wp 1 j_Calendar_addTurns 13 [.ref 36, .ref 28, .int (nI d), .int (nI k), .int m, .int (nI (cX s C d k n)), .int (nI n), y] [] h QQ := by
    refine up_ind ?_ (fun n hn ih => ?_)
    · intro m y hm
      have em := mk_of j hm
      subst em
      have ih := lay 0 (Nat.zero_le _) h (onlyJ.rfl _ _ _) (fun _ _ _ => rfl) (by rw [List.replicate_zero, List.append_nil]; exact T)
      rw [cX_eq j]
      show Wp 1 j_Calendar_addTurns _ _ _ _ _
      repeat (first | (refine W1 rfl ?_; try refine Wp.norm (L' := [_, _, _, _, _, _, _, _]) rfl ?_) | ((first | change (_ → _) ∧ (_ → _) | change vp_in _ _ ∧ _ | change ¬ _ ∧ _); simp (disch := omega) only [nI_clamp, nI_leI, nI_ltI, nI_eq, nI_1, nI_add, nI_not_neg, nI_is_pos, nI_m1, nI_z, eX]) | refine brT (by first | assumption | decide | omega) ?_ | refine brF (by first | assumption | decide | omega) ?_ | refine brTn (by first | assumption | decide | omega) ?_ | refine brFn (by first | assumption | decide | omega) ?_ | refine And.intro (vp_in_nI (by omega) (by decide)) ?_ | refine And.intro (vp_lit (by decide)) ?_ | refine divJ (by decide) ?_ | refine divI (by decide) ?_)
      try change _ ∧ _
      refine Cl.of ru (by decide) ?_
      show Wp 1 j_Calendar_addTurns _ _ _ _ _
      repeat (first | refine Wp.at ih rfl rfl ?_ rfl | (refine W1 rfl ?_; try refine Wp.norm (L' := [_, _, _, _, _, _, _, _]) rfl ?_) | ((first | change (_ → _) ∧ (_ → _) | change vp_in _ _ ∧ _ | change ¬ _ ∧ _); simp (disch := omega) only [nI_clamp, nI_leI, nI_ltI, nI_eq, nI_1, nI_add, nI_not_neg, nI_is_pos, nI_m1, nI_z]) | refine brT (by first | assumption | decide | omega) ?_ | refine brF (by first | assumption | decide | omega) ?_ | refine brTn (by first | assumption | decide | omega) ?_ | refine brFn (by first | assumption | decide | omega) ?_ | refine And.intro (vp_in_nI (by omega) (by decide)) ?_ | refine And.intro (vp_lit (by decide)) ?_ | refine divJ (by decide) ?_ | refine divI (by decide) ?_)
      try change _ ∧ _
      first | done | rfl | (simp (disch := omega) only [nI_1, nI_add, nI_clamp] <;> first | done | rfl)
    · intro m y hm
      obtain ⟨e30, e31⟩ := H.2.2.1 n hn
      obtain ⟨k1, k2, k3, k4, _⟩ := j.2.2.1 n hn
      have ko := j.2.1.2.2.2.2 _ k1
      have b29 : s 29 n < 16 := by rw [k4]; split <;> omega
      have hc1 := cX_le (s := s) (C := C) d k n
      have hst : cX s C d k (n + 1) = cX s C d k n + (if s 29 n = k ∧ hdB s C (s 31 n) d = true ∧ s 28 n = 99 then 1 else 0) := rfl
      have hsn : ∀ q, nX s C d k q (n + 1) = nX s C d k q n + (if s 29 n = k ∧ hdB s C (s 31 n) d = true ∧ s 28 n = q then 1 else 0) := fun q => rfl
      by_cases c1 : s 29 n = k
      · have rh := c_holds H hn (by omega) hd hD
        cases hB : hdB s C (s 31 n) d with
        | false =>
          rw [hB, bI_f] at rh
          have ih := ih m y (fun q hq => by rw [hm q hq, hsn, if_neg (fun z => by rw [hB] at z; exact absurd z.2.1 (by decide)), Nat.add_zero])
          rw [hst, if_neg (fun z => by rw [hB] at z; exact absurd z.2.1 (by decide)), Nat.add_zero] at ih
          rw [c1] at e31
          show Wp 1 j_Calendar_addTurns _ _ _ _ _
          (refine W1 rfl ?_; try refine Wp.norm (L' := [_, _, _, _, _, _, _, _]) rfl ?_)
          repeat (first | (refine W1 rfl ?_; try refine Wp.norm (L' := [_, _, _, _, _, _, _, _]) rfl ?_) | ((first | change (_ → _) ∧ (_ → _) | change vp_in _ _ ∧ _ | change ¬ _ ∧ _); simp (disch := omega) only [nI_clamp, nI_leI, nI_ltI, nI_eq, nI_1, nI_add, nI_not_neg, nI_is_pos, nI_m1, nI_z, eX, e31]) | refine brT (by first | assumption | decide | omega) ?_ | refine brF (by first | assumption | decide | omega) ?_ | refine brTn (by first | assumption | decide | omega) ?_ | refine brFn (by first | assumption | decide | omega) ?_ | refine And.intro (vp_in_nI (by omega) (by decide)) ?_ | refine And.intro (vp_lit (by decide)) ?_ | refine divJ (by decide) ?_ | refine divI (by decide) ?_)
          try change _ ∧ _
          refine Cl.of rh (by decide) ?_
          show Wp 1 j_Calendar_addTurns _ _ _ _ _
          repeat (first | refine Wp.at ih rfl rfl ?_ rfl | (refine W1 rfl ?_; try refine Wp.norm (L' := [_, _, _, _, _, _, _, _]) rfl ?_) | ((first | change (_ → _) ∧ (_ → _) | change vp_in _ _ ∧ _ | change ¬ _ ∧ _); simp (disch := omega) only [nI_clamp, nI_leI, nI_ltI, nI_eq, nI_1, nI_add, nI_not_neg, nI_is_pos, nI_m1, nI_z]) | refine brT (by first | assumption | decide | omega) ?_ | refine brF (by first | assumption | decide | omega) ?_ | refine brTn (by first | assumption | decide | omega) ?_ | refine brFn (by first | assumption | decide | omega) ?_ | refine And.intro (vp_in_nI (by omega) (by decide)) ?_ | refine And.intro (vp_lit (by decide)) ?_ | refine divJ (by decide) ?_ | refine divI (by decide) ?_)
          try change _ ∧ _
          first | done | rfl | (simp (disch := omega) only [nI_1, nI_add, nI_clamp] <;> first | done | rfl)
        | true =>
          rw [hB, bI_t] at rh
          rw [c1] at e31
          by_cases c99 : s 28 n = 99
          · rw [if_pos c99] at e30
            have ih := ih m y (fun q hq => by rw [hm q hq, hsn, if_neg (fun z => by have := z.2.2; omega), Nat.add_zero])
            rw [hst, if_pos ⟨c1, hB, c99⟩] at ih
            show Wp 1 j_Calendar_addTurns _ _ _ _ _
            (refine W1 rfl ?_; try refine Wp.norm (L' := [_, _, _, _, _, _, _, _]) rfl ?_)
            repeat (first | (refine W1 rfl ?_; try refine Wp.norm (L' := [_, _, _, _, _, _, _, _]) rfl ?_) | ((first | change (_ → _) ∧ (_ → _) | change vp_in _ _ ∧ _ | change ¬ _ ∧ _); simp (disch := omega) only [nI_clamp, nI_leI, nI_ltI, nI_eq, nI_1, nI_add, nI_not_neg, nI_is_pos, nI_m1, nI_z, eX, e31]) | refine brT (by first | assumption | decide | omega) ?_ | refine brF (by first | assumption | decide | omega) ?_ | refine brTn (by first | assumption | decide | omega) ?_ | refine brFn (by first | assumption | decide | omega) ?_ | refine And.intro (vp_in_nI (by omega) (by decide)) ?_ | refine And.intro (vp_lit (by decide)) ?_ | refine divJ (by decide) ?_ | refine divI (by decide) ?_)
            try change _ ∧ _
            refine Cl.of rh (by decide) ?_
            show Wp 1 j_Calendar_addTurns _ _ _ _ _
            repeat (first | refine Wp.at ih rfl rfl ?_ rfl | (refine W1 rfl ?_; try refine Wp.norm (L' := [_, _, _, _, _, _, _, _]) rfl ?_) | ((first | change (_ → _) ∧ (_ → _) | change vp_in _ _ ∧ _ | change ¬ _ ∧ _); simp (disch := omega) only [nI_clamp, nI_leI, nI_ltI, nI_eq, nI_1, nI_add, nI_not_neg, nI_is_pos, nI_m1, nI_z, e30]) | refine brT (by first | assumption | decide | omega) ?_ | refine brF (by first | assumption | decide | omega) ?_ | refine brTn (by first | assumption | decide | omega) ?_ | refine brFn (by first | assumption | decide | omega) ?_ | refine And.intro (vp_in_nI (by omega) (by decide)) ?_ | refine And.intro (vp_lit (by decide)) ?_ | refine divJ (by decide) ?_ | refine divI (by decide) ?_)
            try change _ ∧ _
            first | done | rfl | (simp (disch := omega) only [nI_1, nI_add, nI_clamp] <;> first | done | rfl)
          · rw [if_neg c99] at e30
            have kb : s 28 n < 16 := by
              rw [k3] at c99 ⊢
              split at c99
              · exact absurd rfl c99
              · rename_i z
                rw [if_neg z]
                exact ko.2.1
            have ih := ih (m &&& ((1 <<< (nI (s 28 n) &&& 31)) ^^^ (-1))) y (fun q hq => by
              rw [bt_and, bt_not _ hq, bt_shl (by omega) hq, hm q hq, hsn]
              by_cases e : q = s 28 n
              · rw [if_pos ⟨c1, hB, e.symm⟩]
                simp [e]
              · rw [if_neg (fun z => e z.2.2.symm), Nat.add_zero]
                simp [e])
            rw [hst, if_neg (fun z => c99 z.2.2), Nat.add_zero] at ih
            have n1 : ¬ nI (s 28 n) = -1 := fun z => (nI_m1 (by omega)).mp z
            show Wp 1 j_Calendar_addTurns _ _ _ _ _
            (refine W1 rfl ?_; try refine Wp.norm (L' := [_, _, _, _, _, _, _, _]) rfl ?_)
            repeat (first | (refine W1 rfl ?_; try refine Wp.norm (L' := [_, _, _, _, _, _, _, _]) rfl ?_) | ((first | change (_ → _) ∧ (_ → _) | change vp_in _ _ ∧ _ | change ¬ _ ∧ _); simp (disch := omega) only [nI_clamp, nI_leI, nI_ltI, nI_eq, nI_1, nI_add, nI_not_neg, nI_is_pos, nI_m1, nI_z, eX, e31]) | refine brT (by first | assumption | decide | omega) ?_ | refine brF (by first | assumption | decide | omega) ?_ | refine brTn (by first | assumption | decide | omega) ?_ | refine brFn (by first | assumption | decide | omega) ?_ | refine And.intro (vp_in_nI (by omega) (by decide)) ?_ | refine And.intro (vp_lit (by decide)) ?_ | refine divJ (by decide) ?_ | refine divI (by decide) ?_)
            try change _ ∧ _
            refine Cl.of rh (by decide) ?_
            show Wp 1 j_Calendar_addTurns _ _ _ _ _
            repeat (first | refine Wp.at ih rfl rfl ?_ rfl | (refine W1 rfl ?_; try refine Wp.norm (L' := [_, _, _, _, _, _, _, _]) rfl ?_) | ((first | change (_ → _) ∧ (_ → _) | change vp_in _ _ ∧ _ | change ¬ _ ∧ _); simp (disch := omega) only [nI_clamp, nI_leI, nI_ltI, nI_eq, nI_1, nI_add, nI_not_neg, nI_is_pos, nI_m1, nI_z, e30]) | refine brT (by first | assumption | decide | omega) ?_ | refine brF (by first | assumption | decide | omega) ?_ | refine brTn (by first | assumption | decide | omega) ?_ | refine brFn (by first | assumption | decide | omega) ?_ | refine And.intro (vp_in_nI (by omega) (by decide)) ?_ | refine And.intro (vp_lit (by decide)) ?_ | refine divJ (by decide) ?_ | refine divI (by decide) ?_)
            try change _ ∧ _
            first | done | rfl | (simp (disch := omega) only [nI_1, nI_add, nI_clamp, e30] <;> first | done | rfl)
      · have ih := ih m y (fun q hq => by rw [hm q hq, hsn, if_neg (fun z => c1 z.1), Nat.add_zero])
        rw [hst, if_neg (fun z => c1 z.1), Nat.add_zero] at ih
        show Wp 1 j_Calendar_addTurns _ _ _ _ _
        (refine W1 rfl ?_; try refine Wp.norm (L' := [_, _, _, _, _, _, _, _]) rfl ?_)
        repeat (first | refine Wp.at ih rfl rfl ?_ rfl | (refine W1 rfl ?_; try refine Wp.norm (L' := [_, _, _, _, _, _, _, _]) rfl ?_) | ((first | change (_ → _) ∧ (_ → _) | change vp_in _ _ ∧ _ | change ¬ _ ∧ _); simp (disch := omega) only [nI_clamp, nI_leI, nI_ltI, nI_eq, nI_1, nI_add, nI_not_neg, nI_is_pos, nI_m1, nI_z, eX, e31]) | refine brT (by first | assumption | decide | omega) ?_ | refine brF (by first | assumption | decide | omega) ?_ | refine brTn (by first | assumption | decide | omega) ?_ | refine brFn (by first | assumption | decide | omega) ?_ | refine And.intro (vp_in_nI (by omega) (by decide)) ?_ | refine And.intro (vp_lit (by decide)) ?_ | refine divJ (by decide) ?_ | refine divI (by decide) ?_)
        try change _ ∧ _
        first | done | rfl | (simp (disch := omega) only [nI_1, nI_add, nI_clamp] <;> first | done | rfl)
  have ih := lp 0 (Nat.zero_le _) m0 .null (fun q hq => by rw [hm0 q hq]; simp [nX, sm])
  show Wp 1 j_Calendar_addTurns _ _ _ _ _
  repeat (first | (refine W1 rfl ?_; try refine Wp.norm (L' := [_, _, _, _, _, _, _, _]) rfl ?_) | ((first | change (_ → _) ∧ (_ → _) | change vp_in _ _ ∧ _ | change ¬ _ ∧ _); simp (disch := omega) only [nI_clamp, nI_leI, nI_ltI, nI_eq, nI_1, nI_add, nI_not_neg, nI_is_pos, nI_m1, nI_z]) | refine brT (by first | assumption | decide | omega) ?_ | refine brF (by first | assumption | decide | omega) ?_ | refine brTn (by first | assumption | decide | omega) ?_ | refine brFn (by first | assumption | decide | omega) ?_ | refine And.intro (vp_in_nI (by omega) (by decide)) ?_ | refine And.intro (vp_lit (by decide)) ?_ | refine divJ (by decide) ?_ | refine divI (by decide) ?_)
  try change _ ∧ _
  refine Cl.of r0 (by decide) ?_
  show Wp 1 j_Calendar_addTurns _ _ _ _ _
  repeat (first | refine Wp.at ih rfl rfl ?_ rfl | (refine W1 rfl ?_; try refine Wp.norm (L' := [_, _, _, _, _, _, _, _]) rfl ?_) | ((first | change (_ → _) ∧ (_ → _) | change vp_in _ _ ∧ _ | change ¬ _ ∧ _); simp (disch := omega) only [nI_clamp, nI_leI, nI_ltI, nI_eq, nI_1, nI_add, nI_not_neg, nI_is_pos, nI_m1, nI_z]) | refine brT (by first | assumption | decide | omega) ?_ | refine brF (by first | assumption | decide | omega) ?_ | refine brTn (by first | assumption | decide | omega) ?_ | refine brFn (by first | assumption | decide | omega) ?_ | refine And.intro (vp_in_nI (by omega) (by decide)) ?_ | refine And.intro (vp_lit (by decide)) ?_ | refine divJ (by decide) ?_ | refine divI (by decide) ?_)
  try change _ ∧ _
  first | done | rfl | (simp (disch := omega) only [nI_1, nI_add, nI_clamp] <;> first | done | rfl)
end CAD
