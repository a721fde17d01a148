/-! ===== THE MODEL LAYS THE TURNS ===== -/
def HM (s : ST) (C : List Nat) (h : HP) : Prop :=
  (h.1 87 1 = nI (zD s) ∧ h.1 88 1 = nI (zP s) ∧ h.1 89 1 = nI (zK s) ∧ h.1 90 1 = nI (zO s)) ∧
  (∀ p, p < zP s → h.1 93 (16 + p) = nI (s 24 p) ∧ h.1 94 (16 + p) = nI (s 25 p)) ∧
  (∀ r, r < zO s → h.1 97 (60 + r) = nI (oS s r) ∧ h.1 98 (60 + r) = nI (oA s r) ∧ (oS s r ≠ 1 → h.1 99 (60 + r) = nI (oB s r)) ∧ (oS s r = 1 ∨ oS s r = 2 → h.1 101 (60 + r) = nI (s 26 r) ∧ h.1 102 (60 + r) = nI (s 27 r))) ∧
  (∀ q, q < C.length → h.1 103 (900 + q) = nI (C.getD q 0)) ∧ C.length ≤ 900
def LY (h h' : HP) : Prop := (∀ k i, ¬ (k = 65 ∧ (i = 54 ∨ i = 55)) → ¬ (106 ≤ k ∧ k ≤ 111) → h'.1 k i = h.1 k i) ∧ (∀ k i, k ≠ 105 → h'.2 k i = h.2 k i)
theorem LY.rfl (h : HP) : LY h h := ⟨fun _ _ _ _ => Eq.refl _, fun _ _ _ => Eq.refl _⟩
theorem LY.trans {a b c : HP} (h1 : LY a b) (h2 : LY b c) : LY a c := ⟨fun k i x y => (h2.1 k i x y).trans (h1.1 k i x y), fun k i x => (h2.2 k i x).trans (h1.2 k i x)⟩
theorem HX.ly {h h' : HP} (F : HX h h') : LY h h' := ⟨fun k i x _ => F.1 k i (fun z => x ⟨z.1, Or.inl z.2⟩), F.2⟩
theorem LY.w {h h' : HP} {k i : Nat} {x : Int32} (F : LY h h') (hk : 106 ≤ k ∧ k ≤ 111) : LY h (wI h' k i x) := ⟨fun k' i' z1 z2 => by rw [wI_ne _ _ _ (fun e => z2 (by rw [e]; exact hk))]; exact F.1 k' i' z1 z2, F.2⟩
theorem LY.t {h h' : HP} {x : Int32} (F : LY h h') : LY h (wI h' 65 55 x) := ⟨fun k' i' z1 z2 => by
  rw [← F.1 k' i' z1 z2]
  by_cases e : k' = 65
  · subst e
    rw [wI_ne2 _ _ (fun y => z1 ⟨Eq.refl _, Or.inr y⟩)]
  · rw [wI_ne _ _ _ e], F.2⟩
theorem i32_c1 : Int32.toNatClampNeg 1 = 1 := rfl
section MLY
variable {s : ST} {C : List Nat} {h h' : HP} {L : List (Nat × Nat)}
theorem HM.ly (H : HM s C h) (F : LY h h') : HM s C h' := by
  have e : ∀ k i, k ≠ 65 → k < 106 → h'.1 k i = h.1 k i := fun k i h1 h2 => F.1 k i (fun z => h1 z.1) (by omega)
  obtain ⟨d1, d2, d3, d4, d5⟩ := H
  refine ⟨?_, fun p hp => ?_, fun p hp => ?_, fun q hq => ?_, d5⟩
  · rw [e 87 _ (by decide) (by decide), e 88 _ (by decide) (by decide), e 89 _ (by decide) (by decide), e 90 _ (by decide) (by decide)]; exact d1
  · rw [e 93 _ (by decide) (by decide), e 94 _ (by decide) (by decide)]; exact d2 p hp
  · rw [e 97 _ (by decide) (by decide), e 98 _ (by decide) (by decide), e 99 _ (by decide) (by decide), e 101 _ (by decide) (by decide), e 102 _ (by decide) (by decide)]; exact d3 p hp
  · rw [e 103 _ (by decide) (by decide)]; exact d4 q hq
theorem HM.hold {r d : Nat} (H : HM s C h) (j : J s C) (hr : r < zO s) (ht : oS s r = 1 ∨ oS s r = 2) (hd : d < 200) : ∃ w h', Run 2 j_M_holds [.ref 65, .int (nI (60 + r)), .int (nI d)] h w h' ∧ (w = some (.int (bI (hdB s C r d))) ∧ HX h h') := by
  obtain ⟨d1, d2, d3, d4, d5⟩ := H
  obtain ⟨k1, k2⟩ := (d3 r hr).2.2.2 ht
  obtain ⟨b1, b2, b3, b4, b5, b6⟩ := j.2.2.2.1 r hr ht
  have hO := j.1.1.1.1.2.2.2.1
  exact m_hold (Or.inr ⟨by omega, by omega, rfl⟩) k1 k2 d4 d5 b2 b3 b4 hd
def TLm (s : ST) (C : List Nat) (L : List (Nat × Nat)) (h : HP) : Prop := h.1 65 55 = nI L.length ∧ ∀ t, t < L.length → h.1 106 t = nI (gL L t).1 ∧ h.1 107 t = nI (gL L t).2 ∧ h.1 108 t = nI (cnt (fun u => (gL L u).2 = (gL L t).2) t) ∧ h.1 109 t = nI (mkN s C (gL L t).1 (gL L t).2) ∧ h.1 110 t = -1 ∧ h.1 111 t = -1
theorem TLm.hx (T : TLm s C L h) (F : HX h h') : TLm s C L h' := by
  have e : ∀ k i, k ≠ 65 → h'.1 k i = h.1 k i := fun k i h1 => F.1 k i (fun z => h1 z.1)
  refine ⟨?_, fun t ht => ?_⟩
  · rw [F.1 65 55 (fun z => absurd z.2 (by decide))]; exact T.1
  · rw [e 106 _ (by decide), e 107 _ (by decide), e 108 _ (by decide), e 109 _ (by decide), e 110 _ (by decide), e 111 _ (by decide)]; exact T.2 t ht
theorem m_tok {f : Nat → Nat} {n k : Nat} (hn : n ≤ 200) (eT : h.1 65 55 = nI n) (eK : ∀ t, t < n → h.1 107 t = nI (f t)) (hf : ∀ t, t < n → f t < 2 ^ 20) (hk : k < 2 ^ 20) : Run 0 j_M_turnsOfKind [.ref 65, .int (nI k)] h (some (.int (nI (cnt (fun u => f u = k) n)))) h := by
  refine Run.of rfl ?_
  refine Wp.norm (L' := [_, _, _, _]) rfl ?_
  have lp : ∀ t, t ≤ n → Wp 0 j_M_turnsOfKind 4 [.ref 65, .int (nI k), .int (nI (cnt (fun u => f u = k) t)), .int (nI t)] [] h (fun v2 h2 => v2 = some (.int (nI (cnt (fun u => f u = k) n))) ∧ h2 = h) := by
    refine up_ind ?_ (fun t ht ih => ?_)
    · show Wp 0 j_M_turnsOfKind _ _ _ _ _
      repeat (first | (refine W1 rfl ?_; try refine Wp.norm (L' := [_, _, _, _]) rfl ?_) | ((first | change (_ → _) ∧ (_ → _) | change vp_in _ _ ∧ _ | change ¬ _ ∧ _); simp (disch := omega) only [nI_clamp, nI_leI, nI_ltI, nI_eq, nI_1, nI_add, nI_not_neg, nI_is_pos, nI_m1, nI_z, eT]) | refine brT (by first | assumption | decide | omega) ?_ | refine brF (by first | assumption | decide | omega) ?_ | refine brTn (by first | assumption | decide | omega) ?_ | refine brFn (by first | assumption | decide | omega) ?_ | refine And.intro (vp_in_nI (by omega) (by decide)) ?_ | refine And.intro (vp_lit (by decide)) ?_ | refine divJ (by decide) ?_ | refine divI (by decide) ?_)
      try change _ ∧ _
      try first | exact ⟨rfl, rfl⟩ | exact ⟨Or.inr rfl, rfl, rfl⟩ | exact ⟨Or.inl rfl, rfl, rfl⟩ | exact ⟨trivial, trivial⟩ | exact ⟨rfl, trivial⟩ | exact ⟨Or.inr rfl, rfl, trivial⟩ | exact ⟨Or.inl rfl, rfl, trivial⟩
    · have e1 := eK t ht
      have h1 := hf t ht
      have hc := cnt_le (fun u => f u = k) t
      have hst : cnt (fun u => f u = k) (t + 1) = cnt (fun u => f u = k) t + (if f t = k then 1 else 0) := rfl
      rw [hst] at ih
      generalize cnt (fun u => f u = k) t = v at *
      by_cases c : f t = k
      · rw [if_pos c] at ih
        rw [c] at e1
        show Wp 0 j_M_turnsOfKind _ _ _ _ _
        (refine W1 rfl ?_; try refine Wp.norm (L' := [_, _, _, _]) rfl ?_)
        repeat (first | refine Wp.at ih rfl rfl ?_ rfl | (refine W1 rfl ?_; try refine Wp.norm (L' := [_, _, _, _]) rfl ?_) | ((first | change (_ → _) ∧ (_ → _) | change vp_in _ _ ∧ _ | change ¬ _ ∧ _); simp (disch := omega) only [nI_clamp, nI_leI, nI_ltI, nI_eq, nI_1, nI_add, nI_not_neg, nI_is_pos, nI_m1, nI_z, eT, e1]) | refine brT (by first | assumption | decide | omega) ?_ | refine brF (by first | assumption | decide | omega) ?_ | refine brTn (by first | assumption | decide | omega) ?_ | refine brFn (by first | assumption | decide | omega) ?_ | refine And.intro (vp_in_nI (by omega) (by decide)) ?_ | refine And.intro (vp_lit (by decide)) ?_ | refine divJ (by decide) ?_ | refine divI (by decide) ?_)
        try change _ ∧ _
        first | done | rfl | (simp (disch := omega) only [nI_1, nI_add, nI_clamp] <;> first | done | rfl)
      · rw [if_neg c, Nat.add_zero] at ih
        show Wp 0 j_M_turnsOfKind _ _ _ _ _
        (refine W1 rfl ?_; try refine Wp.norm (L' := [_, _, _, _]) rfl ?_)
        repeat (first | refine Wp.at ih rfl rfl ?_ rfl | (refine W1 rfl ?_; try refine Wp.norm (L' := [_, _, _, _]) rfl ?_) | ((first | change (_ → _) ∧ (_ → _) | change vp_in _ _ ∧ _ | change ¬ _ ∧ _); simp (disch := omega) only [nI_clamp, nI_leI, nI_ltI, nI_eq, nI_1, nI_add, nI_not_neg, nI_is_pos, nI_m1, nI_z, eT, e1]) | refine brT (by first | assumption | decide | omega) ?_ | refine brF (by first | assumption | decide | omega) ?_ | refine brTn (by first | assumption | decide | omega) ?_ | refine brFn (by first | assumption | decide | omega) ?_ | refine And.intro (vp_in_nI (by omega) (by decide)) ?_ | refine And.intro (vp_lit (by decide)) ?_ | refine divJ (by decide) ?_ | refine divI (by decide) ?_)
        try change _ ∧ _
        first | done | rfl | (simp (disch := omega) only [nI_1, nI_add, nI_clamp] <;> first | done | rfl)
  have ih := lp 0 (Nat.zero_le _)
  repeat (first | refine Wp.at ih rfl rfl ?_ rfl | (refine W1 rfl ?_; try refine Wp.norm (L' := [_, _, _, _]) rfl ?_) | ((first | change (_ → _) ∧ (_ → _) | change vp_in _ _ ∧ _ | change ¬ _ ∧ _); simp (disch := omega) only [nI_clamp, nI_leI, nI_ltI, nI_eq, nI_1, nI_add, nI_not_neg, nI_is_pos, nI_m1, nI_z]) | refine brT (by first | assumption | decide | omega) ?_ | refine brF (by first | assumption | decide | omega) ?_ | refine brTn (by first | assumption | decide | omega) ?_ | refine brFn (by first | assumption | decide | omega) ?_ | refine And.intro (vp_in_nI (by omega) (by decide)) ?_ | refine And.intro (vp_lit (by decide)) ?_ | refine divJ (by decide) ?_ | refine divI (by decide) ?_)
  try change _ ∧ _
  first | done | rfl | (simp (disch := omega) only [nI_1, nI_add, nI_clamp] <;> first | done | rfl)
def nP (s : ST) (C : List Nat) (d k p m : Nat) : Nat := sm (fun r => if oS s r = 2 ∧ oA s r = p ∧ oB s r = k ∧ hdB s C r d = true then 1 else 0) m
theorem nP_le (d k p : Nat) {m : Nat} (hm : m ≤ zO s) : nP s C d k p m ≤ nevN s C d k p := sm_mono _ hm
/-- while the persons of a new turn are gone through -/
def LT (s : ST) (C : List Nat) (L : List (Nat × Nat)) (d k n : Nat) (h : HP) (i : Nat) (g : HP) : Prop := LY h g ∧ g.1 65 55 = nI n ∧ (∀ t, t < n → g.1 106 t = h.1 106 t ∧ g.1 107 t = h.1 107 t ∧ g.1 108 t = h.1 108 t ∧ g.1 109 t = h.1 109 t ∧ g.1 110 t = h.1 110 t ∧ g.1 111 t = h.1 111 t) ∧ (g.1 106 n = nI d ∧ g.1 107 n = nI k ∧ g.1 108 n = nI (cnt (fun u => (gL L u).2 = k) n) ∧ g.1 110 n = -1 ∧ g.1 111 n = -1) ∧ ∀ q, q < 32 → bt (g.1 109 n) q = (decide (q < i) && mB s C d k q)
theorem LT.hx {d k n i : Nat} {g g' : HP} (T : LT s C L d k n h i g) (F : HX g g') : LT s C L d k n h i g' := by
  have e : ∀ k i, k ≠ 65 → g'.1 k i = g.1 k i := fun k i h1 => F.1 k i (fun z => h1 z.1)
  obtain ⟨a1, a2, a3, a4, a5⟩ := T
  refine ⟨a1.trans F.ly, ?_, fun t ht => ?_, ?_, fun q hq => ?_⟩
  · rw [F.1 65 55 (fun z => absurd z.2 (by decide))]; exact a2
  · rw [e 106 _ (by decide), e 107 _ (by decide), e 108 _ (by decide), e 109 _ (by decide), e 110 _ (by decide), e 111 _ (by decide)]; exact a3 t ht
  · rw [e 106 _ (by decide), e 107 _ (by decide), e 108 _ (by decide), e 110 _ (by decide), e 111 _ (by decide)]; exact a4
  · rw [e 109 _ (by decide)]; exact a5 q hq
theorem LT.yes {d k n i : Nat} {g : HP} (T : LT s C L d k n h i g) (hi : i < 32) (hb : mB s C d k i = true) : LT s C L d k n h (i + 1) (wI g 109 n (g.1 109 n ||| (1 <<< (nI i &&& 31)))) := by
  obtain ⟨a1, a2, a3, a4, a5⟩ := T
  refine ⟨a1.w (by decide), a2, fun t ht => ?_, a4, fun q hq => ?_⟩
  · have := a3 t ht
    rw [wI_ne2 _ _ (show t ≠ n by omega)]
    exact this
  · rw [wI_same, bt_or, bt_shl hi hq, a5 q hq]
    by_cases e : q = i
    · subst e; simp [hb]
    · by_cases e2 : q < i
      · simp [e, e2, show q < i + 1 by omega]
      · simp [e, e2, show ¬ q < i + 1 by omega]
theorem LT.no {d k n i : Nat} {g : HP} (T : LT s C L d k n h i g) (hb : mB s C d k i = false) : LT s C L d k n h (i + 1) g := by
  obtain ⟨a1, a2, a3, a4, a5⟩ := T
  refine ⟨a1, a2, a3, a4, fun q hq => ?_⟩
  rw [a5 q hq]
  by_cases e : q = i
  · subst e; simp [hb]
  · by_cases e2 : q < i
    · simp [e2, show q < i + 1 by omega]
    · simp [e2, show ¬ q < i + 1 by omega]
theorem m_laysTurn {d k : Nat} (H : HM s C h) (j : J s C) (T : TLm s C L h) (hd : d < 200) (hk : k < 16) (hL : L.length < 200) (hLk : ∀ t, t < L.length → (gL L t).2 < 16) : ∃ w h', Run 3 j_M_laysTurn [.ref 65, .int (nI d), .int (nI k)] h w h' ∧ (w = none ∧ LY h h' ∧ TLm s C (L ++ [(d, k)]) h') := by
  refine Run.ofP rfl ?_
  refine Wp.norm (L' := [_, _, _, _, _, _, _]) rfl ?_
  generalize hQQ : (fun (w : Option Value) (h' : HP) => w = none ∧ LY h h' ∧ TLm s C (L ++ [(d, k)]) h') = QQ
  have hO := j.1.1.1.1.2.2.2.1
  have hP := j.1.1.1.1.1
  have eT := T.1
  have hl : (L ++ [(d, k)]).length = L.length + 1 := by rw [List.length_append]; rfl
  generalize hn : L.length = n at *
  -- what stands before the persons are gone through
  have rt : Run 0 j_M_turnsOfKind [.ref 65, .int (nI k)] (wI (wI h 106 n (nI d)) 107 n (nI k)) (some (.int (nI (cnt (fun u => (gL L u).2 = k) n)))) (wI (wI h 106 n (nI d)) 107 n (nI k)) := m_tok (h := (wI (wI h 106 n (nI d)) 107 n (nI k))) (f := fun u => (gL L u).2) (n := n) (by omega) eT (fun t ht => by
    show (wI (wI h 106 n (nI d)) 107 n (nI k)).1 107 t = _
    rw [wI_ne2 _ _ (by omega), wI_ne _ _ _ (by decide)]
    exact (T.2 t (by omega)).2.1) (fun t ht => by have := hLk t (by omega); show (gL L t).2 < _; omega) (by omega)
  -- the cells of this turn and of those before
  have RR : ∀ g : HP, LY h g → g.1 65 55 = nI n → (∀ t, t < n → g.1 106 t = h.1 106 t ∧ g.1 107 t = h.1 107 t ∧ g.1 108 t = h.1 108 t ∧ g.1 109 t = h.1 109 t ∧ g.1 110 t = h.1 110 t ∧ g.1 111 t = h.1 111 t) → (g.1 106 n = nI d ∧ g.1 107 n = nI k ∧ g.1 108 n = nI (cnt (fun u => (gL L u).2 = k) n) ∧ g.1 110 n = -1 ∧ g.1 111 n = -1) → g.1 109 n = nI (mkN s C d k) → QQ none (wI g 65 55 (nI (n + 1))) := by
    intro g F e55 A B hm
    rw [← hQQ]
    refine ⟨rfl, F.t, by rw [hl]; exact wI_same _ _ _ _, fun t ht => ?_⟩
    rw [hl] at ht
    rw [wI_ne _ _ _ (by decide), wI_ne _ _ _ (by decide), wI_ne _ _ _ (by decide), wI_ne _ _ _ (by decide), wI_ne _ _ _ (by decide), wI_ne _ _ _ (by decide)]
    by_cases e : t = n
    · subst e
      have eg : gL (L ++ [(d, k)]) t = (d, k) := by rw [gL_r (by omega), hn, Nat.sub_self]; rfl
      rw [eg]
      obtain ⟨b1, b2, b3, b4, b5⟩ := B
      refine ⟨b1, b2, ?_, hm, b4, b5⟩
      rw [b3]
      congr 1
      exact cnt_congr (fun u hu => by rw [gL_l (by omega)])
    · obtain ⟨a1, a2, a3, a4, a5, a6⟩ := A t (by omega)
      have eg : gL (L ++ [(d, k)]) t = gL L t := gL_l (by omega)
      rw [eg, a1, a2, a3, a4, a5, a6]
      have := T.2 t (by omega)
      refine ⟨this.1, this.2.1, ?_, this.2.2.2⟩
      rw [this.2.2.1]
      congr 1
      exact cnt_congr (fun u hu => by rw [gL_l (by omega)])
  have persons : ∀ i, i ≤ zP s → ∀ g (y5 y6 : Value), LT s C L d k n h i g → Wp 3 j_M_laysTurn 54 [.ref 65, .int (nI d), .int (nI k), .int (nI n), .int (nI i), y5, y6] [] g QQ := by
    refine up_ind ?_ (fun i hi ih => ?_)
    · intro g y5 y6 X
      obtain ⟨F, e55, A, B, hm⟩ := X
      have e88 := (H.ly F).1.2.1
      have hM : g.1 109 n = nI (mkN s C d k) := by
        have hl := mk_lt j d k
        refine bt_ext (fun q hq => ?_)
        rw [hm q hq, bt_nI (by omega)]
        unfold mkN
        rw [smp_bit]
      have fin1 := RR g F e55 A B hM
      show Wp 3 j_M_laysTurn _ _ _ _ _
      repeat (first | (refine W1 rfl ?_; try refine Wp.norm (L' := [_, _, _, _, _, _, _]) rfl ?_) | ((first | change (_ → _) ∧ (_ → _) | change vp_in _ _ ∧ _ | change ¬ _ ∧ _); simp (disch := omega) only [nI_clamp, nI_leI, nI_ltI, nI_eq, nI_1, nI_add, nI_not_neg, nI_is_pos, nI_m1, nI_z, e88, i32_c1]) | refine brT (by first | assumption | decide | omega) ?_ | refine brF (by first | assumption | decide | omega) ?_ | refine brTn (by first | assumption | decide | omega) ?_ | refine brFn (by first | assumption | decide | omega) ?_ | refine And.intro (vp_in_nI (by omega) (by decide)) ?_ | refine And.intro (vp_lit (by decide)) ?_ | refine divJ (by decide) ?_ | refine divI (by decide) ?_)
      try change _ ∧ _
      try simp (disch := omega) only [e55, nI_1, nI_add]
      exact fin1
    · intro g y5 y6 X
      have ihp := ih
      clear ih
      have next : ∀ g (y5 : Int32) (y6 : Value), LT s C L d k n h i g → ((y5 = 1 ∧ mB s C d k i = true) ∨ (y5 = 0 ∧ mB s C d k i = false)) → Wp 3 j_M_laysTurn 170 [.ref 65, .int (nI d), .int (nI k), .int (nI n), .int (nI i), .int y5, y6] [] g QQ := by
        intro g y5 y6 X hy
        rcases hy with ⟨rfl, hb⟩ | ⟨rfl, hb⟩
        · have ih := ihp _ (.int 1) y6 (X.yes (by omega) hb)
          show Wp 3 j_M_laysTurn _ _ _ _ _
          repeat (first | refine Wp.at ih rfl rfl ?_ rfl | (refine W1 rfl ?_; try refine Wp.norm (L' := [_, _, _, _, _, _, _]) rfl ?_) | ((first | change (_ → _) ∧ (_ → _) | change vp_in _ _ ∧ _ | change ¬ _ ∧ _); simp (disch := omega) only [nI_clamp, nI_leI, nI_ltI, nI_eq, nI_1, nI_add, nI_not_neg, nI_is_pos, nI_m1, nI_z]) | refine brT (by first | assumption | decide | omega) ?_ | refine brF (by first | assumption | decide | omega) ?_ | refine brTn (by first | assumption | decide | omega) ?_ | refine brFn (by first | assumption | decide | omega) ?_ | refine And.intro (vp_in_nI (by omega) (by decide)) ?_ | refine And.intro (vp_lit (by decide)) ?_ | refine divJ (by decide) ?_ | refine divI (by decide) ?_)
          try change _ ∧ _
          first | done | rfl | (simp (disch := omega) only [nI_1, nI_add, nI_clamp] <;> first | done | rfl)
        · have ih := ihp g (.int 0) y6 (X.no hb)
          show Wp 3 j_M_laysTurn _ _ _ _ _
          repeat (first | refine Wp.at ih rfl rfl ?_ rfl | (refine W1 rfl ?_; try refine Wp.norm (L' := [_, _, _, _, _, _, _]) rfl ?_) | ((first | change (_ → _) ∧ (_ → _) | change vp_in _ _ ∧ _ | change ¬ _ ∧ _); simp (disch := omega) only [nI_clamp, nI_leI, nI_ltI, nI_eq, nI_1, nI_add, nI_not_neg, nI_is_pos, nI_m1, nI_z]) | refine brT (by first | assumption | decide | omega) ?_ | refine brF (by first | assumption | decide | omega) ?_ | refine brTn (by first | assumption | decide | omega) ?_ | refine brFn (by first | assumption | decide | omega) ?_ | refine And.intro (vp_in_nI (by omega) (by decide)) ?_ | refine And.intro (vp_lit (by decide)) ?_ | refine divJ (by decide) ?_ | refine divI (by decide) ?_)
          try change _ ∧ _
          first | done | rfl | (simp (disch := omega) only [nI_1, nI_add, nI_clamp] <;> first | done | rfl)
      have no : ∀ r, r ≤ zO s → ∀ g, LT s C L d k n h i g → mB s C d k i = false → Wp 3 j_M_laysTurn 98 [.ref 65, .int (nI d), .int (nI k), .int (nI n), .int (nI i), .int 0, .int (nI (60 + r))] [] g QQ := by
        intro r hr g X hb
        have e90 := (H.ly X.1).1.2.2.2
        have ih := next g 0 (.int (nI (60 + r))) X (Or.inr ⟨rfl, hb⟩)
        have e60 : (60 : Int32) + nI (zO s) = nI (60 + zO s) := by rw [show (60 : Int32) = nI 60 from rfl, nI_add]
        by_cases c : r = zO s
        · subst c
          show Wp 3 j_M_laysTurn _ _ _ _ _
          repeat (first | refine Wp.at ih rfl rfl ?_ rfl | (refine W1 rfl ?_; try refine Wp.norm (L' := [_, _, _, _, _, _, _]) rfl ?_) | ((first | change (_ → _) ∧ (_ → _) | change vp_in _ _ ∧ _ | change ¬ _ ∧ _); simp (disch := omega) only [nI_clamp, nI_leI, nI_ltI, nI_eq, nI_1, nI_add, nI_not_neg, nI_is_pos, nI_m1, nI_z, e90, e60, i32_c1]) | refine brT (by first | assumption | decide | omega) ?_ | refine brF (by first | assumption | decide | omega) ?_ | refine brTn (by first | assumption | decide | omega) ?_ | refine brFn (by first | assumption | decide | omega) ?_ | refine And.intro (vp_in_nI (by omega) (by decide)) ?_ | refine And.intro (vp_lit (by decide)) ?_ | refine divJ (by decide) ?_ | refine divI (by decide) ?_)
          try change _ ∧ _
          first | done | rfl | (simp (disch := omega) only [nI_1, nI_add, nI_clamp] <;> first | done | rfl)
        · have c' : r < zO s := by omega
          show Wp 3 j_M_laysTurn _ _ _ _ _
          repeat (first | refine Wp.at ih rfl rfl ?_ rfl | (refine W1 rfl ?_; try refine Wp.norm (L' := [_, _, _, _, _, _, _]) rfl ?_) | ((first | change (_ → _) ∧ (_ → _) | change vp_in _ _ ∧ _ | change ¬ _ ∧ _); simp (disch := omega) only [nI_clamp, nI_leI, nI_ltI, nI_eq, nI_1, nI_add, nI_not_neg, nI_is_pos, nI_m1, nI_z, e90, e60, i32_c1]) | refine brT (by first | assumption | decide | omega) ?_ | refine brF (by first | assumption | decide | omega) ?_ | refine brTn (by first | assumption | decide | omega) ?_ | refine brFn (by first | assumption | decide | omega) ?_ | refine And.intro (vp_in_nI (by omega) (by decide)) ?_ | refine And.intro (vp_lit (by decide)) ?_ | refine divJ (by decide) ?_ | refine divI (by decide) ?_)
          try change _ ∧ _
          first | done | rfl | (simp (disch := omega) only [nI_1, nI_add, nI_clamp] <;> first | done | rfl)
      have yes : ∀ r, r ≤ zO s → ∀ g, LT s C L d k n h i g → presB s d i = true → nP s C d k i r = 0 → Wp 3 j_M_laysTurn 98 [.ref 65, .int (nI d), .int (nI k), .int (nI n), .int (nI i), .int 1, .int (nI (60 + r))] [] g QQ := by
        refine up_ind ?_ (fun r hr ih => ?_)
        · intro g X hp h0
          have e90 := (H.ly X.1).1.2.2.2
          have e60 : (60 : Int32) + nI (zO s) = nI (60 + zO s) := by rw [show (60 : Int32) = nI 60 from rfl, nI_add]
          have hb : mB s C d k i = true := by
            unfold mB
            rw [hp, Bool.true_and]
            exact decide_eq_true h0
          have ih := next g 1 (.int (nI (60 + zO s))) X (Or.inl ⟨rfl, hb⟩)
          show Wp 3 j_M_laysTurn _ _ _ _ _
          repeat (first | refine Wp.at ih rfl rfl ?_ rfl | (refine W1 rfl ?_; try refine Wp.norm (L' := [_, _, _, _, _, _, _]) rfl ?_) | ((first | change (_ → _) ∧ (_ → _) | change vp_in _ _ ∧ _ | change ¬ _ ∧ _); simp (disch := omega) only [nI_clamp, nI_leI, nI_ltI, nI_eq, nI_1, nI_add, nI_not_neg, nI_is_pos, nI_m1, nI_z, e90, e60, i32_c1]) | refine brT (by first | assumption | decide | omega) ?_ | refine brF (by first | assumption | decide | omega) ?_ | refine brTn (by first | assumption | decide | omega) ?_ | refine brFn (by first | assumption | decide | omega) ?_ | refine And.intro (vp_in_nI (by omega) (by decide)) ?_ | refine And.intro (vp_lit (by decide)) ?_ | refine divJ (by decide) ?_ | refine divI (by decide) ?_)
          try change _ ∧ _
          first | done | rfl | (simp (disch := omega) only [nI_1, nI_add, nI_clamp] <;> first | done | rfl)
        · intro g X hp h0
          have Hg := H.ly X.1
          have e90 := Hg.1.2.2.2
          have e60 : (60 : Int32) + nI (zO s) = nI (60 + zO s) := by rw [show (60 : Int32) = nI 60 from rfl, nI_add]
          obtain ⟨e97, e98, e99, _⟩ := Hg.2.2.1 r hr
          have ko := j.2.1.2.2.2.2 r hr
          have hst : nP s C d k i (r + 1) = nP s C d k i r + (if oS s r = 2 ∧ oA s r = i ∧ oB s r = k ∧ hdB s C r d = true then 1 else 0) := rfl
          have e61 : 60 + (r + 1) = 60 + r + 1 := rfl
          by_cases c1 : oS s r = 2 ∧ oA s r = i ∧ oB s r = k
          · obtain ⟨c1, c2, c3⟩ := c1
            have e99 := e99 (by omega)
            rw [c1] at e97
            rw [c2] at e98
            rw [c3] at e99
            have e97 : g.1 97 (60 + r) = 2 := e97
            obtain ⟨w2, g2, r2, rfl, F2⟩ := Hg.hold j hr (Or.inr c1) hd
            cases hB : hdB s C r d with
            | false =>
              rw [hB, bI_f] at r2
              have ih := ih g2 (X.hx F2) hp (by rw [hst, if_neg (fun z => by rw [hB] at z; exact absurd z.2.2.2 (by decide)), h0])
              rw [e61] at ih
              show Wp 3 j_M_laysTurn _ _ _ _ _
              (refine W1 rfl ?_; try refine Wp.norm (L' := [_, _, _, _, _, _, _]) rfl ?_)
              repeat (first | (refine W1 rfl ?_; try refine Wp.norm (L' := [_, _, _, _, _, _, _]) rfl ?_) | ((first | change (_ → _) ∧ (_ → _) | change vp_in _ _ ∧ _ | change ¬ _ ∧ _); simp (disch := omega) only [nI_clamp, nI_leI, nI_ltI, nI_eq, nI_1, nI_add, nI_not_neg, nI_is_pos, nI_m1, nI_z, e90, e60, e97, e98, e99, i32_c1]) | refine brT (by first | assumption | decide | omega) ?_ | refine brF (by first | assumption | decide | omega) ?_ | refine brTn (by first | assumption | decide | omega) ?_ | refine brFn (by first | assumption | decide | omega) ?_ | refine And.intro (vp_in_nI (by omega) (by decide)) ?_ | refine And.intro (vp_lit (by decide)) ?_ | refine divJ (by decide) ?_ | refine divI (by decide) ?_)
              try change _ ∧ _
              refine Cl.of r2 (by decide) ?_
              show Wp 3 j_M_laysTurn _ _ _ _ _
              repeat (first | refine Wp.at ih rfl rfl ?_ rfl | (refine W1 rfl ?_; try refine Wp.norm (L' := [_, _, _, _, _, _, _]) rfl ?_) | ((first | change (_ → _) ∧ (_ → _) | change vp_in _ _ ∧ _ | change ¬ _ ∧ _); simp (disch := omega) only [nI_clamp, nI_leI, nI_ltI, nI_eq, nI_1, nI_add, nI_not_neg, nI_is_pos, nI_m1, nI_z]) | refine brT (by first | assumption | decide | omega) ?_ | refine brF (by first | assumption | decide | omega) ?_ | refine brTn (by first | assumption | decide | omega) ?_ | refine brFn (by first | assumption | decide | omega) ?_ | refine And.intro (vp_in_nI (by omega) (by decide)) ?_ | refine And.intro (vp_lit (by decide)) ?_ | refine divJ (by decide) ?_ | refine divI (by decide) ?_)
              try change _ ∧ _
              first | done | rfl | (simp (disch := omega) only [nI_1, nI_add, nI_clamp] <;> first | done | rfl)
            | true =>
              rw [hB, bI_t] at r2
              have hbf : mB s C d k i = false := by
                unfold mB
                have h1 := nP_le (s := s) (C := C) d k i (show r + 1 ≤ zO s from hr)
                rw [hst, if_pos ⟨c1, c2, c3, hB⟩] at h1
                rw [decide_eq_false (by omega), Bool.and_false]
              have ih := no (r + 1) hr g2 (X.hx F2) hbf
              rw [e61] at ih
              show Wp 3 j_M_laysTurn _ _ _ _ _
              (refine W1 rfl ?_; try refine Wp.norm (L' := [_, _, _, _, _, _, _]) rfl ?_)
              repeat (first | (refine W1 rfl ?_; try refine Wp.norm (L' := [_, _, _, _, _, _, _]) rfl ?_) | ((first | change (_ → _) ∧ (_ → _) | change vp_in _ _ ∧ _ | change ¬ _ ∧ _); simp (disch := omega) only [nI_clamp, nI_leI, nI_ltI, nI_eq, nI_1, nI_add, nI_not_neg, nI_is_pos, nI_m1, nI_z, e90, e60, e97, e98, e99, i32_c1]) | refine brT (by first | assumption | decide | omega) ?_ | refine brF (by first | assumption | decide | omega) ?_ | refine brTn (by first | assumption | decide | omega) ?_ | refine brFn (by first | assumption | decide | omega) ?_ | refine And.intro (vp_in_nI (by omega) (by decide)) ?_ | refine And.intro (vp_lit (by decide)) ?_ | refine divJ (by decide) ?_ | refine divI (by decide) ?_)
              try change _ ∧ _
              refine Cl.of r2 (by decide) ?_
              show Wp 3 j_M_laysTurn _ _ _ _ _
              repeat (first | refine Wp.at ih rfl rfl ?_ rfl | (refine W1 rfl ?_; try refine Wp.norm (L' := [_, _, _, _, _, _, _]) rfl ?_) | ((first | change (_ → _) ∧ (_ → _) | change vp_in _ _ ∧ _ | change ¬ _ ∧ _); simp (disch := omega) only [nI_clamp, nI_leI, nI_ltI, nI_eq, nI_1, nI_add, nI_not_neg, nI_is_pos, nI_m1, nI_z]) | refine brT (by first | assumption | decide | omega) ?_ | refine brF (by first | assumption | decide | omega) ?_ | refine brTn (by first | assumption | decide | omega) ?_ | refine brFn (by first | assumption | decide | omega) ?_ | refine And.intro (vp_in_nI (by omega) (by decide)) ?_ | refine And.intro (vp_lit (by decide)) ?_ | refine divJ (by decide) ?_ | refine divI (by decide) ?_)
              try change _ ∧ _
              first | done | rfl | (simp (disch := omega) only [nI_1, nI_add, nI_clamp] <;> first | done | rfl)
          · have ih := ih g X hp (by rw [hst, if_neg (fun z => c1 ⟨z.1, z.2.1, z.2.2.1⟩), h0])
            rw [e61] at ih
            by_cases d1 : oS s r = 2
            · have e99 := e99 (by omega)
              rw [d1] at e97
              have e97 : g.1 97 (60 + r) = 2 := e97
              by_cases d2 : oA s r = i
              · have d3 : ¬ oB s r = k := fun z => c1 ⟨d1, d2, z⟩
                rw [d2] at e98
                show Wp 3 j_M_laysTurn _ _ _ _ _
                (refine W1 rfl ?_; try refine Wp.norm (L' := [_, _, _, _, _, _, _]) rfl ?_)
                repeat (first | refine Wp.at ih rfl rfl ?_ rfl | (refine W1 rfl ?_; try refine Wp.norm (L' := [_, _, _, _, _, _, _]) rfl ?_) | ((first | change (_ → _) ∧ (_ → _) | change vp_in _ _ ∧ _ | change ¬ _ ∧ _); simp (disch := omega) only [nI_clamp, nI_leI, nI_ltI, nI_eq, nI_1, nI_add, nI_not_neg, nI_is_pos, nI_m1, nI_z, e90, e60, e97, e98, e99, i32_c1]) | refine brT (by first | assumption | decide | omega) ?_ | refine brF (by first | assumption | decide | omega) ?_ | refine brTn (by first | assumption | decide | omega) ?_ | refine brFn (by first | assumption | decide | omega) ?_ | refine And.intro (vp_in_nI (by omega) (by decide)) ?_ | refine And.intro (vp_lit (by decide)) ?_ | refine divJ (by decide) ?_ | refine divI (by decide) ?_)
                try change _ ∧ _
                first | done | rfl | (simp (disch := omega) only [nI_1, nI_add, nI_clamp] <;> first | done | rfl)
              · show Wp 3 j_M_laysTurn _ _ _ _ _
                (refine W1 rfl ?_; try refine Wp.norm (L' := [_, _, _, _, _, _, _]) rfl ?_)
                repeat (first | refine Wp.at ih rfl rfl ?_ rfl | (refine W1 rfl ?_; try refine Wp.norm (L' := [_, _, _, _, _, _, _]) rfl ?_) | ((first | change (_ → _) ∧ (_ → _) | change vp_in _ _ ∧ _ | change ¬ _ ∧ _); simp (disch := omega) only [nI_clamp, nI_leI, nI_ltI, nI_eq, nI_1, nI_add, nI_not_neg, nI_is_pos, nI_m1, nI_z, e90, e60, e97, e98, e99, i32_c1]) | refine brT (by first | assumption | decide | omega) ?_ | refine brF (by first | assumption | decide | omega) ?_ | refine brTn (by first | assumption | decide | omega) ?_ | refine brFn (by first | assumption | decide | omega) ?_ | refine And.intro (vp_in_nI (by omega) (by decide)) ?_ | refine And.intro (vp_lit (by decide)) ?_ | refine divJ (by decide) ?_ | refine divI (by decide) ?_)
                try change _ ∧ _
                first | done | rfl | (simp (disch := omega) only [nI_1, nI_add, nI_clamp] <;> first | done | rfl)
            · have n2 : ¬ nI (oS s r) = 2 := by rw [show (2 : Int32) = nI 2 from rfl, nI_eq (by omega) (by decide)]; exact d1
              show Wp 3 j_M_laysTurn _ _ _ _ _
              (refine W1 rfl ?_; try refine Wp.norm (L' := [_, _, _, _, _, _, _]) rfl ?_)
              repeat (first | refine Wp.at ih rfl rfl ?_ rfl | (refine W1 rfl ?_; try refine Wp.norm (L' := [_, _, _, _, _, _, _]) rfl ?_) | ((first | change (_ → _) ∧ (_ → _) | change vp_in _ _ ∧ _ | change ¬ _ ∧ _); simp (disch := omega) only [nI_clamp, nI_leI, nI_ltI, nI_eq, nI_1, nI_add, nI_not_neg, nI_is_pos, nI_m1, nI_z, e90, e60, e97, i32_c1]) | refine brT (by first | assumption | decide | omega) ?_ | refine brF (by first | assumption | decide | omega) ?_ | refine brTn (by first | assumption | decide | omega) ?_ | refine brFn (by first | assumption | decide | omega) ?_ | refine And.intro (vp_in_nI (by omega) (by decide)) ?_ | refine And.intro (vp_lit (by decide)) ?_ | refine divJ (by decide) ?_ | refine divI (by decide) ?_)
              try change _ ∧ _
              first | done | rfl | (simp (disch := omega) only [nI_1, nI_add, nI_clamp] <;> first | done | rfl)
      have Hg := H.ly X.1
      have e88 := Hg.1.2.1
      obtain ⟨e93, e94⟩ := Hg.2.1 i hi
      have b := j.1.2.2.1 i hi
      have ri := r_M_isIn g (nI d).toInt64 (nI (s 24 i)).toInt64 (nI (s 25 i)).toInt64
      have hlin := lin (a := d) (l := s 24 i) (u := s 25 i) (by omega) (by omega) (by omega)
      have e16 : (16 : Int32) + nI i = nI (16 + i) := by rw [show (16 : Int32) = nI 16 from rfl, nI_add]
      by_cases c : s 24 i ≤ d ∧ d ≤ s 25 i
      · rw [if_pos (hlin.mpr c)] at ri
        have ih := yes 0 (Nat.zero_le _) g X (decide_eq_true c) rfl
        have ih : Wp 3 j_M_laysTurn 98 [.ref 65, .int (nI d), .int (nI k), .int (nI n), .int (nI i), .int 1, .int 60] [] g QQ := ih
        show Wp 3 j_M_laysTurn _ _ _ _ _
        (refine W1 rfl ?_; try refine Wp.norm (L' := [_, _, _, _, _, _, _]) rfl ?_)
        repeat (first | (refine W1 rfl ?_; try refine Wp.norm (L' := [_, _, _, _, _, _, _]) rfl ?_) | ((first | change (_ → _) ∧ (_ → _) | change vp_in _ _ ∧ _ | change ¬ _ ∧ _); simp (disch := omega) only [nI_clamp, nI_leI, nI_ltI, nI_eq, nI_1, nI_add, nI_not_neg, nI_is_pos, nI_m1, nI_z, e88, e16, e93, e94, i32_c1]) | refine brT (by first | assumption | decide | omega) ?_ | refine brF (by first | assumption | decide | omega) ?_ | refine brTn (by first | assumption | decide | omega) ?_ | refine brFn (by first | assumption | decide | omega) ?_ | refine And.intro (vp_in_nI (by omega) (by decide)) ?_ | refine And.intro (vp_lit (by decide)) ?_ | refine divJ (by decide) ?_ | refine divI (by decide) ?_)
        try change _ ∧ _
        refine Cl.ofA ri (by first | done | rfl | (simp (disch := omega) only [nI_1, nI_add, nI_clamp, e93, e94, e16] <;> first | done | rfl)) (by decide) ?_
        show Wp 3 j_M_laysTurn _ _ _ _ _
        repeat (first | refine Wp.at ih rfl rfl ?_ rfl | (refine W1 rfl ?_; try refine Wp.norm (L' := [_, _, _, _, _, _, _]) rfl ?_) | ((first | change (_ → _) ∧ (_ → _) | change vp_in _ _ ∧ _ | change ¬ _ ∧ _); simp (disch := omega) only [nI_clamp, nI_leI, nI_ltI, nI_eq, nI_1, nI_add, nI_not_neg, nI_is_pos, nI_m1, nI_z]) | refine brT (by first | assumption | decide | omega) ?_ | refine brF (by first | assumption | decide | omega) ?_ | refine brTn (by first | assumption | decide | omega) ?_ | refine brFn (by first | assumption | decide | omega) ?_ | refine And.intro (vp_in_nI (by omega) (by decide)) ?_ | refine And.intro (vp_lit (by decide)) ?_ | refine divJ (by decide) ?_ | refine divI (by decide) ?_)
        try change _ ∧ _
        first | done | rfl | (simp (disch := omega) only [nI_1, nI_add, nI_clamp] <;> first | done | rfl)
      · rw [if_neg (fun z => c (hlin.mp z))] at ri
        have hbf : mB s C d k i = false := by
          unfold mB presB
          rw [decide_eq_false c, Bool.false_and]
        have ih := no 0 (Nat.zero_le _) g X hbf
        have ih : Wp 3 j_M_laysTurn 98 [.ref 65, .int (nI d), .int (nI k), .int (nI n), .int (nI i), .int 0, .int 60] [] g QQ := ih
        show Wp 3 j_M_laysTurn _ _ _ _ _
        (refine W1 rfl ?_; try refine Wp.norm (L' := [_, _, _, _, _, _, _]) rfl ?_)
        repeat (first | (refine W1 rfl ?_; try refine Wp.norm (L' := [_, _, _, _, _, _, _]) rfl ?_) | ((first | change (_ → _) ∧ (_ → _) | change vp_in _ _ ∧ _ | change ¬ _ ∧ _); simp (disch := omega) only [nI_clamp, nI_leI, nI_ltI, nI_eq, nI_1, nI_add, nI_not_neg, nI_is_pos, nI_m1, nI_z, e88, e16, e93, e94, i32_c1]) | refine brT (by first | assumption | decide | omega) ?_ | refine brF (by first | assumption | decide | omega) ?_ | refine brTn (by first | assumption | decide | omega) ?_ | refine brFn (by first | assumption | decide | omega) ?_ | refine And.intro (vp_in_nI (by omega) (by decide)) ?_ | refine And.intro (vp_lit (by decide)) ?_ | refine divJ (by decide) ?_ | refine divI (by decide) ?_)
        try change _ ∧ _
        refine Cl.ofA ri (by first | done | rfl | (simp (disch := omega) only [nI_1, nI_add, nI_clamp, e93, e94, e16] <;> first | done | rfl)) (by decide) ?_
        show Wp 3 j_M_laysTurn _ _ _ _ _
        repeat (first | refine Wp.at ih rfl rfl ?_ rfl | (refine W1 rfl ?_; try refine Wp.norm (L' := [_, _, _, _, _, _, _]) rfl ?_) | ((first | change (_ → _) ∧ (_ → _) | change vp_in _ _ ∧ _ | change ¬ _ ∧ _); simp (disch := omega) only [nI_clamp, nI_leI, nI_ltI, nI_eq, nI_1, nI_add, nI_not_neg, nI_is_pos, nI_m1, nI_z]) | refine brT (by first | assumption | decide | omega) ?_ | refine brF (by first | assumption | decide | omega) ?_ | refine brTn (by first | assumption | decide | omega) ?_ | refine brFn (by first | assumption | decide | omega) ?_ | refine And.intro (vp_in_nI (by omega) (by decide)) ?_ | refine And.intro (vp_lit (by decide)) ?_ | refine divJ (by decide) ?_ | refine divI (by decide) ?_)
        try change _ ∧ _
        first | done | rfl | (simp (disch := omega) only [nI_1, nI_add, nI_clamp] <;> first | done | rfl)
  have X0 : LT s C L d k n h 0 (wI (wI (wI (wI (wI (wI h 106 n (nI d)) 107 n (nI k)) 108 n (nI (cnt (fun u => (gL L u).2 = k) n))) 110 n (-1)) 111 n (-1)) 109 n 0) := by
    refine ⟨((((((LY.rfl h).w (by decide)).w (by decide)).w (by decide)).w (by decide)).w (by decide)).w (by decide), eT, fun t ht => ?_, ?_, fun q hq => ?_⟩
    · have : t ≠ n := by omega
      simp [wI, va_up, upd, this]
    · simp [wI, va_up, upd]
    · rw [wI_same, bt_zero]; simp
  have ih := persons 0 (Nat.zero_le _) _ .null .null X0
  show Wp 3 j_M_laysTurn 0 [.ref 65, .int (nI d), .int (nI k), .null, .null, .null, .null] [] h QQ
  repeat (first | (refine W1 rfl ?_; try refine Wp.norm (L' := [_, _, _, _, _, _, _]) rfl ?_) | ((first | change (_ → _) ∧ (_ → _) | change vp_in _ _ ∧ _ | change ¬ _ ∧ _); simp (disch := omega) only [nI_clamp, nI_leI, nI_ltI, nI_eq, nI_1, nI_add, nI_not_neg, nI_is_pos, nI_m1, nI_z, eT]) | refine brT (by first | assumption | decide | omega) ?_ | refine brF (by first | assumption | decide | omega) ?_ | refine brTn (by first | assumption | decide | omega) ?_ | refine brFn (by first | assumption | decide | omega) ?_ | refine And.intro (vp_in_nI (by omega) (by decide)) ?_ | refine And.intro (vp_lit (by decide)) ?_ | refine divJ (by decide) ?_ | refine divI (by decide) ?_)
  try change _ ∧ _
  refine Cl.of rt (by decide) ?_
  show Wp 3 j_M_laysTurn _ _ _ _ _
  repeat (first | refine Wp.at ih rfl rfl ?_ rfl | (refine W1 rfl ?_; try refine Wp.norm (L' := [_, _, _, _, _, _, _]) rfl ?_) | ((first | change (_ → _) ∧ (_ → _) | change vp_in _ _ ∧ _ | change ¬ _ ∧ _); simp (disch := omega) only [nI_clamp, nI_leI, nI_ltI, nI_eq, nI_1, nI_add, nI_not_neg, nI_is_pos, nI_m1, nI_z, eT]) | refine brT (by first | assumption | decide | omega) ?_ | refine brF (by first | assumption | decide | omega) ?_ | refine brTn (by first | assumption | decide | omega) ?_ | refine brFn (by first | assumption | decide | omega) ?_ | refine And.intro (vp_in_nI (by omega) (by decide)) ?_ | refine And.intro (vp_lit (by decide)) ?_ | refine divJ (by decide) ?_ | refine divI (by decide) ?_)
  try change _ ∧ _
  first | done | rfl | (simp (disch := omega) only [nI_1, nI_add, nI_clamp, eT] <;> first | done | rfl)
end MLY
