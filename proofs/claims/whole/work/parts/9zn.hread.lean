/-! ===== A TEXT IS READ: class and model ===== -/
abbrev xS : PS := (7, 0, [], 0, [], st0)
def tot (s : ST) (C : List Nat) : Nat := sm (fun d => rC s C d (zO s)) (zD s)
def RDO (b : Nat → Nat) (n f p : Nat) : Prop := qGo b n xS (flt f p) ∨ (f = 6 ∧ p = n ∧ ∃ i C s, qGo b n xS (8, i, [], 0, C, s) ∧ 200 < tot s C)
def RDG (b : Nat → Nat) (n : Nat) (s : ST) (C : List Nat) : Prop := ∃ i, qGo b n xS (8, i, [], 0, C, s) ∧ tot s C ≤ 200
theorem tot_le {s : ST} {C : List Nat} (j : J s C) : tot s C ≤ 12000 := by
  have h1 := rT_le s C (zO s) (zD s)
  have hO := j.1.1.1.1.2.2.2.1
  have hD := j.1.1.1.1.2.2.2.2.2.2
  have h2 : zD s * zO s ≤ 200 * 60 := Nat.mul_le_mul hD hO
  unfold tot
  omega
section HRD
variable {b : Nat → Nat} {n : Nat} {h h' : HP}
theorem c_start (K : TK b n h) (hb : ∀ k, k < n → b k < 256) (e : (h.1 17 4 = 0 ∧ h.1 17 5 = 0 ∧ h.1 17 6 = 0 ∧ h.1 17 7 = -1) ∧ (h.1 18 0 = 28 ∧ h.1 18 1 = 0 ∧ h.1 18 2 = 0 ∧ h.1 18 3 = 0 ∧ h.1 18 4 = 0) ∧ (∀ i, i < 16 → h.1 23 i = 0 ∧ h.1 24 i = 0) ∧ (∀ i, i < 36 → h.1 27 i = 0) ∧ h.1 28 1 = 0 ∧ h.1 28 2 = 0) : CS b n 0 st0 [] 0 h := by
  obtain ⟨e1, ⟨e2, e3, e4, e5, e6⟩, e7, e8, e9, e10⟩ := e
  exact ⟨K, fun k hk => absurd hk (Nat.not_lt_zero _), e1, ⟨⟨e2, e3, e4, e5, e6, e10⟩, fun p hp => absurd hp (Nat.not_lt_zero _), e7, fun p hp => absurd hp (Nat.not_lt_zero _), e8, fun x hx => absurd hx (Nat.not_lt_zero _)⟩, ⟨Nat.zero_le _, e9, fun k hk => absurd hk (Nat.not_lt_zero _)⟩, J_0.1.1.1, hb⟩
theorem c_readHouse (K : TK b n h) (hb : ∀ k, k < n → b k < 256) (hn : n ≤ 900) : ∃ w h', Run 33 j_Reader_readHouse [.ref 17, .int (nI n)] h w h' ∧ (onlyJ rdL [] h h' ∧ ((w = some (.int 0) ∧ ∃ f p, h'.1 17 6 = nI f ∧ h'.1 17 7 = nI p ∧ (0 < f ∧ f < 10) ∧ RDO b n f p) ∨ (w = some (.int 1) ∧ h'.1 17 6 = 0 ∧ h'.1 17 7 = -1 ∧ ∃ s C, RDG b n s C ∧ DC s h' ∧ TRp (pr s (s 0 7) 0) s C h'))) := by
  refine Run.ofP rfl ?_
  refine Wp.norm (L' := [_, _, _]) rfl ?_
  generalize hQQ : (fun (w : Option Value) (h' : HP) => onlyJ rdL [] h h' ∧ ((w = some (.int 0) ∧ ∃ f p, h'.1 17 6 = nI f ∧ h'.1 17 7 = nI p ∧ (0 < f ∧ f < 10) ∧ RDO b n f p) ∨ (w = some (.int 1) ∧ h'.1 17 6 = 0 ∧ h'.1 17 7 = -1 ∧ ∃ s C, RDG b n s C ∧ DC s h' ∧ TRp (pr s (s 0 7) 0) s C h'))) = QQ
  let g0 : HP := wI (wI (wI (wI h 17 4 0) 17 5 0) 17 6 0) 17 7 (-1)
  have O0 : onlyJ rdL [] h g0 := o17 (o17 (o17 (o17 (onlyJ.rfl _ _ h))))
  obtain ⟨h1, r1, O1, a1, a2, a3⟩ := c_clear g0
  have r2 := c_clearT h1
  have O1' : onlyJ rdL [] g0 h1 := O1.mono (fun k hk => by simp at hk; rcases hk with rfl | rfl | rfl | rfl <;> decide) (fun k hk => hk)
  have O2 : onlyJ rdL [] h (wI (wI h1 28 1 0) 28 2 0) := ((O0.trans O1').addI (by decide)).addI (by decide)
  have e17 : ∀ i, h1.1 17 i = g0.1 17 i := fun i => O1.1 17 i (by decide)
  have X : CS b n 0 st0 [] 0 (wI (wI h1 28 1 0) 28 2 0) := c_start (K.o O2 (fun k hk => by simp at hk; rcases hk with rfl | rfl | rfl | rfl <;> decide)) hb ⟨⟨e17 4, e17 5, e17 6, e17 7⟩, a1, a2, a3, rfl, rfl⟩
  have tail0 : ∀ f p g w, g.1 17 6 = nI f → g.1 17 7 = nI p → (0 < f ∧ f < 10) → onlyJ rdL [] h g → RDO b n f p → Wp 33 j_Reader_readHouse 274 [.ref 17, .int (nI n), w] [] g QQ := by
    intro f p g w e1 e2 hf O R
    have hne : ¬ g.1 17 6 = 0 := by rw [e1, nI_z (by omega)]; omega
    show Wp 33 j_Reader_readHouse _ _ _ _ _
    repeat (first | (refine W1 rfl ?_; try refine Wp.norm (L' := [_, _, _]) rfl ?_) | ((first | change (_ → _) ∧ (_ → _) | change vp_in _ _ ∧ _ | change ¬ _ ∧ _); simp (disch := omega) only [nI_clamp, nI_leI, nI_ltI, nI_eq, nI_1, nI_add, nI_not_neg, nI_is_pos, nI_m1, nI_z]) | refine brT (by first | assumption | decide | omega) ?_ | refine brF (by first | assumption | decide | omega) ?_ | refine brTn (by first | assumption | decide | omega) ?_ | refine brFn (by first | assumption | decide | omega) ?_ | refine And.intro (vp_in_nI (by omega) (by decide)) ?_ | refine And.intro (vp_lit (by decide)) ?_ | refine divJ (by decide) ?_ | refine divI (by decide) ?_)
    try change _ ∧ _
    rw [← hQQ]
    exact ⟨Or.inl rfl, O, Or.inl ⟨rfl, f, p, e1, e2, hf, R⟩⟩
  have ih := c_house (b := b) (n := n) (d := 33) (len := nI n) (h0 := h) (x0 := xS) (Q := QQ) (by decide) (fun f p g w Y O go => by
    have hne := Y.ne
    have ih := tail0 f p g w Y.2.1 Y.2.2.2.1 Y.2.2.1 O (Or.inl go)
    show Wp 33 j_Reader_readHouse _ _ _ _ _
    repeat (first | refine Wp.at ih rfl rfl ?_ rfl | (refine W1 rfl ?_; try refine Wp.norm (L' := [_, _, _]) rfl ?_) | ((first | change (_ → _) ∧ (_ → _) | change vp_in _ _ ∧ _ | change ¬ _ ∧ _); simp (disch := omega) only [nI_clamp, nI_leI, nI_ltI, nI_eq, nI_1, nI_add, nI_not_neg, nI_is_pos, nI_m1, nI_z]) | refine brT (by first | assumption | decide | omega) ?_ | refine brF (by first | assumption | decide | omega) ?_ | refine brTn (by first | assumption | decide | omega) ?_ | refine brFn (by first | assumption | decide | omega) ?_ | refine And.intro (vp_in_nI (by omega) (by decide)) ?_ | refine And.intro (vp_lit (by decide)) ?_ | refine divJ (by decide) ?_ | refine divI (by decide) ?_)
    try change _ ∧ _
    first | done | rfl | (simp (disch := omega) only [nI_1, nI_add, nI_clamp] <;> first | done | rfl)) (fun i C s g w Y hl ht O go => by
    have hJ := J_go hb (Or.inr rfl) go
    have f0 := Y.f0
    have f7 : g.1 17 7 = -1 := Y.2.2.1.2.2.2
    have e180 := Y.D.1.1
    obtain ⟨w2, g2, r2, rfl, O2, T2⟩ := c_tryAll Y.D Y.cc hJ
    have O2' : onlyJ rdL [] h g2 := O.trans (O2.mono (fun k hk => by simp at hk; rcases hk with rfl | rfl <;> decide) (fun k hk => hk))
    rw [cnt_turns hJ] at r2
    have t12 := tot_le hJ
    have f2 : g2.1 17 6 = 0 := by rw [O2.1 17 6 (by decide)]; exact f0
    have f3 : g2.1 17 7 = -1 := by rw [O2.1 17 7 (by decide)]; exact f7
    have D2 := Y.D.o O2 (fun k hk => by simp at hk; omega)
    have hto : tot s C = sm (fun d => rC s C d (zO s)) (zD s) := rfl
    rw [← hto] at r2
    by_cases c : tot s C ≤ 200
    · show Wp 33 j_Reader_readHouse _ _ _ _ _
      repeat (first | (refine W1 rfl ?_; try refine Wp.norm (L' := [_, _, _]) rfl ?_) | ((first | change (_ → _) ∧ (_ → _) | change vp_in _ _ ∧ _ | change ¬ _ ∧ _); simp (disch := omega) only [nI_clamp, nI_leI, nI_ltI, nI_eq, nI_1, nI_add, nI_not_neg, nI_is_pos, nI_m1, nI_z, f0, e180]) | refine brT (by first | assumption | decide | omega) ?_ | refine brF (by first | assumption | decide | omega) ?_ | refine brTn (by first | assumption | decide | omega) ?_ | refine brFn (by first | assumption | decide | omega) ?_ | refine And.intro (vp_in_nI (by omega) (by decide)) ?_ | refine And.intro (vp_lit (by decide)) ?_ | refine divJ (by decide) ?_ | refine divI (by decide) ?_)
      try change _ ∧ _
      refine Cl.ofA r2 (by first | done | rfl | (simp (disch := omega) only [nI_1, nI_add, nI_clamp, e180] <;> first | done | rfl)) (by decide) ?_
      show Wp 33 j_Reader_readHouse _ _ _ _ _
      repeat (first | (refine W1 rfl ?_; try refine Wp.norm (L' := [_, _, _]) rfl ?_) | ((first | change (_ → _) ∧ (_ → _) | change vp_in _ _ ∧ _ | change ¬ _ ∧ _); simp (disch := omega) only [nI_clamp, nI_leI, nI_ltI, nI_eq, nI_1, nI_add, nI_not_neg, nI_is_pos, nI_m1, nI_z, show (200 : Int32) = nI 200 from rfl, f2]) | refine brT (by first | assumption | decide | omega) ?_ | refine brF (by first | assumption | decide | omega) ?_ | refine brTn (by first | assumption | decide | omega) ?_ | refine brFn (by first | assumption | decide | omega) ?_ | refine And.intro (vp_in_nI (by omega) (by decide)) ?_ | refine And.intro (vp_lit (by decide)) ?_ | refine divJ (by decide) ?_ | refine divI (by decide) ?_)
      try change _ ∧ _
      rw [← hQQ]
      exact ⟨Or.inr rfl, O2', Or.inr ⟨rfl, f2, f3, s, C, ⟨i, go, c⟩, D2, T2⟩⟩
    · have rf := r_fail0 (h := g2) (nI 6) (nI n) f2
      have ih := tail0 6 n (wI (wI g2 17 6 (nI 6)) 17 7 (nI n)) w rfl rfl (by decide) (o17 (o17 O2')) (Or.inr ⟨rfl, rfl, i, C, s, go, by omega⟩)
      show Wp 33 j_Reader_readHouse _ _ _ _ _
      repeat (first | (refine W1 rfl ?_; try refine Wp.norm (L' := [_, _, _]) rfl ?_) | ((first | change (_ → _) ∧ (_ → _) | change vp_in _ _ ∧ _ | change ¬ _ ∧ _); simp (disch := omega) only [nI_clamp, nI_leI, nI_ltI, nI_eq, nI_1, nI_add, nI_not_neg, nI_is_pos, nI_m1, nI_z, f0, e180]) | refine brT (by first | assumption | decide | omega) ?_ | refine brF (by first | assumption | decide | omega) ?_ | refine brTn (by first | assumption | decide | omega) ?_ | refine brFn (by first | assumption | decide | omega) ?_ | refine And.intro (vp_in_nI (by omega) (by decide)) ?_ | refine And.intro (vp_lit (by decide)) ?_ | refine divJ (by decide) ?_ | refine divI (by decide) ?_)
      try change _ ∧ _
      refine Cl.ofA r2 (by first | done | rfl | (simp (disch := omega) only [nI_1, nI_add, nI_clamp, e180] <;> first | done | rfl)) (by decide) ?_
      show Wp 33 j_Reader_readHouse _ _ _ _ _
      repeat (first | (refine W1 rfl ?_; try refine Wp.norm (L' := [_, _, _]) rfl ?_) | ((first | change (_ → _) ∧ (_ → _) | change vp_in _ _ ∧ _ | change ¬ _ ∧ _); simp (disch := omega) only [nI_clamp, nI_leI, nI_ltI, nI_eq, nI_1, nI_add, nI_not_neg, nI_is_pos, nI_m1, nI_z, show (200 : Int32) = nI 200 from rfl]) | refine brT (by first | assumption | decide | omega) ?_ | refine brF (by first | assumption | decide | omega) ?_ | refine brTn (by first | assumption | decide | omega) ?_ | refine brFn (by first | assumption | decide | omega) ?_ | refine And.intro (vp_in_nI (by omega) (by decide)) ?_ | refine And.intro (vp_lit (by decide)) ?_ | refine divJ (by decide) ?_ | refine divI (by decide) ?_)
      try change _ ∧ _
      refine Cl.of rf (by decide) ?_
      show Wp 33 j_Reader_readHouse _ _ _ _ _
      repeat (first | refine Wp.at ih rfl rfl ?_ rfl | (refine W1 rfl ?_; try refine Wp.norm (L' := [_, _, _]) rfl ?_) | ((first | change (_ → _) ∧ (_ → _) | change vp_in _ _ ∧ _ | change ¬ _ ∧ _); simp (disch := omega) only [nI_clamp, nI_leI, nI_ltI, nI_eq, nI_1, nI_add, nI_not_neg, nI_is_pos, nI_m1, nI_z]) | refine brT (by first | assumption | decide | omega) ?_ | refine brF (by first | assumption | decide | omega) ?_ | refine brTn (by first | assumption | decide | omega) ?_ | refine brFn (by first | assumption | decide | omega) ?_ | refine And.intro (vp_in_nI (by omega) (by decide)) ?_ | refine And.intro (vp_lit (by decide)) ?_ | refine divJ (by decide) ?_ | refine divI (by decide) ?_)
      try change _ ∧ _
      first | done | rfl | (simp (disch := omega) only [nI_1, nI_add, nI_clamp] <;> first | done | rfl)) 901 0 [] st0 (wI (wI h1 28 1 0) 28 2 0) 0 (by omega) X (Nat.le_refl _) O2 (qGo.rfl _) (Nat.le_refl _)
  have ih : Wp 33 j_Reader_readHouse 36 [.ref 17, .int (nI n), .int 0] [] (wI (wI h1 28 1 0) 28 2 0) QQ := ih
  show Wp 33 j_Reader_readHouse _ _ _ _ _
  repeat (first | (refine W1 rfl ?_; try refine Wp.norm (L' := [_, _, _]) rfl ?_) | ((first | change (_ → _) ∧ (_ → _) | change vp_in _ _ ∧ _ | change ¬ _ ∧ _); simp (disch := omega) only [nI_clamp, nI_leI, nI_ltI, nI_eq, nI_1, nI_add, nI_not_neg, nI_is_pos, nI_m1, nI_z]) | refine brT (by first | assumption | decide | omega) ?_ | refine brF (by first | assumption | decide | omega) ?_ | refine brTn (by first | assumption | decide | omega) ?_ | refine brFn (by first | assumption | decide | omega) ?_ | refine And.intro (vp_in_nI (by omega) (by decide)) ?_ | refine And.intro (vp_lit (by decide)) ?_ | refine divJ (by decide) ?_ | refine divI (by decide) ?_)
  try change _ ∧ _
  refine Cl.of r1 (by decide) ?_
  show Wp 33 j_Reader_readHouse _ _ _ _ _
  repeat (first | (refine W1 rfl ?_; try refine Wp.norm (L' := [_, _, _]) rfl ?_) | ((first | change (_ → _) ∧ (_ → _) | change vp_in _ _ ∧ _ | change ¬ _ ∧ _); simp (disch := omega) only [nI_clamp, nI_leI, nI_ltI, nI_eq, nI_1, nI_add, nI_not_neg, nI_is_pos, nI_m1, nI_z]) | refine brT (by first | assumption | decide | omega) ?_ | refine brF (by first | assumption | decide | omega) ?_ | refine brTn (by first | assumption | decide | omega) ?_ | refine brFn (by first | assumption | decide | omega) ?_ | refine And.intro (vp_in_nI (by omega) (by decide)) ?_ | refine And.intro (vp_lit (by decide)) ?_ | refine divJ (by decide) ?_ | refine divI (by decide) ?_)
  try change _ ∧ _
  refine Cl.of r2 (by decide) ?_
  show Wp 33 j_Reader_readHouse _ _ _ _ _
  repeat (first | refine Wp.at ih rfl rfl ?_ rfl | (refine W1 rfl ?_; try refine Wp.norm (L' := [_, _, _]) rfl ?_) | ((first | change (_ → _) ∧ (_ → _) | change vp_in _ _ ∧ _ | change ¬ _ ∧ _); simp (disch := omega) only [nI_clamp, nI_leI, nI_ltI, nI_eq, nI_1, nI_add, nI_not_neg, nI_is_pos, nI_m1, nI_z]) | refine brT (by first | assumption | decide | omega) ?_ | refine brF (by first | assumption | decide | omega) ?_ | refine brTn (by first | assumption | decide | omega) ?_ | refine brFn (by first | assumption | decide | omega) ?_ | refine And.intro (vp_in_nI (by omega) (by decide)) ?_ | refine And.intro (vp_lit (by decide)) ?_ | refine divJ (by decide) ?_ | refine divI (by decide) ?_)
  try change _ ∧ _
  first | done | rfl | (simp (disch := omega) only [nI_1, nI_add, nI_clamp] <;> first | done | rfl)
end HRD
