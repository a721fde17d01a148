/-! ===== THE MODEL TAKES WORDS AND SIGNS ===== -/
def lxL : List Nat := [2, 4, 5, 6, 9, 30]
def LX (h h' : HP) : Prop := onlyJ [65] [] h h' ∧ ∀ i, ¬ i ∈ lxL → h'.1 65 i = h.1 65 i
theorem LX.rfl (h : HP) : LX h h := ⟨onlyJ.rfl _ _ h, fun _ _ => Eq.refl _⟩
theorem LX.trans {a b c : HP} (h1 : LX a b) (h2 : LX b c) : LX a c := ⟨h1.1.trans h2.1, fun i hi => (h2.2 i hi).trans (h1.2 i hi)⟩
theorem LX.a {h h' : HP} {i : Nat} {x : Int32} (F : LX h h') (hi : i ∈ lxL) : LX h (wI h' 65 i x) := ⟨F.1.addI (by decide), fun j hj => by rw [wI_ne2 _ _ (fun e => hj (by rw [e]; exact hi))]; exact F.2 j hj⟩
def LF (f p : Nat) (h : HP) : Prop := h.1 65 5 = nI f ∧ (0 < f ∧ f < 10) ∧ h.1 65 6 = nI p
def LZ (b : Nat → Nat) (n : Nat) (o : FO) (i : Nat) (h : HP) : Prop := match o with
  | none => ML b n i h
  | some (f, p) => LF f p h
section MLX2
variable {b : Nat → Nat} {n i : Nat} {h h' : HP}
theorem LF.ne {f p : Nat} (S : LF f p h) : ¬ h.1 65 5 = 0 := by
  rw [S.1, nI_z (by have := S.2.1; omega)]
  have := S.2.1
  omega
theorem LZ.c {o : FO} (X : LZ b n o i h) (ho : o = none) : ML b n i h := by subst ho; exact X
theorem lf_mk {f p : Nat} (hf : 0 < f ∧ f < 10) : LF f p (wI (wI h 65 5 (nI f)) 65 6 (nI p)) := ⟨rfl, hf, rfl⟩
/-- a word or number is gone over -/
theorem ML.nw (M : ML b n i h) (hp : ps b n i < n) (hw : wnB b (ps b n i) = true) {h' : HP} (F : LX h h') (e2 : h'.1 65 2 = nI (te b n (ps b n i))) (e4 : h'.1 65 4 = nI (te b n (ps b n i))) (e5 : h'.1 65 5 = 0) (e6 : h'.1 65 6 = -1) : ML b n (i + 1) h' := by
  obtain ⟨T, A, E, hi, f0, w⟩ := M
  have htl := te_le (b := b) hp
  refine ⟨⟨T.1, ?_, fun k hk => ?_⟩, ⟨_, e2, htl, (ps_s hp).symm⟩, ME_nx hp hw e4 T.1, hi_s hi hp, ⟨e5, e6⟩, ?_⟩
  · rw [F.2 3 (by decide)]; exact T.2.1
  · rw [F.1.1 66 k (by decide)]; exact T.2.2 k hk
  · intro q hq j hj
    rw [F.1.1 (67 + q) j (by simp; omega)]
    exact w q hq j hj
theorem ML.sg (M : ML b n i h) (hp : ps b n i < n) (hw : wnB b (ps b n i) = false) : ML b n (i + 1) (wI h 65 2 (nI (ps b n i + 1))) := by
  obtain ⟨T, A, E, hi, f0, w⟩ := M
  have ete := sg_te (n := n) hw
  have hm := ps_mono (b := b) hp
  have hle := ps_le (b := b) (n := n) (i + 1)
  have hn := T.1
  refine ⟨T.a (by decide), ⟨_, rfl, by omega, ?_⟩, ?_, hi_s hi hp, f0, w.w65⟩
  · rw [ps_s hp, ete]
  · have hj : jn b n (i + 1) = false := by
      show (decide (ps b n i < n) && wnB b (ps b n i) && decide (ps b n (i + 1) = te b n (ps b n i))) = false
      rw [hw]; simp
    have e4 : (wI h 65 2 (nI (ps b n i + 1))).1 65 4 = h.1 65 4 := rfl
    unfold ME
    rw [e4, hj]
    refine ⟨?_, fun z => ?_, fun z => by cases z⟩
    · rcases E.1 with z | ⟨k, z1, z2⟩
      · exact Or.inl z
      · exact Or.inr ⟨k, by omega, z2⟩
    · exfalso
      rcases E.1 with y | ⟨k, z1, z2⟩
      · rw [y] at z; exact (nI_m1' (by omega)).mp z
      · rw [z2, nI_eq (by omega) (by omega)] at z; omega
theorem m_takes {q : Nat} (hq : q < 20) (M : ML b n i h) : ∃ h', Run 2 j_M_takes [.ref 65, .ref (67 + q)] h (some (.int (bI (decide (owV b n i = q))))) h' ∧ LX h h' ∧ (owV b n i = q → ML b n (i + 1) h') ∧ (owV b n i ≠ q → ML b n i h' ∧ h'.1 65 2 = nI (ps b n i)) := by
  have r := r_isHere hq M
  have hsh := sh_w q hq
  have M2 := M.lk
  have hT := M.T.1
  by_cases c : owV b n i = q
  · rw [decide_eq_true c, bI_t] at r
    obtain ⟨hp, hl, hj, hw⟩ := (ow_iff hq).mp c
    have hwn : wnB b (ps b n i) = true := by unfold wnB; rw [hl]; rfl
    have elen : (ow q).length = te b n (ps b n i) - ps b n i := by rw [← hw]; exact wd_len _ _
    have htg := te_gt (b := b) hp
    have htl := te_le (b := b) hp
    have F : LX h (wI (wI (wI h 65 2 (nI (ps b n i))) 65 2 (nI (te b n (ps b n i)))) 65 4 (nI (te b n (ps b n i)))) := (((LX.rfl h).a (by decide)).a (by decide)).a (by decide)
    refine ⟨_, ?_, F, fun _ => M.nw hp hwn F rfl rfl M.f0 M.e6, fun z => absurd c z⟩
    rw [decide_eq_true c, bI_t]
    show Run 2 j_M_takes _ _ _ _
    have e2 : (wI h 65 2 (nI (ps b n i))).1 65 2 + Int32.ofNat (ow q).length = nI (te b n (ps b n i)) := by
      show nI (ps b n i) + nI (ow q).length = _
      rw [nI_add, elen, Nat.add_sub_cancel' (by omega)]
    refine Run.of rfl ?_
    refine Wp.norm (L' := [_, _]) rfl ?_
    repeat (first | (refine W1 rfl ?_; try refine Wp.norm (L' := [_, _]) rfl ?_) | ((first | change (_ → _) ∧ (_ → _) | change vp_in _ _ ∧ _ | change ¬ _ ∧ _); simp (disch := omega) only [nI_clamp, nI_leI, nI_ltI, nI_eq, nI_1, nI_add, nI_not_neg, nI_is_pos, nI_m1, nI_z]) | refine brT (by first | assumption | decide | omega) ?_ | refine brF (by first | assumption | decide | omega) ?_ | refine brTn (by first | assumption | decide | omega) ?_ | refine brFn (by first | assumption | decide | omega) ?_ | refine And.intro (vp_in_nI (by omega) (by decide)) ?_ | refine And.intro (vp_lit (by decide)) ?_ | refine divJ (by decide) ?_ | refine divI (by decide) ?_)
    try change _ ∧ _
    refine Cl.of r (by decide) ?_
    repeat (first | (refine W1 rfl ?_; try refine Wp.norm (L' := [_, _]) rfl ?_) | ((first | change (_ → _) ∧ (_ → _) | change vp_in _ _ ∧ _ | change ¬ _ ∧ _); simp (disch := omega) only [nI_clamp, nI_leI, nI_ltI, nI_eq, nI_1, nI_add, nI_not_neg, nI_is_pos, nI_m1, nI_z]) | refine brT (by first | assumption | decide | omega) ?_ | refine brF (by first | assumption | decide | omega) ?_ | refine brTn (by first | assumption | decide | omega) ?_ | refine brFn (by first | assumption | decide | omega) ?_ | refine And.intro (vp_in_nI (by omega) (by decide)) ?_ | refine And.intro (vp_lit (by decide)) ?_ | refine divJ (by decide) ?_ | refine divI (by decide) ?_)
    try change _ ∧ _
    refine st_alen hsh ?_
    rw [show Int32.ofNat (ow q).length = nI (ow q).length from rfl] at *
    repeat (first | (refine W1 rfl ?_; try refine Wp.norm (L' := [_, _]) rfl ?_) | ((first | change (_ → _) ∧ (_ → _) | change vp_in _ _ ∧ _ | change ¬ _ ∧ _); simp (disch := omega) only [nI_clamp, nI_leI, nI_ltI, nI_eq, nI_1, nI_add, nI_not_neg, nI_is_pos, nI_m1, nI_z]) | refine brT (by first | assumption | decide | omega) ?_ | refine brF (by first | assumption | decide | omega) ?_ | refine brTn (by first | assumption | decide | omega) ?_ | refine brFn (by first | assumption | decide | omega) ?_ | refine And.intro (vp_in_nI (by omega) (by decide)) ?_ | refine And.intro (vp_lit (by decide)) ?_ | refine divJ (by decide) ?_ | refine divI (by decide) ?_)
    try change _ ∧ _
    simp only [e2]
    exact ⟨Or.inr trivial, trivial, rfl⟩
  · rw [decide_eq_false c, bI_f] at r
    refine ⟨_, ?_, (LX.rfl h).a (by decide), fun z => absurd z c, fun _ => ⟨M2, rfl⟩⟩
    rw [decide_eq_false c, bI_f]
    show Run 2 j_M_takes _ _ _ _
    refine Run.of rfl ?_
    refine Wp.norm (L' := [_, _]) rfl ?_
    repeat (first | (refine W1 rfl ?_; try refine Wp.norm (L' := [_, _]) rfl ?_) | ((first | change (_ → _) ∧ (_ → _) | change vp_in _ _ ∧ _ | change ¬ _ ∧ _); simp (disch := omega) only [nI_clamp, nI_leI, nI_ltI, nI_eq, nI_1, nI_add, nI_not_neg, nI_is_pos, nI_m1, nI_z]) | refine brT (by first | assumption | decide | omega) ?_ | refine brF (by first | assumption | decide | omega) ?_ | refine brTn (by first | assumption | decide | omega) ?_ | refine brFn (by first | assumption | decide | omega) ?_ | refine And.intro (vp_in_nI (by omega) (by decide)) ?_ | refine And.intro (vp_lit (by decide)) ?_ | refine divJ (by decide) ?_ | refine divI (by decide) ?_)
    try change _ ∧ _
    refine Cl.of r (by decide) ?_
    repeat (first | (refine W1 rfl ?_; try refine Wp.norm (L' := [_, _]) rfl ?_) | ((first | change (_ → _) ∧ (_ → _) | change vp_in _ _ ∧ _ | change ¬ _ ∧ _); simp (disch := omega) only [nI_clamp, nI_leI, nI_ltI, nI_eq, nI_1, nI_add, nI_not_neg, nI_is_pos, nI_m1, nI_z]) | refine brT (by first | assumption | decide | omega) ?_ | refine brF (by first | assumption | decide | omega) ?_ | refine brTn (by first | assumption | decide | omega) ?_ | refine brFn (by first | assumption | decide | omega) ?_ | refine And.intro (vp_in_nI (by omega) (by decide)) ?_ | refine And.intro (vp_lit (by decide)) ?_ | refine divJ (by decide) ?_ | refine divI (by decide) ?_)
    try change _ ∧ _
    try first | exact ⟨rfl, rfl⟩ | exact ⟨Or.inr rfl, rfl, rfl⟩ | exact ⟨Or.inl rfl, rfl, rfl⟩ | exact ⟨trivial, trivial⟩ | exact ⟨rfl, trivial⟩ | exact ⟨Or.inr rfl, rfl, trivial⟩ | exact ⟨Or.inl rfl, rfl, trivial⟩
theorem m_isHereF {f p q : Nat} (hF : LF f p h) : Run 1 j_M_isHere [.ref 65, .ref (67 + q)] h (some (.int 0)) h := by
  have hne := hF.ne
  refine Run.of rfl ?_
  refine Wp.norm (L' := [_, _, _, _]) rfl ?_
  repeat (first | (refine W1 rfl ?_; try refine Wp.norm (L' := [_, _, _, _]) rfl ?_) | ((first | change (_ → _) ∧ (_ → _) | change vp_in _ _ ∧ _ | change ¬ _ ∧ _); simp (disch := omega) only [nI_clamp, nI_leI, nI_ltI, nI_eq, nI_1, nI_add, nI_not_neg, nI_is_pos, nI_m1, nI_z]) | refine brT (by first | assumption | decide | omega) ?_ | refine brF (by first | assumption | decide | omega) ?_ | refine brTn (by first | assumption | decide | omega) ?_ | refine brFn (by first | assumption | decide | omega) ?_ | refine And.intro (vp_in_nI (by omega) (by decide)) ?_ | refine And.intro (vp_lit (by decide)) ?_ | refine divJ (by decide) ?_ | refine divI (by decide) ?_)
  try change _ ∧ _
  try first | exact ⟨rfl, rfl⟩ | exact ⟨Or.inr rfl, rfl, rfl⟩ | exact ⟨Or.inl rfl, rfl, rfl⟩ | exact ⟨trivial, trivial⟩ | exact ⟨rfl, trivial⟩ | exact ⟨Or.inr rfl, rfl, trivial⟩ | exact ⟨Or.inl rfl, rfl, trivial⟩
theorem m_takesF {f p q : Nat} (hF : LF f p h) : Run 2 j_M_takes [.ref 65, .ref (67 + q)] h (some (.int 0)) h := by
  refine Run.of rfl ?_
  refine Wp.norm (L' := [_, _]) rfl ?_
  repeat (first | (refine W1 rfl ?_; try refine Wp.norm (L' := [_, _]) rfl ?_) | ((first | change (_ → _) ∧ (_ → _) | change vp_in _ _ ∧ _ | change ¬ _ ∧ _); simp (disch := omega) only [nI_clamp, nI_leI, nI_ltI, nI_eq, nI_1, nI_add, nI_not_neg, nI_is_pos, nI_m1, nI_z]) | refine brT (by first | assumption | decide | omega) ?_ | refine brF (by first | assumption | decide | omega) ?_ | refine brTn (by first | assumption | decide | omega) ?_ | refine brFn (by first | assumption | decide | omega) ?_ | refine And.intro (vp_in_nI (by omega) (by decide)) ?_ | refine And.intro (vp_lit (by decide)) ?_ | refine divJ (by decide) ?_ | refine divI (by decide) ?_)
  try change _ ∧ _
  refine Cl.of (m_isHereF hF) (by decide) ?_
  repeat (first | (refine W1 rfl ?_; try refine Wp.norm (L' := [_, _]) rfl ?_) | ((first | change (_ → _) ∧ (_ → _) | change vp_in _ _ ∧ _ | change ¬ _ ∧ _); simp (disch := omega) only [nI_clamp, nI_leI, nI_ltI, nI_eq, nI_1, nI_add, nI_not_neg, nI_is_pos, nI_m1, nI_z]) | refine brT (by first | assumption | decide | omega) ?_ | refine brF (by first | assumption | decide | omega) ?_ | refine brTn (by first | assumption | decide | omega) ?_ | refine brFn (by first | assumption | decide | omega) ?_ | refine And.intro (vp_in_nI (by omega) (by decide)) ?_ | refine And.intro (vp_lit (by decide)) ?_ | refine divJ (by decide) ?_ | refine divI (by decide) ?_)
  try change _ ∧ _
  try first | exact ⟨rfl, rfl⟩ | exact ⟨Or.inr rfl, rfl, rfl⟩ | exact ⟨Or.inl rfl, rfl, rfl⟩ | exact ⟨trivial, trivial⟩ | exact ⟨rfl, trivial⟩ | exact ⟨Or.inr rfl, rfl, trivial⟩ | exact ⟨Or.inl rfl, rfl, trivial⟩
theorem m_asks {q : Nat} {o : FO} (hq : q < 20) (X : LZ b n o i h) : ∃ h', Run 3 j_M_asks [.ref 65, .ref (67 + q)] h none h' ∧ LX h h' ∧ LZ b n (ch o (ckO b n i q)) (i + 1) h' := by
  cases o with
  | some e =>
    obtain ⟨f, p⟩ := e
    have X : LF f p h := X
    have hne := X.ne
    refine ⟨h, ?_, LX.rfl h, X⟩
    show Run 3 j_M_asks _ _ _ _
    refine Run.of rfl ?_
    refine Wp.norm (L' := [_, _]) rfl ?_
    repeat (first | (refine W1 rfl ?_; try refine Wp.norm (L' := [_, _]) rfl ?_) | ((first | change (_ → _) ∧ (_ → _) | change vp_in _ _ ∧ _ | change ¬ _ ∧ _); simp (disch := omega) only [nI_clamp, nI_leI, nI_ltI, nI_eq, nI_1, nI_add, nI_not_neg, nI_is_pos, nI_m1, nI_z]) | refine brT (by first | assumption | decide | omega) ?_ | refine brF (by first | assumption | decide | omega) ?_ | refine brTn (by first | assumption | decide | omega) ?_ | refine brFn (by first | assumption | decide | omega) ?_ | refine And.intro (vp_in_nI (by omega) (by decide)) ?_ | refine And.intro (vp_lit (by decide)) ?_ | refine divJ (by decide) ?_ | refine divI (by decide) ?_)
    try change _ ∧ _
    try first | exact ⟨rfl, rfl⟩ | exact ⟨Or.inr rfl, rfl, rfl⟩ | exact ⟨Or.inl rfl, rfl, rfl⟩ | exact ⟨trivial, trivial⟩ | exact ⟨rfl, trivial⟩ | exact ⟨Or.inr rfl, rfl, trivial⟩ | exact ⟨Or.inl rfl, rfl, trivial⟩
  | none =>
    have X : ML b n i h := X
    have f0 := X.f0
    obtain ⟨h1, r1, F1, A1, B1⟩ := m_takes hq X
    rw [ch_n]
    unfold ckO
    by_cases c : owV b n i = q
    · rw [decide_eq_true c, bI_t] at r1
      rw [if_pos c]
      refine ⟨h1, ?_, F1, A1 c⟩
      show Run 3 j_M_asks _ _ _ _
      refine Run.of rfl ?_
      refine Wp.norm (L' := [_, _]) rfl ?_
      repeat (first | (refine W1 rfl ?_; try refine Wp.norm (L' := [_, _]) rfl ?_) | ((first | change (_ → _) ∧ (_ → _) | change vp_in _ _ ∧ _ | change ¬ _ ∧ _); simp (disch := omega) only [nI_clamp, nI_leI, nI_ltI, nI_eq, nI_1, nI_add, nI_not_neg, nI_is_pos, nI_m1, nI_z, f0]) | refine brT (by first | assumption | decide | omega) ?_ | refine brF (by first | assumption | decide | omega) ?_ | refine brTn (by first | assumption | decide | omega) ?_ | refine brFn (by first | assumption | decide | omega) ?_ | refine And.intro (vp_in_nI (by omega) (by decide)) ?_ | refine And.intro (vp_lit (by decide)) ?_ | refine divJ (by decide) ?_ | refine divI (by decide) ?_)
      try change _ ∧ _
      refine Cl.of r1 (by decide) ?_
      repeat (first | (refine W1 rfl ?_; try refine Wp.norm (L' := [_, _]) rfl ?_) | ((first | change (_ → _) ∧ (_ → _) | change vp_in _ _ ∧ _ | change ¬ _ ∧ _); simp (disch := omega) only [nI_clamp, nI_leI, nI_ltI, nI_eq, nI_1, nI_add, nI_not_neg, nI_is_pos, nI_m1, nI_z]) | refine brT (by first | assumption | decide | omega) ?_ | refine brF (by first | assumption | decide | omega) ?_ | refine brTn (by first | assumption | decide | omega) ?_ | refine brFn (by first | assumption | decide | omega) ?_ | refine And.intro (vp_in_nI (by omega) (by decide)) ?_ | refine And.intro (vp_lit (by decide)) ?_ | refine divJ (by decide) ?_ | refine divI (by decide) ?_)
      try change _ ∧ _
      try first | exact ⟨rfl, rfl⟩ | exact ⟨Or.inr rfl, rfl, rfl⟩ | exact ⟨Or.inl rfl, rfl, rfl⟩ | exact ⟨trivial, trivial⟩ | exact ⟨rfl, trivial⟩ | exact ⟨Or.inr rfl, rfl, trivial⟩ | exact ⟨Or.inl rfl, rfl, trivial⟩
    · rw [decide_eq_false c, bI_f] at r1
      rw [if_neg c]
      obtain ⟨M1, e2⟩ := B1 c
      have f1 := M1.f0
      refine ⟨_, ?_, (F1.a (by decide)).a (by decide), lf_mk (by decide)⟩
      show Run 3 j_M_asks _ _ _ _
      refine Run.of rfl ?_
      refine Wp.norm (L' := [_, _]) rfl ?_
      repeat (first | (refine W1 rfl ?_; try refine Wp.norm (L' := [_, _]) rfl ?_) | ((first | change (_ → _) ∧ (_ → _) | change vp_in _ _ ∧ _ | change ¬ _ ∧ _); simp (disch := omega) only [nI_clamp, nI_leI, nI_ltI, nI_eq, nI_1, nI_add, nI_not_neg, nI_is_pos, nI_m1, nI_z, f0]) | refine brT (by first | assumption | decide | omega) ?_ | refine brF (by first | assumption | decide | omega) ?_ | refine brTn (by first | assumption | decide | omega) ?_ | refine brFn (by first | assumption | decide | omega) ?_ | refine And.intro (vp_in_nI (by omega) (by decide)) ?_ | refine And.intro (vp_lit (by decide)) ?_ | refine divJ (by decide) ?_ | refine divI (by decide) ?_)
      try change _ ∧ _
      refine Cl.of r1 (by decide) ?_
      repeat (first | (refine W1 rfl ?_; try refine Wp.norm (L' := [_, _]) rfl ?_) | ((first | change (_ → _) ∧ (_ → _) | change vp_in _ _ ∧ _ | change ¬ _ ∧ _); simp (disch := omega) only [nI_clamp, nI_leI, nI_ltI, nI_eq, nI_1, nI_add, nI_not_neg, nI_is_pos, nI_m1, nI_z]) | refine brT (by first | assumption | decide | omega) ?_ | refine brF (by first | assumption | decide | omega) ?_ | refine brTn (by first | assumption | decide | omega) ?_ | refine brFn (by first | assumption | decide | omega) ?_ | refine And.intro (vp_in_nI (by omega) (by decide)) ?_ | refine And.intro (vp_lit (by decide)) ?_ | refine divJ (by decide) ?_ | refine divI (by decide) ?_)
      try change _ ∧ _
      refine Cl.ofA (r_M_fail0 1 (nI (ps b n i)) f1) (by rw [e2]; rfl) (by decide) ?_
      repeat (first | (refine W1 rfl ?_; try refine Wp.norm (L' := [_, _]) rfl ?_) | ((first | change (_ → _) ∧ (_ → _) | change vp_in _ _ ∧ _ | change ¬ _ ∧ _); simp (disch := omega) only [nI_clamp, nI_leI, nI_ltI, nI_eq, nI_1, nI_add, nI_not_neg, nI_is_pos, nI_m1, nI_z]) | refine brT (by first | assumption | decide | omega) ?_ | refine brF (by first | assumption | decide | omega) ?_ | refine brTn (by first | assumption | decide | omega) ?_ | refine brFn (by first | assumption | decide | omega) ?_ | refine And.intro (vp_in_nI (by omega) (by decide)) ?_ | refine And.intro (vp_lit (by decide)) ?_ | refine divJ (by decide) ?_ | refine divI (by decide) ?_)
      try change _ ∧ _
      try first | exact ⟨rfl, rfl⟩ | exact ⟨Or.inr rfl, rfl, rfl⟩ | exact ⟨Or.inl rfl, rfl, rfl⟩ | exact ⟨trivial, trivial⟩ | exact ⟨rfl, trivial⟩ | exact ⟨Or.inr rfl, rfl, trivial⟩ | exact ⟨Or.inl rfl, rfl, trivial⟩
/-! signs -/
abbrev isSg (c : Nat) : Prop := (0 < c ∧ c < 256) ∧ ¬ (97 ≤ c ∧ c ≤ 122) ∧ ¬ (48 ≤ c ∧ c ≤ 57) ∧ c ≠ 10 ∧ c ≠ 32
theorem sg_iff {c : Nat} (hc : isSg c) : sgV b n i = c ↔ ps b n i < n ∧ b (ps b n i) = c := by
  obtain ⟨h0, h1, h2, h3⟩ := hc
  unfold sgV
  constructor
  · intro e
    by_cases c6 : tS b n i = 6
    · rw [if_pos c6] at e
      have hp : ps b n i < n := ps_of (by omega)
      refine ⟨hp, ?_⟩
      unfold tS sP at c6
      unfold tV vP at e
      rw [if_neg (by omega)] at c6 e
      cases zl : ltB b (ps b n i) with
      | true =>
        rw [zl, if_pos rfl] at c6
        split at c6
        · cases c6
        · split at c6
          · cases c6
          · split at c6 <;> cases c6
      | false =>
        rw [zl, if_neg (by decide)] at c6 e
        cases zd : dgB b (ps b n i) with
        | true =>
          rw [zd, if_pos rfl] at c6
          split at c6
          · cases c6
          · split at c6 <;> cases c6
        | false =>
          rw [zd, if_neg (by decide)] at e
          exact e
    · rw [if_neg c6] at e; omega
  · rintro ⟨hp, e⟩
    have zl : ltB b (ps b n i) = false := by
      cases z : ltB b (ps b n i) with
      | false => rfl
      | true => rw [ltB_i] at z; omega
    have zd : dgB b (ps b n i) = false := by
      cases z : dgB b (ps b n i) with
      | false => rfl
      | true => rw [dgB_i] at z; omega
    have t6 : tS b n i = 6 := by
      unfold tS sP
      rw [if_neg (by omega), zl, if_neg (by decide), zd, if_neg (by decide)]
    rw [if_pos t6]
    unfold tV vP
    rw [if_neg (by omega), zl, if_neg (by decide), zd, if_neg (by decide)]
    exact e
theorem sg_wn {c : Nat} (hc : isSg c) (e : b (ps b n i) = c) : wnB b (ps b n i) = false := by
  obtain ⟨h0, h1, h2, h3⟩ := hc
  unfold wnB
  rw [Bool.or_eq_false_iff]
  constructor
  · cases z : ltB b (ps b n i) with
    | false => rfl
    | true => rw [ltB_i] at z; omega
  · cases z : dgB b (ps b n i) with
    | false => rfl
    | true => rw [dgB_i] at z; omega
theorem lkc_eq {c : Nat} (M : ML b n i h) (hc : isSg c) : (lkV b n (ps b n i) = nI c) ↔ sgV b n i = c := by
  rw [sg_iff hc]
  unfold lkV
  by_cases z : ps b n i < n
  · have := (M.T.2.2 _ z).2
    rw [if_pos z, nI_eq (by omega) (by omega)]
    exact ⟨fun y => ⟨z, y⟩, fun y => y.2⟩
  · rw [if_neg z]
    exact ⟨fun y => ((nI_m1' (by omega)).mp y).elim, fun y => absurd y.1 z⟩
theorem m_takesSign {c : Nat} (hc : isSg c) (M : ML b n i h) : ∃ h', Run 1 j_M_takesSign [.ref 65, .int (nI c)] h (some (.int (bI (decide (sgV b n i = c))))) h' ∧ LX h h' ∧ (sgV b n i = c → ML b n (i + 1) h') ∧ (sgV b n i ≠ c → ML b n i h' ∧ h'.1 65 2 = nI (ps b n i)) := by
  have r := r_look M.T M.A
  have f0 := M.f0
  have hk := lkc_eq M hc
  by_cases z : sgV b n i = c
  · obtain ⟨hp, e⟩ := (sg_iff hc).mp z
    have hk := hk.mpr z
    have M3 := M.lk.sg hp (sg_wn hc e)
    rw [wI_w] at M3
    refine ⟨_, ?_, (LX.rfl h).a (by decide), fun _ => M3, fun y => absurd z y⟩
    rw [decide_eq_true z, bI_t]
    show Run 1 j_M_takesSign _ _ _ _
    refine Run.of rfl ?_
    refine Wp.norm (L' := [_, _]) rfl ?_
    repeat (first | (refine W1 rfl ?_; try refine Wp.norm (L' := [_, _]) rfl ?_) | ((first | change (_ → _) ∧ (_ → _) | change vp_in _ _ ∧ _ | change ¬ _ ∧ _); simp (disch := omega) only [nI_clamp, nI_leI, nI_ltI, nI_eq, nI_1, nI_add, nI_not_neg, nI_is_pos, nI_m1, nI_z, f0]) | refine brT (by first | assumption | decide | omega) ?_ | refine brF (by first | assumption | decide | omega) ?_ | refine brTn (by first | assumption | decide | omega) ?_ | refine brFn (by first | assumption | decide | omega) ?_ | refine And.intro (vp_in_nI (by omega) (by decide)) ?_ | refine And.intro (vp_lit (by decide)) ?_ | refine divJ (by decide) ?_ | refine divI (by decide) ?_)
    try change _ ∧ _
    refine Cl.of r (by decide) ?_
    repeat (first | (refine W1 rfl ?_; try refine Wp.norm (L' := [_, _]) rfl ?_) | ((first | change (_ → _) ∧ (_ → _) | change vp_in _ _ ∧ _ | change ¬ _ ∧ _); simp (disch := omega) only [nI_clamp, nI_leI, nI_ltI, nI_eq, nI_1, nI_add, nI_not_neg, nI_is_pos, nI_m1, nI_z]) | refine brT (by first | assumption | decide | omega) ?_ | refine brF (by first | assumption | decide | omega) ?_ | refine brTn (by first | assumption | decide | omega) ?_ | refine brFn (by first | assumption | decide | omega) ?_ | refine And.intro (vp_in_nI (by omega) (by decide)) ?_ | refine And.intro (vp_lit (by decide)) ?_ | refine divJ (by decide) ?_ | refine divI (by decide) ?_)
    try change _ ∧ _
    rw [wI_same, wI_w, nI_1]
    exact ⟨Or.inr rfl, rfl, rfl⟩
  · have hk : ¬ lkV b n (ps b n i) = nI c := fun y => z (hk.mp y)
    refine ⟨_, ?_, (LX.rfl h).a (by decide), fun y => absurd y z, fun _ => ⟨M.lk, rfl⟩⟩
    rw [decide_eq_false z, bI_f]
    show Run 1 j_M_takesSign _ _ _ _
    refine Run.of rfl ?_
    refine Wp.norm (L' := [_, _]) rfl ?_
    repeat (first | (refine W1 rfl ?_; try refine Wp.norm (L' := [_, _]) rfl ?_) | ((first | change (_ → _) ∧ (_ → _) | change vp_in _ _ ∧ _ | change ¬ _ ∧ _); simp (disch := omega) only [nI_clamp, nI_leI, nI_ltI, nI_eq, nI_1, nI_add, nI_not_neg, nI_is_pos, nI_m1, nI_z, f0]) | refine brT (by first | assumption | decide | omega) ?_ | refine brF (by first | assumption | decide | omega) ?_ | refine brTn (by first | assumption | decide | omega) ?_ | refine brFn (by first | assumption | decide | omega) ?_ | refine And.intro (vp_in_nI (by omega) (by decide)) ?_ | refine And.intro (vp_lit (by decide)) ?_ | refine divJ (by decide) ?_ | refine divI (by decide) ?_)
    try change _ ∧ _
    refine Cl.of r (by decide) ?_
    repeat (first | (refine W1 rfl ?_; try refine Wp.norm (L' := [_, _]) rfl ?_) | ((first | change (_ → _) ∧ (_ → _) | change vp_in _ _ ∧ _ | change ¬ _ ∧ _); simp (disch := omega) only [nI_clamp, nI_leI, nI_ltI, nI_eq, nI_1, nI_add, nI_not_neg, nI_is_pos, nI_m1, nI_z]) | refine brT (by first | assumption | decide | omega) ?_ | refine brF (by first | assumption | decide | omega) ?_ | refine brTn (by first | assumption | decide | omega) ?_ | refine brFn (by first | assumption | decide | omega) ?_ | refine And.intro (vp_in_nI (by omega) (by decide)) ?_ | refine And.intro (vp_lit (by decide)) ?_ | refine divJ (by decide) ?_ | refine divI (by decide) ?_)
    try change _ ∧ _
    try first | exact ⟨rfl, rfl⟩ | exact ⟨Or.inr rfl, rfl, rfl⟩ | exact ⟨Or.inl rfl, rfl, rfl⟩ | exact ⟨trivial, trivial⟩ | exact ⟨rfl, trivial⟩ | exact ⟨Or.inr rfl, rfl, trivial⟩ | exact ⟨Or.inl rfl, rfl, trivial⟩
theorem m_asksSign {c : Nat} {o : FO} (hc : isSg c) (X : LZ b n o i h) : ∃ h', Run 2 j_M_asksSign [.ref 65, .int (nI c)] h none h' ∧ LX h h' ∧ LZ b n (ch o (ckS b n i c)) (i + 1) h' := by
  cases o with
  | some e =>
    obtain ⟨f, p⟩ := e
    have X : LF f p h := X
    have hne := X.ne
    refine ⟨h, ?_, LX.rfl h, X⟩
    show Run 2 j_M_asksSign _ _ _ _
    refine Run.of rfl ?_
    refine Wp.norm (L' := [_, _]) rfl ?_
    repeat (first | (refine W1 rfl ?_; try refine Wp.norm (L' := [_, _]) rfl ?_) | ((first | change (_ → _) ∧ (_ → _) | change vp_in _ _ ∧ _ | change ¬ _ ∧ _); simp (disch := omega) only [nI_clamp, nI_leI, nI_ltI, nI_eq, nI_1, nI_add, nI_not_neg, nI_is_pos, nI_m1, nI_z]) | refine brT (by first | assumption | decide | omega) ?_ | refine brF (by first | assumption | decide | omega) ?_ | refine brTn (by first | assumption | decide | omega) ?_ | refine brFn (by first | assumption | decide | omega) ?_ | refine And.intro (vp_in_nI (by omega) (by decide)) ?_ | refine And.intro (vp_lit (by decide)) ?_ | refine divJ (by decide) ?_ | refine divI (by decide) ?_)
    try change _ ∧ _
    try first | exact ⟨rfl, rfl⟩ | exact ⟨Or.inr rfl, rfl, rfl⟩ | exact ⟨Or.inl rfl, rfl, rfl⟩ | exact ⟨trivial, trivial⟩ | exact ⟨rfl, trivial⟩ | exact ⟨Or.inr rfl, rfl, trivial⟩ | exact ⟨Or.inl rfl, rfl, trivial⟩
  | none =>
    have X : ML b n i h := X
    have f0 := X.f0
    obtain ⟨h1, r1, F1, A1, B1⟩ := m_takesSign hc X
    rw [ch_n]
    unfold ckS
    by_cases z : sgV b n i = c
    · rw [decide_eq_true z, bI_t] at r1
      rw [if_pos z]
      refine ⟨h1, ?_, F1, A1 z⟩
      show Run 2 j_M_asksSign _ _ _ _
      refine Run.of rfl ?_
      refine Wp.norm (L' := [_, _]) rfl ?_
      repeat (first | (refine W1 rfl ?_; try refine Wp.norm (L' := [_, _]) rfl ?_) | ((first | change (_ → _) ∧ (_ → _) | change vp_in _ _ ∧ _ | change ¬ _ ∧ _); simp (disch := omega) only [nI_clamp, nI_leI, nI_ltI, nI_eq, nI_1, nI_add, nI_not_neg, nI_is_pos, nI_m1, nI_z, f0]) | refine brT (by first | assumption | decide | omega) ?_ | refine brF (by first | assumption | decide | omega) ?_ | refine brTn (by first | assumption | decide | omega) ?_ | refine brFn (by first | assumption | decide | omega) ?_ | refine And.intro (vp_in_nI (by omega) (by decide)) ?_ | refine And.intro (vp_lit (by decide)) ?_ | refine divJ (by decide) ?_ | refine divI (by decide) ?_)
      try change _ ∧ _
      refine Cl.of r1 (by decide) ?_
      repeat (first | (refine W1 rfl ?_; try refine Wp.norm (L' := [_, _]) rfl ?_) | ((first | change (_ → _) ∧ (_ → _) | change vp_in _ _ ∧ _ | change ¬ _ ∧ _); simp (disch := omega) only [nI_clamp, nI_leI, nI_ltI, nI_eq, nI_1, nI_add, nI_not_neg, nI_is_pos, nI_m1, nI_z]) | refine brT (by first | assumption | decide | omega) ?_ | refine brF (by first | assumption | decide | omega) ?_ | refine brTn (by first | assumption | decide | omega) ?_ | refine brFn (by first | assumption | decide | omega) ?_ | refine And.intro (vp_in_nI (by omega) (by decide)) ?_ | refine And.intro (vp_lit (by decide)) ?_ | refine divJ (by decide) ?_ | refine divI (by decide) ?_)
      try change _ ∧ _
      try first | exact ⟨rfl, rfl⟩ | exact ⟨Or.inr rfl, rfl, rfl⟩ | exact ⟨Or.inl rfl, rfl, rfl⟩ | exact ⟨trivial, trivial⟩ | exact ⟨rfl, trivial⟩ | exact ⟨Or.inr rfl, rfl, trivial⟩ | exact ⟨Or.inl rfl, rfl, trivial⟩
    · rw [decide_eq_false z, bI_f] at r1
      rw [if_neg z]
      obtain ⟨M1, e2⟩ := B1 z
      have f1 := M1.f0
      refine ⟨_, ?_, (F1.a (by decide)).a (by decide), lf_mk (by decide)⟩
      show Run 2 j_M_asksSign _ _ _ _
      refine Run.of rfl ?_
      refine Wp.norm (L' := [_, _]) rfl ?_
      repeat (first | (refine W1 rfl ?_; try refine Wp.norm (L' := [_, _]) rfl ?_) | ((first | change (_ → _) ∧ (_ → _) | change vp_in _ _ ∧ _ | change ¬ _ ∧ _); simp (disch := omega) only [nI_clamp, nI_leI, nI_ltI, nI_eq, nI_1, nI_add, nI_not_neg, nI_is_pos, nI_m1, nI_z, f0]) | refine brT (by first | assumption | decide | omega) ?_ | refine brF (by first | assumption | decide | omega) ?_ | refine brTn (by first | assumption | decide | omega) ?_ | refine brFn (by first | assumption | decide | omega) ?_ | refine And.intro (vp_in_nI (by omega) (by decide)) ?_ | refine And.intro (vp_lit (by decide)) ?_ | refine divJ (by decide) ?_ | refine divI (by decide) ?_)
      try change _ ∧ _
      refine Cl.of r1 (by decide) ?_
      repeat (first | (refine W1 rfl ?_; try refine Wp.norm (L' := [_, _]) rfl ?_) | ((first | change (_ → _) ∧ (_ → _) | change vp_in _ _ ∧ _ | change ¬ _ ∧ _); simp (disch := omega) only [nI_clamp, nI_leI, nI_ltI, nI_eq, nI_1, nI_add, nI_not_neg, nI_is_pos, nI_m1, nI_z]) | refine brT (by first | assumption | decide | omega) ?_ | refine brF (by first | assumption | decide | omega) ?_ | refine brTn (by first | assumption | decide | omega) ?_ | refine brFn (by first | assumption | decide | omega) ?_ | refine And.intro (vp_in_nI (by omega) (by decide)) ?_ | refine And.intro (vp_lit (by decide)) ?_ | refine divJ (by decide) ?_ | refine divI (by decide) ?_)
      try change _ ∧ _
      refine Cl.ofA (r_M_fail0 1 (nI (ps b n i)) f1) (by rw [e2]; rfl) (by decide) ?_
      repeat (first | (refine W1 rfl ?_; try refine Wp.norm (L' := [_, _]) rfl ?_) | ((first | change (_ → _) ∧ (_ → _) | change vp_in _ _ ∧ _ | change ¬ _ ∧ _); simp (disch := omega) only [nI_clamp, nI_leI, nI_ltI, nI_eq, nI_1, nI_add, nI_not_neg, nI_is_pos, nI_m1, nI_z]) | refine brT (by first | assumption | decide | omega) ?_ | refine brF (by first | assumption | decide | omega) ?_ | refine brTn (by first | assumption | decide | omega) ?_ | refine brFn (by first | assumption | decide | omega) ?_ | refine And.intro (vp_in_nI (by omega) (by decide)) ?_ | refine And.intro (vp_lit (by decide)) ?_ | refine divJ (by decide) ?_ | refine divI (by decide) ?_)
      try change _ ∧ _
      try first | exact ⟨rfl, rfl⟩ | exact ⟨Or.inr rfl, rfl, rfl⟩ | exact ⟨Or.inl rfl, rfl, rfl⟩ | exact ⟨trivial, trivial⟩ | exact ⟨rfl, trivial⟩ | exact ⟨Or.inr rfl, rfl, trivial⟩ | exact ⟨Or.inl rfl, rfl, trivial⟩
end MLX2
