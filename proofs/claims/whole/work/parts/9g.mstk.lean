/-! ===== THE MODEL'S STACK ===== -/
def SK : List Nat → HP → Prop
  | [], _ => True
  | x :: W, h => h.1 104 W.length = nI x ∧ SK W h
def txL : List Nat := [2, 4, 5, 6, 9, 30, 48, 50, 51, 52]
def TX (h h' : HP) : Prop := onlyJ [65, 103, 104] [] h h' ∧ ∀ i, ¬ i ∈ txL → h'.1 65 i = h.1 65 i
theorem TX.rfl (h : HP) : TX h h := ⟨onlyJ.rfl _ _ h, fun _ _ => Eq.refl _⟩
theorem TX.trans {a b c : HP} (h1 : TX a b) (h2 : TX b c) : TX a c := ⟨h1.1.trans h2.1, fun i hi => (h2.2 i hi).trans (h1.2 i hi)⟩
theorem TX.a {h h' : HP} {i : Nat} {x : Int32} (F : TX h h') (hi : i ∈ txL) : TX h (wI h' 65 i x) := ⟨F.1.addI (by decide), fun j hj => by rw [wI_ne2 _ _ (fun e => hj (by rw [e]; exact hi))]; exact F.2 j hj⟩
theorem TX.k {h h' : HP} {k i : Nat} {x : Int32} (F : TX h h') (hk : k ∈ [103, 104]) : TX h (wI h' k i x) := ⟨F.1.addI (by simp at hk ⊢; omega), fun j hj => by rw [wI_ne _ _ _ (by simp at hk; omega)]; exact F.2 j hj⟩
theorem LX.tx {h h' : HP} (F : LX h h') : TX h h' := ⟨F.1.mono (by simp) (by simp), fun i hi => F.2 i (fun z => hi (by simp [lxL] at z; simp [txL]; omega))⟩
section MSTK
variable {b : Nat → Nat} {n i : Nat} {h h' : HP} {s : ST} {C W : List Nat} {B d : Nat}
theorem SK.w {k : Nat} {x : Int32} : ∀ {W : List Nat}, SK W h → W.length ≤ k → SK W (wI h 104 k x)
  | [], _, _ => trivial
  | y :: W, S, hk => by
    have hk : W.length + 1 ≤ k := hk
    exact ⟨by rw [wI_ne2 _ _ (by omega)]; exact S.1, SK.w S.2 (by omega)⟩
theorem SK.o {k i : Nat} {x : Int32} (hk : k ≠ 104) : ∀ {W : List Nat}, SK W h → SK W (wI h k i x)
  | [], _ => trivial
  | y :: W, S => ⟨by rw [wI_ne _ _ _ (Ne.symm hk)]; exact S.1, SK.o hk S.2⟩
theorem SK.lx (F : LX h h') : ∀ {W : List Nat}, SK W h → SK W h'
  | [], _ => trivial
  | y :: W, S => ⟨by rw [F.1.1 104 _ (by decide)]; exact S.1, SK.lx F S.2⟩
def MK (b : Nat → Nat) (n i : Nat) (C W : List Nat) (B d : Nat) (h : HP) : Prop := ML b n i h ∧ CM C h ∧ SK W h ∧ (h.1 65 50 = nI W.length ∧ h.1 65 51 = nI d ∧ h.1 65 52 = nI B) ∧ W.length ≤ 900 ∧ d ≤ 6
theorem ML.wk {k j : Nat} {x : Int32} (M : ML b n i h) (hk : k = 103 ∨ k = 104) : ML b n i (wI h k j x) := by
  obtain ⟨T, A, E, hi, f0, w⟩ := M
  have e : ∀ j', (wI h k j x).1 65 j' = h.1 65 j' := fun j' => by rw [wI_ne _ _ _ (by omega)]
  refine ⟨T.o (by omega) (by omega), ?_, ?_, hi, by rw [e, e]; exact f0, fun q hq j' hj => ?_⟩
  · unfold MA; rw [e]; exact A
  · unfold ME; rw [e]; exact E
  · rw [wI_ne _ _ _ (by omega)]; exact w q hq j' hj
theorem ML.wf {j : Nat} {x : Int32} (M : ML b n i h) (hj : 6 < j) : ML b n i (wI h 65 j x) := by
  obtain ⟨T, A, E, hi, f0, w⟩ := M
  refine ⟨T.a (by omega), ?_, ?_, hi, ⟨by rw [wI_ne2 _ _ (by omega)]; exact f0.1, by rw [wI_ne2 _ _ (by omega)]; exact f0.2⟩, w.w65⟩
  · unfold MA; rw [wI_ne2 _ _ (by omega)]; exact A
  · unfold ME; rw [wI_ne2 _ _ (by omega)]; exact E
theorem MK.L (M : MK b n i C W B d h) : ML b n i h := M.1
theorem MK.cm (M : MK b n i C W B d h) : CM C h := M.2.1
theorem MK.S (M : MK b n i C W B d h) : SK W h := M.2.2.1
theorem MK.e50 (M : MK b n i C W B d h) : h.1 65 50 = nI W.length := M.2.2.2.1.1
theorem MK.e51 (M : MK b n i C W B d h) : h.1 65 51 = nI d := M.2.2.2.1.2.1
theorem MK.e52 (M : MK b n i C W B d h) : h.1 65 52 = nI B := M.2.2.2.1.2.2
theorem MK.wl (M : MK b n i C W B d h) : W.length ≤ 900 := M.2.2.2.2.1
theorem MK.d6 (M : MK b n i C W B d h) : d ≤ 6 := M.2.2.2.2.2
theorem MK.lx {i' : Nat} (M : MK b n i C W B d h) (F : LX h h') (M' : ML b n i' h') : MK b n i' C W B d h' := by
  obtain ⟨_, c, S, ⟨e1, e2, e3⟩, w, d6⟩ := M
  exact ⟨M', c.lx F, SK.lx F S, ⟨by rw [F.2 50 (by decide)]; exact e1, by rw [F.2 51 (by decide)]; exact e2, by rw [F.2 52 (by decide)]; exact e3⟩, w, d6⟩
theorem CM.push {x : Nat} (c : CM C h) (hl : C.length < 900) : CM (C ++ [x]) (wI (wI h 103 C.length (nI x)) 65 48 (nI (C.length + 1))) := by
  obtain ⟨c1, c2, c3⟩ := c
  refine ⟨by rw [List.length_append]; exact hl, by rw [wI_same, List.length_append]; rfl, fun k hk => ?_⟩
  rw [wI_ne _ _ _ (by decide)]
  rw [List.length_append] at hk
  have hk : k < C.length + 1 := hk
  by_cases e : k = C.length
  · subst e
    rw [wI_same, List.getD_eq_getElem?_getD, List.getElem?_append_right (Nat.le_refl _), Nat.sub_self]
    rfl
  · rw [wI_ne2 _ _ e, List.getD_eq_getElem?_getD, List.getElem?_append_left (by omega), ← List.getD_eq_getElem?_getD]
    exact c3 k (by omega)
theorem r_code {k : Nat} (hk : k < 1800) (e : h.1 65 48 = nI k) (x : Int32) : Run 0 j_M_code [.ref 65, .int x] h none (wI (wI h 103 k x) 65 48 (nI (k + 1))) := by
  have e0 : (0 : Int32) + nI k = nI k := by rw [show (0 : Int32) = nI 0 from rfl, nI_add, Nat.zero_add]
  refine Run.of rfl ?_
  refine Wp.norm (L' := [_, _]) rfl ?_
  repeat (first | (refine W1 rfl ?_; try refine Wp.norm (L' := [_, _]) rfl ?_) | ((first | change (_ → _) ∧ (_ → _) | change vp_in _ _ ∧ _ | change ¬ _ ∧ _); simp (disch := omega) only [nI_clamp, nI_leI, nI_ltI, nI_eq, nI_1, nI_add, nI_not_neg, nI_is_pos, nI_m1, nI_z, e, e0, wI_ne]) | refine brT (by first | assumption | decide | omega) ?_ | refine brF (by first | assumption | decide | omega) ?_ | refine brTn (by first | assumption | decide | omega) ?_ | refine brFn (by first | assumption | decide | omega) ?_ | refine And.intro (vp_in_nI (by omega) (by decide)) ?_ | refine And.intro (vp_lit (by decide)) ?_ | refine divJ (by decide) ?_ | refine divI (by decide) ?_)
  try change _ ∧ _
  simp (disch := omega) only [e, e0, wI_ne, nI_clamp, nI_1, nI_add]
  first | done | exact ⟨trivial, rfl⟩ | exact ⟨trivial, trivial⟩
theorem q_code {x : Nat} (M : MK b n i C W B d h) (hl : C.length < 900) : ∃ h', Run 0 j_M_code [.ref 65, .int (nI x)] h none h' ∧ TX h h' ∧ MK b n i (C ++ [x]) W B d h' := by
  obtain ⟨L, c, S, ⟨e1, e2, e3⟩, w, d6⟩ := M
  exact ⟨_, r_code (by omega) c.2.1 _, ((TX.rfl h).k (by decide)).a (by decide), (L.wk (Or.inl rfl)).wf (by decide), c.push hl, SK.o (by decide) (SK.o (by decide) S), ⟨e1, e2, e3⟩, w, d6⟩
theorem q_drops {x : Nat} (M : MK b n i C (x :: W) B d h) (hl : C.length < 900) : ∃ h', Run 1 j_M_drops [.ref 65] h none h' ∧ TX h h' ∧ MK b n i (C ++ [x]) W B d h' := by
  obtain ⟨L, c, S, ⟨e1, e2, e3⟩, w, d6⟩ := M
  have w : W.length + 1 ≤ 900 := w
  have e1 : h.1 65 50 = nI (W.length + 1) := e1
  have M2 : MK b n i C W B d (wI h 65 50 (nI W.length)) := ⟨L.wf (by decide), ⟨c.1, c.2.1, c.2.2⟩, SK.o (by decide) S.2, ⟨rfl, e2, e3⟩, by omega, d6⟩
  obtain ⟨h', r, T, M3⟩ := q_code (x := x) M2 hl
  have es : (wI h 65 50 (nI W.length)).1 104 W.length = nI x := S.1
  refine ⟨h', ?_, ((TX.rfl h).a (by decide)).trans T, M3⟩
  show Run 1 j_M_drops _ _ _ _
  have e5 : h.1 65 50 - 1 = nI W.length := by rw [e1, nI_s1]
  have e6 : (wI h 65 50 (nI W.length)).1 65 50 = nI W.length := Eq.refl _
  refine Run.of rfl ?_
  refine Wp.norm (L' := [_]) rfl ?_
  repeat (first | (refine W1 rfl ?_; try refine Wp.norm (L' := [_]) rfl ?_) | ((first | change (_ → _) ∧ (_ → _) | change vp_in _ _ ∧ _ | change ¬ _ ∧ _); simp (disch := omega) only [nI_clamp, nI_leI, nI_ltI, nI_eq, nI_1, nI_add, nI_not_neg, nI_is_pos, nI_m1, nI_z, e5]) | refine brT (by first | assumption | decide | omega) ?_ | refine brF (by first | assumption | decide | omega) ?_ | refine brTn (by first | assumption | decide | omega) ?_ | refine brFn (by first | assumption | decide | omega) ?_ | refine And.intro (vp_in_nI (by omega) (by decide)) ?_ | refine And.intro (vp_lit (by decide)) ?_ | refine divJ (by decide) ?_ | refine divI (by decide) ?_)
  try change _ ∧ _
  refine Cl.ofA r (by first | done | rfl | (simp (disch := omega) only [nI_1, nI_add, nI_clamp, e6, es] <;> first | done | rfl)) (by decide) ?_
  repeat (first | (refine W1 rfl ?_; try refine Wp.norm (L' := [_]) rfl ?_) | ((first | change (_ → _) ∧ (_ → _) | change vp_in _ _ ∧ _ | change ¬ _ ∧ _); simp (disch := omega) only [nI_clamp, nI_leI, nI_ltI, nI_eq, nI_1, nI_add, nI_not_neg, nI_is_pos, nI_m1, nI_z]) | refine brT (by first | assumption | decide | omega) ?_ | refine brF (by first | assumption | decide | omega) ?_ | refine brTn (by first | assumption | decide | omega) ?_ | refine brFn (by first | assumption | decide | omega) ?_ | refine And.intro (vp_in_nI (by omega) (by decide)) ?_ | refine And.intro (vp_lit (by decide)) ?_ | refine divJ (by decide) ?_ | refine divI (by decide) ?_)
  try change _ ∧ _
  try first | exact ⟨rfl, rfl⟩ | exact ⟨Or.inr rfl, rfl, rfl⟩ | exact ⟨Or.inl rfl, rfl, rfl⟩ | exact ⟨trivial, trivial⟩ | exact ⟨rfl, trivial⟩ | exact ⟨Or.inr rfl, rfl, trivial⟩ | exact ⟨Or.inl rfl, rfl, trivial⟩
def topB (W : List Nat) (x : Nat) : Bool := match W with
  | [] => false
  | y :: _ => decide (y = x)
theorem q_isOn {x : Nat} (M : MK b n i C W B d h) (hx : x < 100) (hW : ∀ y, y ∈ W → y < 100) : Run 0 j_M_isOn [.ref 65, .int (nI x)] h (some (.int (bI (topB W x)))) h := by
  have e1 := M.e50
  have wl := M.wl
  cases W with
  | nil =>
    have e1 : h.1 65 50 = 0 := e1
    show Run 0 j_M_isOn _ _ (some (.int 0)) _
    refine Run.of rfl ?_
    refine Wp.norm (L' := [_, _]) rfl ?_
    repeat (first | (refine W1 rfl ?_; try refine Wp.norm (L' := [_, _]) rfl ?_) | ((first | change (_ → _) ∧ (_ → _) | change vp_in _ _ ∧ _ | change ¬ _ ∧ _); simp (disch := omega) only [nI_clamp, nI_leI, nI_ltI, nI_eq, nI_1, nI_add, nI_not_neg, nI_is_pos, nI_m1, nI_z, e1]) | refine brT (by first | assumption | decide | omega) ?_ | refine brF (by first | assumption | decide | omega) ?_ | refine brTn (by first | assumption | decide | omega) ?_ | refine brFn (by first | assumption | decide | omega) ?_ | refine And.intro (vp_in_nI (by omega) (by decide)) ?_ | refine And.intro (vp_lit (by decide)) ?_ | refine divJ (by decide) ?_ | refine divI (by decide) ?_)
    try change _ ∧ _
    try first | exact ⟨rfl, rfl⟩ | exact ⟨Or.inr rfl, rfl, rfl⟩ | exact ⟨Or.inl rfl, rfl, rfl⟩ | exact ⟨trivial, trivial⟩ | exact ⟨rfl, trivial⟩ | exact ⟨Or.inr rfl, rfl, trivial⟩ | exact ⟨Or.inl rfl, rfl, trivial⟩
  | cons y W =>
    have wl : W.length + 1 ≤ 900 := wl
    have e1 : h.1 65 50 = nI (W.length + 1) := e1
    have es := M.S.1
    have hy := hW y (by simp)
    have hp : ¬ nI (W.length + 1) ≤ 0 := fun z => by
      rw [show (0 : Int32) = nI 0 from Eq.refl _, nI_leI (by omega) (by decide)] at z
      omega
    by_cases c : y = x
    · have : topB (y :: W) x = true := decide_eq_true c
      rw [this, bI_t]
      subst c
      refine Run.of rfl ?_
      refine Wp.norm (L' := [_, _]) rfl ?_
      repeat (first | (refine W1 rfl ?_; try refine Wp.norm (L' := [_, _]) rfl ?_) | ((first | change (_ → _) ∧ (_ → _) | change vp_in _ _ ∧ _ | change ¬ _ ∧ _); simp (disch := omega) only [nI_clamp, nI_leI, nI_ltI, nI_eq, nI_1, nI_add, nI_not_neg, nI_is_pos, nI_m1, nI_z, e1, nI_s1, es]) | refine brT (by first | assumption | decide | omega) ?_ | refine brF (by first | assumption | decide | omega) ?_ | refine brTn (by first | assumption | decide | omega) ?_ | refine brFn (by first | assumption | decide | omega) ?_ | refine And.intro (vp_in_nI (by omega) (by decide)) ?_ | refine And.intro (vp_lit (by decide)) ?_ | refine divJ (by decide) ?_ | refine divI (by decide) ?_)
      try change _ ∧ _
      try first | exact ⟨rfl, rfl⟩ | exact ⟨Or.inr rfl, rfl, rfl⟩ | exact ⟨Or.inl rfl, rfl, rfl⟩ | exact ⟨trivial, trivial⟩ | exact ⟨rfl, trivial⟩ | exact ⟨Or.inr rfl, rfl, trivial⟩ | exact ⟨Or.inl rfl, rfl, trivial⟩
    · have : topB (y :: W) x = false := decide_eq_false c
      rw [this, bI_f]
      refine Run.of rfl ?_
      refine Wp.norm (L' := [_, _]) rfl ?_
      repeat (first | (refine W1 rfl ?_; try refine Wp.norm (L' := [_, _]) rfl ?_) | ((first | change (_ → _) ∧ (_ → _) | change vp_in _ _ ∧ _ | change ¬ _ ∧ _); simp (disch := omega) only [nI_clamp, nI_leI, nI_ltI, nI_eq, nI_1, nI_add, nI_not_neg, nI_is_pos, nI_m1, nI_z, e1, nI_s1, es]) | refine brT (by first | assumption | decide | omega) ?_ | refine brF (by first | assumption | decide | omega) ?_ | refine brTn (by first | assumption | decide | omega) ?_ | refine brFn (by first | assumption | decide | omega) ?_ | refine And.intro (vp_in_nI (by omega) (by decide)) ?_ | refine And.intro (vp_lit (by decide)) ?_ | refine divJ (by decide) ?_ | refine divI (by decide) ?_)
      try change _ ∧ _
      try first | exact ⟨rfl, rfl⟩ | exact ⟨Or.inr rfl, rfl, rfl⟩ | exact ⟨Or.inl rfl, rfl, rfl⟩ | exact ⟨trivial, trivial⟩ | exact ⟨rfl, trivial⟩ | exact ⟨Or.inr rfl, rfl, trivial⟩ | exact ⟨Or.inl rfl, rfl, trivial⟩
theorem q_isProduct (M : MK b n i C W B d h) (hW : ∀ y, y ∈ W → y < 100) : Run 1 j_M_isProduct [.ref 65] h (some (.int (bI (topB W 3 || topB W 4 || topB W 5)))) h := by
  have r3 := q_isOn (x := 3) M (by decide) hW
  have r4 := q_isOn (x := 4) M (by decide) hW
  have r5 := q_isOn (x := 5) M (by decide) hW
  cases c3 : topB W 3 with
  | true =>
    rw [c3] at r3
    show Run 1 j_M_isProduct _ _ (some (.int 1)) _
    refine Run.of rfl ?_
    refine Wp.norm (L' := [_]) rfl ?_
    repeat (first | (refine W1 rfl ?_; try refine Wp.norm (L' := [_]) rfl ?_) | ((first | change (_ → _) ∧ (_ → _) | change vp_in _ _ ∧ _ | change ¬ _ ∧ _); simp (disch := omega) only [nI_clamp, nI_leI, nI_ltI, nI_eq, nI_1, nI_add, nI_not_neg, nI_is_pos, nI_m1, nI_z]) | refine brT (by first | assumption | decide | omega) ?_ | refine brF (by first | assumption | decide | omega) ?_ | refine brTn (by first | assumption | decide | omega) ?_ | refine brFn (by first | assumption | decide | omega) ?_ | refine And.intro (vp_in_nI (by omega) (by decide)) ?_ | refine And.intro (vp_lit (by decide)) ?_ | refine divJ (by decide) ?_ | refine divI (by decide) ?_)
    try change _ ∧ _
    refine Cl.of r3 (by decide) ?_
    repeat (first | (refine W1 rfl ?_; try refine Wp.norm (L' := [_]) rfl ?_) | ((first | change (_ → _) ∧ (_ → _) | change vp_in _ _ ∧ _ | change ¬ _ ∧ _); simp (disch := omega) only [nI_clamp, nI_leI, nI_ltI, nI_eq, nI_1, nI_add, nI_not_neg, nI_is_pos, nI_m1, nI_z, bI_t]) | refine brT (by first | assumption | decide | omega) ?_ | refine brF (by first | assumption | decide | omega) ?_ | refine brTn (by first | assumption | decide | omega) ?_ | refine brFn (by first | assumption | decide | omega) ?_ | refine And.intro (vp_in_nI (by omega) (by decide)) ?_ | refine And.intro (vp_lit (by decide)) ?_ | refine divJ (by decide) ?_ | refine divI (by decide) ?_)
    try change _ ∧ _
    try first | exact ⟨rfl, rfl⟩ | exact ⟨Or.inr rfl, rfl, rfl⟩ | exact ⟨Or.inl rfl, rfl, rfl⟩ | exact ⟨trivial, trivial⟩ | exact ⟨rfl, trivial⟩ | exact ⟨Or.inr rfl, rfl, trivial⟩ | exact ⟨Or.inl rfl, rfl, trivial⟩
  | false =>
    rw [c3] at r3
    cases c4 : topB W 4 with
    | true =>
      rw [c4] at r4
      show Run 1 j_M_isProduct _ _ (some (.int 1)) _
      refine Run.of rfl ?_
      refine Wp.norm (L' := [_]) rfl ?_
      repeat (first | (refine W1 rfl ?_; try refine Wp.norm (L' := [_]) rfl ?_) | ((first | change (_ → _) ∧ (_ → _) | change vp_in _ _ ∧ _ | change ¬ _ ∧ _); simp (disch := omega) only [nI_clamp, nI_leI, nI_ltI, nI_eq, nI_1, nI_add, nI_not_neg, nI_is_pos, nI_m1, nI_z]) | refine brT (by first | assumption | decide | omega) ?_ | refine brF (by first | assumption | decide | omega) ?_ | refine brTn (by first | assumption | decide | omega) ?_ | refine brFn (by first | assumption | decide | omega) ?_ | refine And.intro (vp_in_nI (by omega) (by decide)) ?_ | refine And.intro (vp_lit (by decide)) ?_ | refine divJ (by decide) ?_ | refine divI (by decide) ?_)
      try change _ ∧ _
      refine Cl.of r3 (by decide) ?_
      repeat (first | (refine W1 rfl ?_; try refine Wp.norm (L' := [_]) rfl ?_) | ((first | change (_ → _) ∧ (_ → _) | change vp_in _ _ ∧ _ | change ¬ _ ∧ _); simp (disch := omega) only [nI_clamp, nI_leI, nI_ltI, nI_eq, nI_1, nI_add, nI_not_neg, nI_is_pos, nI_m1, nI_z, bI_f]) | refine brT (by first | assumption | decide | omega) ?_ | refine brF (by first | assumption | decide | omega) ?_ | refine brTn (by first | assumption | decide | omega) ?_ | refine brFn (by first | assumption | decide | omega) ?_ | refine And.intro (vp_in_nI (by omega) (by decide)) ?_ | refine And.intro (vp_lit (by decide)) ?_ | refine divJ (by decide) ?_ | refine divI (by decide) ?_)
      try change _ ∧ _
      refine Cl.of r4 (by decide) ?_
      repeat (first | (refine W1 rfl ?_; try refine Wp.norm (L' := [_]) rfl ?_) | ((first | change (_ → _) ∧ (_ → _) | change vp_in _ _ ∧ _ | change ¬ _ ∧ _); simp (disch := omega) only [nI_clamp, nI_leI, nI_ltI, nI_eq, nI_1, nI_add, nI_not_neg, nI_is_pos, nI_m1, nI_z, bI_t]) | refine brT (by first | assumption | decide | omega) ?_ | refine brF (by first | assumption | decide | omega) ?_ | refine brTn (by first | assumption | decide | omega) ?_ | refine brFn (by first | assumption | decide | omega) ?_ | refine And.intro (vp_in_nI (by omega) (by decide)) ?_ | refine And.intro (vp_lit (by decide)) ?_ | refine divJ (by decide) ?_ | refine divI (by decide) ?_)
      try change _ ∧ _
      try first | exact ⟨rfl, rfl⟩ | exact ⟨Or.inr rfl, rfl, rfl⟩ | exact ⟨Or.inl rfl, rfl, rfl⟩ | exact ⟨trivial, trivial⟩ | exact ⟨rfl, trivial⟩ | exact ⟨Or.inr rfl, rfl, trivial⟩ | exact ⟨Or.inl rfl, rfl, trivial⟩
    | false =>
      rw [c4] at r4
      cases c5 : topB W 5 with
      | true =>
        rw [c5] at r5
        show Run 1 j_M_isProduct _ _ (some (.int 1)) _
        refine Run.of rfl ?_
        refine Wp.norm (L' := [_]) rfl ?_
        repeat (first | (refine W1 rfl ?_; try refine Wp.norm (L' := [_]) rfl ?_) | ((first | change (_ → _) ∧ (_ → _) | change vp_in _ _ ∧ _ | change ¬ _ ∧ _); simp (disch := omega) only [nI_clamp, nI_leI, nI_ltI, nI_eq, nI_1, nI_add, nI_not_neg, nI_is_pos, nI_m1, nI_z]) | refine brT (by first | assumption | decide | omega) ?_ | refine brF (by first | assumption | decide | omega) ?_ | refine brTn (by first | assumption | decide | omega) ?_ | refine brFn (by first | assumption | decide | omega) ?_ | refine And.intro (vp_in_nI (by omega) (by decide)) ?_ | refine And.intro (vp_lit (by decide)) ?_ | refine divJ (by decide) ?_ | refine divI (by decide) ?_)
        try change _ ∧ _
        refine Cl.of r3 (by decide) ?_
        repeat (first | (refine W1 rfl ?_; try refine Wp.norm (L' := [_]) rfl ?_) | ((first | change (_ → _) ∧ (_ → _) | change vp_in _ _ ∧ _ | change ¬ _ ∧ _); simp (disch := omega) only [nI_clamp, nI_leI, nI_ltI, nI_eq, nI_1, nI_add, nI_not_neg, nI_is_pos, nI_m1, nI_z, bI_f]) | refine brT (by first | assumption | decide | omega) ?_ | refine brF (by first | assumption | decide | omega) ?_ | refine brTn (by first | assumption | decide | omega) ?_ | refine brFn (by first | assumption | decide | omega) ?_ | refine And.intro (vp_in_nI (by omega) (by decide)) ?_ | refine And.intro (vp_lit (by decide)) ?_ | refine divJ (by decide) ?_ | refine divI (by decide) ?_)
        try change _ ∧ _
        refine Cl.of r4 (by decide) ?_
        repeat (first | (refine W1 rfl ?_; try refine Wp.norm (L' := [_]) rfl ?_) | ((first | change (_ → _) ∧ (_ → _) | change vp_in _ _ ∧ _ | change ¬ _ ∧ _); simp (disch := omega) only [nI_clamp, nI_leI, nI_ltI, nI_eq, nI_1, nI_add, nI_not_neg, nI_is_pos, nI_m1, nI_z, bI_f]) | refine brT (by first | assumption | decide | omega) ?_ | refine brF (by first | assumption | decide | omega) ?_ | refine brTn (by first | assumption | decide | omega) ?_ | refine brFn (by first | assumption | decide | omega) ?_ | refine And.intro (vp_in_nI (by omega) (by decide)) ?_ | refine And.intro (vp_lit (by decide)) ?_ | refine divJ (by decide) ?_ | refine divI (by decide) ?_)
        try change _ ∧ _
        refine Cl.of r5 (by decide) ?_
        repeat (first | (refine W1 rfl ?_; try refine Wp.norm (L' := [_]) rfl ?_) | ((first | change (_ → _) ∧ (_ → _) | change vp_in _ _ ∧ _ | change ¬ _ ∧ _); simp (disch := omega) only [nI_clamp, nI_leI, nI_ltI, nI_eq, nI_1, nI_add, nI_not_neg, nI_is_pos, nI_m1, nI_z, bI_t]) | refine brT (by first | assumption | decide | omega) ?_ | refine brF (by first | assumption | decide | omega) ?_ | refine brTn (by first | assumption | decide | omega) ?_ | refine brFn (by first | assumption | decide | omega) ?_ | refine And.intro (vp_in_nI (by omega) (by decide)) ?_ | refine And.intro (vp_lit (by decide)) ?_ | refine divJ (by decide) ?_ | refine divI (by decide) ?_)
        try change _ ∧ _
        try first | exact ⟨rfl, rfl⟩ | exact ⟨Or.inr rfl, rfl, rfl⟩ | exact ⟨Or.inl rfl, rfl, rfl⟩ | exact ⟨trivial, trivial⟩ | exact ⟨rfl, trivial⟩ | exact ⟨Or.inr rfl, rfl, trivial⟩ | exact ⟨Or.inl rfl, rfl, trivial⟩
      | false =>
        rw [c5] at r5
        show Run 1 j_M_isProduct _ _ (some (.int 0)) _
        refine Run.of rfl ?_
        refine Wp.norm (L' := [_]) rfl ?_
        repeat (first | (refine W1 rfl ?_; try refine Wp.norm (L' := [_]) rfl ?_) | ((first | change (_ → _) ∧ (_ → _) | change vp_in _ _ ∧ _ | change ¬ _ ∧ _); simp (disch := omega) only [nI_clamp, nI_leI, nI_ltI, nI_eq, nI_1, nI_add, nI_not_neg, nI_is_pos, nI_m1, nI_z]) | refine brT (by first | assumption | decide | omega) ?_ | refine brF (by first | assumption | decide | omega) ?_ | refine brTn (by first | assumption | decide | omega) ?_ | refine brFn (by first | assumption | decide | omega) ?_ | refine And.intro (vp_in_nI (by omega) (by decide)) ?_ | refine And.intro (vp_lit (by decide)) ?_ | refine divJ (by decide) ?_ | refine divI (by decide) ?_)
        try change _ ∧ _
        refine Cl.of r3 (by decide) ?_
        repeat (first | (refine W1 rfl ?_; try refine Wp.norm (L' := [_]) rfl ?_) | ((first | change (_ → _) ∧ (_ → _) | change vp_in _ _ ∧ _ | change ¬ _ ∧ _); simp (disch := omega) only [nI_clamp, nI_leI, nI_ltI, nI_eq, nI_1, nI_add, nI_not_neg, nI_is_pos, nI_m1, nI_z, bI_f]) | refine brT (by first | assumption | decide | omega) ?_ | refine brF (by first | assumption | decide | omega) ?_ | refine brTn (by first | assumption | decide | omega) ?_ | refine brFn (by first | assumption | decide | omega) ?_ | refine And.intro (vp_in_nI (by omega) (by decide)) ?_ | refine And.intro (vp_lit (by decide)) ?_ | refine divJ (by decide) ?_ | refine divI (by decide) ?_)
        try change _ ∧ _
        refine Cl.of r4 (by decide) ?_
        repeat (first | (refine W1 rfl ?_; try refine Wp.norm (L' := [_]) rfl ?_) | ((first | change (_ → _) ∧ (_ → _) | change vp_in _ _ ∧ _ | change ¬ _ ∧ _); simp (disch := omega) only [nI_clamp, nI_leI, nI_ltI, nI_eq, nI_1, nI_add, nI_not_neg, nI_is_pos, nI_m1, nI_z, bI_f]) | refine brT (by first | assumption | decide | omega) ?_ | refine brF (by first | assumption | decide | omega) ?_ | refine brTn (by first | assumption | decide | omega) ?_ | refine brFn (by first | assumption | decide | omega) ?_ | refine And.intro (vp_in_nI (by omega) (by decide)) ?_ | refine And.intro (vp_lit (by decide)) ?_ | refine divJ (by decide) ?_ | refine divI (by decide) ?_)
        try change _ ∧ _
        refine Cl.of r5 (by decide) ?_
        repeat (first | (refine W1 rfl ?_; try refine Wp.norm (L' := [_]) rfl ?_) | ((first | change (_ → _) ∧ (_ → _) | change vp_in _ _ ∧ _ | change ¬ _ ∧ _); simp (disch := omega) only [nI_clamp, nI_leI, nI_ltI, nI_eq, nI_1, nI_add, nI_not_neg, nI_is_pos, nI_m1, nI_z, bI_f]) | refine brT (by first | assumption | decide | omega) ?_ | refine brF (by first | assumption | decide | omega) ?_ | refine brTn (by first | assumption | decide | omega) ?_ | refine brFn (by first | assumption | decide | omega) ?_ | refine And.intro (vp_in_nI (by omega) (by decide)) ?_ | refine And.intro (vp_lit (by decide)) ?_ | refine divJ (by decide) ?_ | refine divI (by decide) ?_)
        try change _ ∧ _
        try first | exact ⟨rfl, rfl⟩ | exact ⟨Or.inr rfl, rfl, rfl⟩ | exact ⟨Or.inl rfl, rfl, rfl⟩ | exact ⟨trivial, trivial⟩ | exact ⟨rfl, trivial⟩ | exact ⟨Or.inr rfl, rfl, trivial⟩ | exact ⟨Or.inl rfl, rfl, trivial⟩
end MSTK
