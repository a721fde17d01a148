/-! ===== THE MODEL'S STACK: marks ===== -/
def opn : List Nat → Nat
  | [] => 0
  | x :: W => opn W + (if x = 16 ∨ x = 20 ∨ x = 25 then 1 else 0)
def uW (U : List Nat) : Prop := ∀ x, x ∈ U → x = 20 ∨ (1 ≤ x ∧ x ≤ 5)
def vW (V : List Nat) : Prop := ∀ x, x ∈ V → x = 14 ∨ x = 15 ∨ x = 16 ∨ x = 25
def prdB : List Nat → Bool
  | [] => false
  | x :: _ => decide (isPr x)
def QF (f p : Nat) (h : HP) : Prop := LF f p h ∧ ∃ k, k ≤ 901 ∧ h.1 65 48 = nI k
theorem opn_app (U V : List Nat) : opn (U ++ V) = opn U + opn V := by
  induction U with
  | nil => show opn V = 0 + opn V; omega
  | cons x U ih =>
    show opn (U ++ V) + _ = _
    rw [ih]
    exact Nat.add_right_comm _ _ _
theorem opn_0 : ∀ {A : List Nat}, (∀ x, x ∈ A → 1 ≤ x ∧ x ≤ 5) → opn A = 0
  | [], _ => rfl
  | x :: A, h => by
    have hx := h x (by simp)
    show opn A + _ = 0
    rw [if_neg (by omega), opn_0 (fun y hy => h y (by simp [hy]))]
theorem opn_1 {x : Nat} {W : List Nat} (h : x = 16 ∨ x = 20 ∨ x = 25) : opn (x :: W) = opn W + 1 := by
  show opn W + _ = _
  rw [if_pos h]
theorem opn_2 {x : Nat} {W : List Nat} (h : ¬ (x = 16 ∨ x = 20 ∨ x = 25)) : opn (x :: W) = opn W := by
  show opn W + _ = _
  rw [if_neg h]
  rfl
theorem uW.t {x : Nat} {U : List Nat} (h : uW (x :: U)) : uW U := fun y hy => h y (by simp [hy])
theorem vW.t {x : Nat} {U : List Nat} (h : vW (x :: U)) : vW U := fun y hy => h y (by simp [hy])
theorem uW.c {x : Nat} {U : List Nat} (h : uW U) (hx : x = 20 ∨ (1 ≤ x ∧ x ≤ 5)) : uW (x :: U) := fun y hy => by
  rcases List.mem_cons.mp hy with z | z
  · rw [z]; exact hx
  · exact h y z
theorem vW.c {x : Nat} {U : List Nat} (h : vW U) (hx : x = 14 ∨ x = 15 ∨ x = 16 ∨ x = 25) : vW (x :: U) := fun y hy => by
  rcases List.mem_cons.mp hy with z | z
  · rw [z]; exact hx
  · exact h y z
theorem uv_100 {U V : List Nat} (hu : uW U) (hv : vW V) : ∀ y, y ∈ U ++ V → y < 100 := fun y hy => by
  rcases List.mem_append.mp hy with z | z
  · have := hu y z; omega
  · have := hv y z; omega
theorem u_split : ∀ {U : List Nat}, uW U → 20 ∈ U → ∃ A R, U = A ++ 20 :: R ∧ (∀ x, x ∈ A → 1 ≤ x ∧ x ≤ 5) ∧ uW R
  | [], _, h => by simp at h
  | x :: U, hu, h => by
    by_cases c : x = 20
    · exact ⟨[], U, by rw [c]; rfl, fun x hx => by simp at hx, hu.t⟩
    · have h2 : 20 ∈ U := by
        rcases List.mem_cons.mp h with z | z
        · exact absurd z.symm c
        · exact z
      obtain ⟨A, R, e, hA, hR⟩ := u_split hu.t h2
      refine ⟨x :: A, R, by rw [e]; rfl, fun y hy => ?_, hR⟩
      rcases List.mem_cons.mp hy with z | z
      · rw [z]; exact (hu x (by simp)).resolve_left c
      · exact hA y z
theorem u_none {U : List Nat} (hu : uW U) (h : ¬ 20 ∈ U) : ∀ x, x ∈ U → 1 ≤ x ∧ x ≤ 5 := fun x hx => (hu x hx).resolve_left (fun z => h (by rw [← z]; exact hx))
theorem nI_pl {k : Nat} (hk : k < 2 ^ 20) : (nI k - 1 : Int32) < nI k := by
  cases k with
  | zero => decide
  | succ k => rw [nI_s1, nI_ltI (by omega) (by omega)]; omega
section MMK
variable {b : Nat → Nat} {n i : Nat} {h h' : HP} {s : ST} {C W : List Nat} {B d : Nat}
theorem q_popA {R : List Nat} : ∀ (A C : List Nat), (∀ x, x ∈ A → 1 ≤ x ∧ x ≤ 5) → fctC (sgV b n i) = 0 → qGo b n (1, i, A ++ R, d, C, s) (1, i, R, d, C ++ A, s)
  | [], C, _, _ => by rw [List.append_nil]; exact qGo.rfl _
  | x :: A, C, hA, hf => by
    have hx := hA x (by simp)
    have h2 := q_popA (R := R) A (C ++ [x]) (fun y hy => hA y (by simp [hy])) hf
    rw [List.append_assoc] at h2
    refine qGo.st ?_ h2
    by_cases c : isPr x
    · exact qA_pr c
    · have c' : ¬ (x = 3 ∨ x = 4 ∨ x = 5) := c
      exact qA_tr c hf (show x = 1 ∨ x = 2 by omega)
theorem ML.i9 (M : ML b n i h) : i ≤ 900 := by
  have h1 := ps_i i M.hi
  have h2 := ps_le (b := b) (n := n) i
  have h3 := M.T.1
  omega
theorem ML.i8 (M : ML b n i h) (hp : ps b n i < n) : i < 900 := by
  have h1 := ps_i i M.hi
  have h3 := M.T.1
  omega
theorem MK.psh {x : Nat} (M : MK b n i C W B d h) (hl : W.length < 900) : MK b n i C (x :: W) B d (wI (wI h 104 W.length (nI x)) 65 50 (nI (W.length + 1))) := by
  obtain ⟨L, c, S, ⟨e1, e2, e3⟩, w, d6⟩ := M
  refine ⟨(L.wk (Or.inr rfl)).wf (by decide), ⟨c.1, c.2.1, c.2.2⟩, ⟨?_, SK.o (by decide) (SK.w S (Nat.le_refl _))⟩, ⟨rfl, e2, e3⟩, hl, d6⟩
  rw [wI_ne _ _ _ (by decide)]
  exact wI_same _ _ _ _
theorem MK.wo {d' : Nat} (M : MK b n i C W B d h) (hd : d' ≤ 6) : MK b n i C W B d' (wI h 65 51 (nI d')) := by
  obtain ⟨L, c, S, ⟨e1, e2, e3⟩, w, d6⟩ := M
  exact ⟨L.wf (by decide), ⟨c.1, c.2.1, c.2.2⟩, SK.o (by decide) S, ⟨e1, rfl, e3⟩, w, hd⟩
theorem MK.wb {B' : Nat} (M : MK b n i C W B d h) : MK b n i C W B' d (wI h 65 52 (nI B')) := by
  obtain ⟨L, c, S, ⟨e1, e2, e3⟩, w, d6⟩ := M
  exact ⟨L.wf (by decide), ⟨c.1, c.2.1, c.2.2⟩, SK.o (by decide) S, ⟨e1, e2, rfl⟩, w, d6⟩
theorem MK.pop {x : Nat} (M : MK b n i C (x :: W) B d h) : MK b n i C W B d (wI h 65 50 (nI W.length)) := by
  obtain ⟨L, c, S, ⟨e1, e2, e3⟩, w, d6⟩ := M
  have w : W.length + 1 ≤ 900 := w
  exact ⟨L.wf (by decide), ⟨c.1, c.2.1, c.2.2⟩, SK.o (by decide) S.2, ⟨rfl, e2, e3⟩, by omega, d6⟩
theorem MK.sgn (M : MK b n i C W B d h) (hp : ps b n i < n) (hw : wnB b (ps b n i) = false) : MK b n (i + 1) C W B d (wI h 65 2 (nI (ps b n i + 1))) := M.lx ((LX.rfl h).a (by decide)) (M.L.sg hp hw)
theorem MK.lk (M : MK b n i C W B d h) : MK b n i C W B d (wI h 65 2 (nI (ps b n i))) := M.lx ((LX.rfl h).a (by decide)) M.L.lk
theorem MK.rl (M : MK b n i C W B d h) : Run 0 j_M_look [.ref 65] h (some (.int (lkV b n (ps b n i)))) (wI h 65 2 (nI (ps b n i))) := r_look M.L.T M.L.A
theorem q_opens {x : Nat} (y : Int32) (M : MK b n i C W B d h) (hd : d < 6) (hw : W.length < 900) : ∃ h', Run 1 j_M_opens [.ref 65, .int (nI x), .int y] h none h' ∧ TX h h' ∧ MK b n i C (x :: W) B (d + 1) h' ∧ h'.1 65 2 = h.1 65 2 := by
  have e50 := M.e50
  have e51 := M.e51
  have M1 := (M.wo (d' := d + 1) (by omega)).psh (x := x) hw
  refine ⟨_, ?_, (((TX.rfl h).a (by decide)).k (by decide)).a (by decide), M1, rfl⟩
  show Run 1 j_M_opens _ _ _ _
  refine Run.of rfl ?_
  refine Wp.norm (L' := [_, _, _]) rfl ?_
  repeat (first | (refine W1 rfl ?_; try refine Wp.norm (L' := [_, _, _]) rfl ?_) | ((first | change (_ → _) ∧ (_ → _) | change vp_in _ _ ∧ _ | change ¬ _ ∧ _); simp (disch := omega) only [nI_clamp, nI_leI, nI_ltI, nI_eq, nI_1, nI_add, nI_not_neg, nI_is_pos, nI_m1, nI_z, e51, e50, wI_ne, wI_ne2, wI_same, show (6 : Int32) = nI 6 from rfl]) | refine brT (by first | assumption | decide | omega) ?_ | refine brF (by first | assumption | decide | omega) ?_ | refine brTn (by first | assumption | decide | omega) ?_ | refine brFn (by first | assumption | decide | omega) ?_ | refine And.intro (vp_in_nI (by omega) (by decide)) ?_ | refine And.intro (vp_lit (by decide)) ?_ | refine divJ (by decide) ?_ | refine divI (by decide) ?_)
  try change _ ∧ _
  try simp (disch := omega) only [e51, e50, wI_ne, wI_ne2, wI_same, nI_clamp, nI_1, nI_add]
  first | done | exact ⟨trivial, rfl⟩ | exact ⟨rfl, rfl⟩ | exact ⟨trivial, trivial⟩
theorem q_opens6 {x : Int32} {p : Nat} (M : MK b n i C W B 6 h) : Run 1 j_M_opens [.ref 65, .int x, .int (nI p)] h none (wI (wI h 65 5 (nI 4)) 65 6 (nI p)) := by
  have e51 := M.e51
  have f0 := M.L.f0
  have r := r_M_fail0 (nI 4) (nI p) f0
  show Run 1 j_M_opens _ _ _ _
  refine Run.of rfl ?_
  refine Wp.norm (L' := [_, _, _]) rfl ?_
  repeat (first | (refine W1 rfl ?_; try refine Wp.norm (L' := [_, _, _]) rfl ?_) | ((first | change (_ → _) ∧ (_ → _) | change vp_in _ _ ∧ _ | change ¬ _ ∧ _); simp (disch := omega) only [nI_clamp, nI_leI, nI_ltI, nI_eq, nI_1, nI_add, nI_not_neg, nI_is_pos, nI_m1, nI_z, e51, show (6 : Int32) = nI 6 from rfl]) | refine brT (by first | assumption | decide | omega) ?_ | refine brF (by first | assumption | decide | omega) ?_ | refine brTn (by first | assumption | decide | omega) ?_ | refine brFn (by first | assumption | decide | omega) ?_ | refine And.intro (vp_in_nI (by omega) (by decide)) ?_ | refine And.intro (vp_lit (by decide)) ?_ | refine divJ (by decide) ?_ | refine divI (by decide) ?_)
  try change _ ∧ _
  refine Cl.of r (by decide) ?_
  repeat (first | (refine W1 rfl ?_; try refine Wp.norm (L' := [_, _, _]) rfl ?_) | ((first | change (_ → _) ∧ (_ → _) | change vp_in _ _ ∧ _ | change ¬ _ ∧ _); simp (disch := omega) only [nI_clamp, nI_leI, nI_ltI, nI_eq, nI_1, nI_add, nI_not_neg, nI_is_pos, nI_m1, nI_z]) | refine brT (by first | assumption | decide | omega) ?_ | refine brF (by first | assumption | decide | omega) ?_ | refine brTn (by first | assumption | decide | omega) ?_ | refine brFn (by first | assumption | decide | omega) ?_ | refine And.intro (vp_in_nI (by omega) (by decide)) ?_ | refine And.intro (vp_lit (by decide)) ?_ | refine divJ (by decide) ?_ | refine divI (by decide) ?_)
  try change _ ∧ _
  try first | exact ⟨rfl, rfl⟩ | exact ⟨Or.inr rfl, rfl, rfl⟩ | exact ⟨Or.inl rfl, rfl, rfl⟩ | exact ⟨trivial, trivial⟩ | exact ⟨rfl, trivial⟩ | exact ⟨Or.inr rfl, rfl, trivial⟩ | exact ⟨Or.inl rfl, rfl, trivial⟩
theorem r_isMark (h : HP) {x : Nat} (hx : x < 100) : Run 0 j_M_isMark [.ref 65, .int (nI x)] h (some (.int (bI (decide (x = 20))))) h := by
  by_cases c : x = 20
  · subst c
    rw [decide_eq_true rfl, bI_t]
    refine Run.of rfl ?_
    refine Wp.norm (L' := [_, _]) rfl ?_
    repeat (first | (refine W1 rfl ?_; try refine Wp.norm (L' := [_, _]) rfl ?_) | ((first | change (_ → _) ∧ (_ → _) | change vp_in _ _ ∧ _ | change ¬ _ ∧ _); simp (disch := omega) only [nI_clamp, nI_leI, nI_ltI, nI_eq, nI_1, nI_add, nI_not_neg, nI_is_pos, nI_m1, nI_z]) | refine brT (by first | assumption | decide | omega) ?_ | refine brF (by first | assumption | decide | omega) ?_ | refine brTn (by first | assumption | decide | omega) ?_ | refine brFn (by first | assumption | decide | omega) ?_ | refine And.intro (vp_in_nI (by omega) (by decide)) ?_ | refine And.intro (vp_lit (by decide)) ?_ | refine divJ (by decide) ?_ | refine divI (by decide) ?_)
    try change _ ∧ _
    try first | exact ⟨rfl, rfl⟩ | exact ⟨Or.inr rfl, rfl, rfl⟩ | exact ⟨Or.inl rfl, rfl, rfl⟩ | exact ⟨trivial, trivial⟩ | exact ⟨rfl, trivial⟩ | exact ⟨Or.inr rfl, rfl, trivial⟩ | exact ⟨Or.inl rfl, rfl, trivial⟩
  · rw [decide_eq_false c, bI_f]
    refine Run.of rfl ?_
    refine Wp.norm (L' := [_, _]) rfl ?_
    repeat (first | (refine W1 rfl ?_; try refine Wp.norm (L' := [_, _]) rfl ?_) | ((first | change (_ → _) ∧ (_ → _) | change vp_in _ _ ∧ _ | change ¬ _ ∧ _); simp (disch := omega) only [nI_clamp, nI_leI, nI_ltI, nI_eq, nI_1, nI_add, nI_not_neg, nI_is_pos, nI_m1, nI_z, show (20 : Int32) = nI 20 from rfl]) | refine brT (by first | assumption | decide | omega) ?_ | refine brF (by first | assumption | decide | omega) ?_ | refine brTn (by first | assumption | decide | omega) ?_ | refine brFn (by first | assumption | decide | omega) ?_ | refine And.intro (vp_in_nI (by omega) (by decide)) ?_ | refine And.intro (vp_lit (by decide)) ?_ | refine divJ (by decide) ?_ | refine divI (by decide) ?_)
    try change _ ∧ _
    try first | exact ⟨rfl, rfl⟩ | exact ⟨Or.inr rfl, rfl, rfl⟩ | exact ⟨Or.inl rfl, rfl, rfl⟩ | exact ⟨trivial, trivial⟩ | exact ⟨rfl, trivial⟩ | exact ⟨Or.inr rfl, rfl, trivial⟩ | exact ⟨Or.inl rfl, rfl, trivial⟩
theorem q_mark {U V : List Nat} (M : MK b n i C (U ++ V) V.length d h) (hu : uW U) : Run 1 j_M_mark [.ref 65] h (some (.int (if 20 ∈ U then 20 else -1))) h := by
  have e50 := M.e50
  have e52 := M.e52
  have wl := M.wl
  have S := M.S
  rw [List.length_append] at e50 wl
  have lp : ∀ T : List Nat, SK (T ++ V) h → T.length ≤ U.length → uW T → Wp 1 j_M_mark 7 [.ref 65, .int (nI (T.length + V.length) - 1)] [] h (fun v2 h2 => v2 = some (.int (if 20 ∈ T then 20 else -1)) ∧ h2 = h) := by
    intro T
    induction T with
    | nil =>
      intro _ _ _
      have hlt : (nI V.length - 1 : Int32) < nI V.length := nI_pl (by omega)
      rw [if_neg (by simp), show ([] : List Nat).length + V.length = V.length by simp]
      show Wp 1 j_M_mark _ _ _ _ _
      repeat (first | (refine W1 rfl ?_; try refine Wp.norm (L' := [_, _]) rfl ?_) | ((first | change (_ → _) ∧ (_ → _) | change vp_in _ _ ∧ _ | change ¬ _ ∧ _); simp (disch := omega) only [nI_clamp, nI_leI, nI_ltI, nI_eq, nI_1, nI_add, nI_not_neg, nI_is_pos, nI_m1, nI_z, e52]) | refine brT (by first | assumption | decide | omega) ?_ | refine brF (by first | assumption | decide | omega) ?_ | refine brTn (by first | assumption | decide | omega) ?_ | refine brFn (by first | assumption | decide | omega) ?_ | refine And.intro (vp_in_nI (by omega) (by decide)) ?_ | refine And.intro (vp_lit (by decide)) ?_ | refine divJ (by decide) ?_ | refine divI (by decide) ?_)
      try change _ ∧ _
      try first | exact ⟨rfl, rfl⟩ | exact ⟨Or.inr rfl, rfl, rfl⟩ | exact ⟨Or.inl rfl, rfl, rfl⟩ | exact ⟨trivial, trivial⟩ | exact ⟨rfl, trivial⟩ | exact ⟨Or.inr rfl, rfl, trivial⟩ | exact ⟨Or.inl rfl, rfl, trivial⟩
    | cons x T ih =>
      intro S hl hu
      have hl : T.length + 1 ≤ U.length := hl
      have S1 : h.1 104 (T ++ V).length = nI x := S.1
      rw [List.length_append] at S1
      have hx := hu x (by simp)
      have rm := r_isMark h (x := x) (by omega)
      have e1 : (nI ((x :: T).length + V.length) - 1 : Int32) = nI (T.length + V.length) := by
        rw [show (x :: T).length + V.length = T.length + V.length + 1 by rw [List.length_cons]; omega]
        exact nI_s1 _
      rw [e1]
      by_cases c : x = 20
      · rw [if_pos (by rw [c]; simp)]
        rw [decide_eq_true c, bI_t] at rm
        subst c
        show Wp 1 j_M_mark _ _ _ _ _
        repeat (first | (refine W1 rfl ?_; try refine Wp.norm (L' := [_, _]) rfl ?_) | ((first | change (_ → _) ∧ (_ → _) | change vp_in _ _ ∧ _ | change ¬ _ ∧ _); simp (disch := omega) only [nI_clamp, nI_leI, nI_ltI, nI_eq, nI_1, nI_add, nI_not_neg, nI_is_pos, nI_m1, nI_z, e52, S1]) | refine brT (by first | assumption | decide | omega) ?_ | refine brF (by first | assumption | decide | omega) ?_ | refine brTn (by first | assumption | decide | omega) ?_ | refine brFn (by first | assumption | decide | omega) ?_ | refine And.intro (vp_in_nI (by omega) (by decide)) ?_ | refine And.intro (vp_lit (by decide)) ?_ | refine divJ (by decide) ?_ | refine divI (by decide) ?_)
        try change _ ∧ _
        refine Cl.ofA rm (by first | done | rfl | (simp (disch := omega) only [nI_1, nI_add, nI_clamp, S1] <;> first | done | rfl)) (by decide) ?_
        repeat (first | (refine W1 rfl ?_; try refine Wp.norm (L' := [_, _]) rfl ?_) | ((first | change (_ → _) ∧ (_ → _) | change vp_in _ _ ∧ _ | change ¬ _ ∧ _); simp (disch := omega) only [nI_clamp, nI_leI, nI_ltI, nI_eq, nI_1, nI_add, nI_not_neg, nI_is_pos, nI_m1, nI_z, e52, S1]) | refine brT (by first | assumption | decide | omega) ?_ | refine brF (by first | assumption | decide | omega) ?_ | refine brTn (by first | assumption | decide | omega) ?_ | refine brFn (by first | assumption | decide | omega) ?_ | refine And.intro (vp_in_nI (by omega) (by decide)) ?_ | refine And.intro (vp_lit (by decide)) ?_ | refine divJ (by decide) ?_ | refine divI (by decide) ?_)
        try change _ ∧ _
        exact ⟨rfl, rfl⟩
      · rw [decide_eq_false c, bI_f] at rm
        rw [show (if 20 ∈ x :: T then (20 : Int32) else -1) = (if 20 ∈ T then 20 else -1) by simp [Ne.symm c]]
        have ih := ih S.2 (by omega) hu.t
        rw [Int32.sub_eq_add_neg] at ih
        show Wp 1 j_M_mark _ _ _ _ _
        repeat (first | (refine W1 rfl ?_; try refine Wp.norm (L' := [_, _]) rfl ?_) | ((first | change (_ → _) ∧ (_ → _) | change vp_in _ _ ∧ _ | change ¬ _ ∧ _); simp (disch := omega) only [nI_clamp, nI_leI, nI_ltI, nI_eq, nI_1, nI_add, nI_not_neg, nI_is_pos, nI_m1, nI_z, e52, S1]) | refine brT (by first | assumption | decide | omega) ?_ | refine brF (by first | assumption | decide | omega) ?_ | refine brTn (by first | assumption | decide | omega) ?_ | refine brFn (by first | assumption | decide | omega) ?_ | refine And.intro (vp_in_nI (by omega) (by decide)) ?_ | refine And.intro (vp_lit (by decide)) ?_ | refine divJ (by decide) ?_ | refine divI (by decide) ?_)
        try change _ ∧ _
        refine Cl.ofA rm (by first | done | rfl | (simp (disch := omega) only [nI_1, nI_add, nI_clamp, S1] <;> first | done | rfl)) (by decide) ?_
        repeat (first | refine Wp.at ih rfl rfl ?_ rfl | (refine W1 rfl ?_; try refine Wp.norm (L' := [_, _]) rfl ?_) | ((first | change (_ → _) ∧ (_ → _) | change vp_in _ _ ∧ _ | change ¬ _ ∧ _); simp (disch := omega) only [nI_clamp, nI_leI, nI_ltI, nI_eq, nI_1, nI_add, nI_not_neg, nI_is_pos, nI_m1, nI_z]) | refine brT (by first | assumption | decide | omega) ?_ | refine brF (by first | assumption | decide | omega) ?_ | refine brTn (by first | assumption | decide | omega) ?_ | refine brFn (by first | assumption | decide | omega) ?_ | refine And.intro (vp_in_nI (by omega) (by decide)) ?_ | refine And.intro (vp_lit (by decide)) ?_ | refine divJ (by decide) ?_ | refine divI (by decide) ?_)
        try change _ ∧ _
        first | done | rfl | (simp (disch := omega) only [nI_1, nI_add, nI_clamp] <;> first | done | rfl)
  have ih := lp U S (Nat.le_refl _) hu
  refine Run.of rfl ?_
  refine Wp.norm (L' := [_, _]) rfl ?_
  repeat (first | refine Wp.at ih rfl rfl ?_ rfl | (refine W1 rfl ?_; try refine Wp.norm (L' := [_, _]) rfl ?_) | ((first | change (_ → _) ∧ (_ → _) | change vp_in _ _ ∧ _ | change ¬ _ ∧ _); simp (disch := omega) only [nI_clamp, nI_leI, nI_ltI, nI_eq, nI_1, nI_add, nI_not_neg, nI_is_pos, nI_m1, nI_z, e50]) | refine brT (by first | assumption | decide | omega) ?_ | refine brF (by first | assumption | decide | omega) ?_ | refine brTn (by first | assumption | decide | omega) ?_ | refine brFn (by first | assumption | decide | omega) ?_ | refine And.intro (vp_in_nI (by omega) (by decide)) ?_ | refine And.intro (vp_lit (by decide)) ?_ | refine divJ (by decide) ?_ | refine divI (by decide) ?_)
  try change _ ∧ _
  first | done | rfl | (simp (disch := omega) only [nI_1, nI_add, nI_clamp, e50] <;> first | done | rfl)
theorem q_dropsToMark {A R : List Nat} (M : MK b n i C (A ++ 20 :: R) B d h) (hA : ∀ x, x ∈ A → 1 ≤ x ∧ x ≤ 5) (hB : B ≤ R.length) (hl : C.length + A.length ≤ 900) : ∃ w h', Run 2 j_M_dropsToMark [.ref 65] h w h' ∧ (w = none ∧ TX h h' ∧ MK b n i (C ++ A) (20 :: R) B d h') := by
  refine Run.ofP rfl ?_
  refine Wp.norm (L' := [_]) rfl ?_
  generalize hQQ : (fun (w : Option Value) (h' : HP) => w = none ∧ TX h h' ∧ MK b n i (C ++ A) (20 :: R) B d h') = QQ
  have lp : ∀ (T D : List Nat) (g : HP), MK b n i D (T ++ 20 :: R) B d g → TX h g → D ++ T = C ++ A → (∀ x, x ∈ T → 1 ≤ x ∧ x ≤ 5) → Wp 2 j_M_dropsToMark 0 [.ref 65] [] g QQ := by
    intro T
    induction T with
    | nil =>
      intro D g M F e hT
      have e50 : g.1 65 50 = nI (R.length + 1) := M.e50
      have e52 := M.e52
      have wl : R.length + 1 ≤ 900 := M.wl
      have es : g.1 104 R.length = nI 20 := M.S.1
      have rm := r_isMark g (x := 20) (by decide)
      rw [decide_eq_true rfl, bI_t] at rm
      show Wp 2 j_M_dropsToMark _ _ _ _ _
      repeat (first | (refine W1 rfl ?_; try refine Wp.norm (L' := [_]) rfl ?_) | ((first | change (_ → _) ∧ (_ → _) | change vp_in _ _ ∧ _ | change ¬ _ ∧ _); simp (disch := omega) only [nI_clamp, nI_leI, nI_ltI, nI_eq, nI_1, nI_add, nI_not_neg, nI_is_pos, nI_m1, nI_z, e50, e52, nI_s1]) | refine brT (by first | assumption | decide | omega) ?_ | refine brF (by first | assumption | decide | omega) ?_ | refine brTn (by first | assumption | decide | omega) ?_ | refine brFn (by first | assumption | decide | omega) ?_ | refine And.intro (vp_in_nI (by omega) (by decide)) ?_ | refine And.intro (vp_lit (by decide)) ?_ | refine divJ (by decide) ?_ | refine divI (by decide) ?_)
      try change _ ∧ _
      refine Cl.ofA rm (by first | done | rfl | (simp (disch := omega) only [nI_1, nI_add, nI_clamp, e50, nI_s1, es] <;> first | done | rfl)) (by decide) ?_
      repeat (first | (refine W1 rfl ?_; try refine Wp.norm (L' := [_]) rfl ?_) | ((first | change (_ → _) ∧ (_ → _) | change vp_in _ _ ∧ _ | change ¬ _ ∧ _); simp (disch := omega) only [nI_clamp, nI_leI, nI_ltI, nI_eq, nI_1, nI_add, nI_not_neg, nI_is_pos, nI_m1, nI_z]) | refine brT (by first | assumption | decide | omega) ?_ | refine brF (by first | assumption | decide | omega) ?_ | refine brTn (by first | assumption | decide | omega) ?_ | refine brFn (by first | assumption | decide | omega) ?_ | refine And.intro (vp_in_nI (by omega) (by decide)) ?_ | refine And.intro (vp_lit (by decide)) ?_ | refine divJ (by decide) ?_ | refine divI (by decide) ?_)
      try change _ ∧ _
      rw [← hQQ]
      refine ⟨rfl, F, ?_⟩
      rw [← e, List.append_nil]
      exact M
    | cons x T ih =>
      intro D g M F e hT
      have e50 : g.1 65 50 = nI ((T ++ 20 :: R).length + 1) := M.e50
      have e52 := M.e52
      have wl : (T ++ 20 :: R).length + 1 ≤ 900 := M.wl
      have es : g.1 104 (T ++ 20 :: R).length = nI x := M.S.1
      have hle : R.length < (T ++ 20 :: R).length := by rw [List.length_append, List.length_cons]; omega
      have hx := hT x (by simp)
      have rm := r_isMark g (x := x) (by omega)
      rw [decide_eq_false (by omega), bI_f] at rm
      have hD := congrArg List.length e
      rw [List.length_append, List.length_append, List.length_cons] at hD
      obtain ⟨g', r, F', M'⟩ := q_drops M (by omega)
      have ih := ih (D ++ [x]) g' M' (F.trans F') (by rw [List.append_assoc]; exact e) (fun y hy => hT y (by simp [hy]))
      generalize (T ++ 20 :: R).length = len at *
      show Wp 2 j_M_dropsToMark _ _ _ _ _
      repeat (first | (refine W1 rfl ?_; try refine Wp.norm (L' := [_]) rfl ?_) | ((first | change (_ → _) ∧ (_ → _) | change vp_in _ _ ∧ _ | change ¬ _ ∧ _); simp (disch := omega) only [nI_clamp, nI_leI, nI_ltI, nI_eq, nI_1, nI_add, nI_not_neg, nI_is_pos, nI_m1, nI_z, e50, e52, nI_s1]) | refine brT (by first | assumption | decide | omega) ?_ | refine brF (by first | assumption | decide | omega) ?_ | refine brTn (by first | assumption | decide | omega) ?_ | refine brFn (by first | assumption | decide | omega) ?_ | refine And.intro (vp_in_nI (by omega) (by decide)) ?_ | refine And.intro (vp_lit (by decide)) ?_ | refine divJ (by decide) ?_ | refine divI (by decide) ?_)
      try change _ ∧ _
      refine Cl.ofA rm (by first | done | rfl | (simp (disch := omega) only [nI_1, nI_add, nI_clamp, e50, nI_s1, es] <;> first | done | rfl)) (by decide) ?_
      repeat (first | (refine W1 rfl ?_; try refine Wp.norm (L' := [_]) rfl ?_) | ((first | change (_ → _) ∧ (_ → _) | change vp_in _ _ ∧ _ | change ¬ _ ∧ _); simp (disch := omega) only [nI_clamp, nI_leI, nI_ltI, nI_eq, nI_1, nI_add, nI_not_neg, nI_is_pos, nI_m1, nI_z]) | refine brT (by first | assumption | decide | omega) ?_ | refine brF (by first | assumption | decide | omega) ?_ | refine brTn (by first | assumption | decide | omega) ?_ | refine brFn (by first | assumption | decide | omega) ?_ | refine And.intro (vp_in_nI (by omega) (by decide)) ?_ | refine And.intro (vp_lit (by decide)) ?_ | refine divJ (by decide) ?_ | refine divI (by decide) ?_)
      try change _ ∧ _
      refine Cl.of r (by decide) ?_
      repeat (first | refine Wp.at ih rfl rfl ?_ rfl | (refine W1 rfl ?_; try refine Wp.norm (L' := [_]) rfl ?_) | ((first | change (_ → _) ∧ (_ → _) | change vp_in _ _ ∧ _ | change ¬ _ ∧ _); simp (disch := omega) only [nI_clamp, nI_leI, nI_ltI, nI_eq, nI_1, nI_add, nI_not_neg, nI_is_pos, nI_m1, nI_z]) | refine brT (by first | assumption | decide | omega) ?_ | refine brF (by first | assumption | decide | omega) ?_ | refine brTn (by first | assumption | decide | omega) ?_ | refine brFn (by first | assumption | decide | omega) ?_ | refine And.intro (vp_in_nI (by omega) (by decide)) ?_ | refine And.intro (vp_lit (by decide)) ?_ | refine divJ (by decide) ?_ | refine divI (by decide) ?_)
      try change _ ∧ _
      first | done | rfl | (simp (disch := omega) only [nI_1, nI_add, nI_clamp] <;> first | done | rfl)
  exact lp A C h M (TX.rfl h) rfl hA
end MMK
