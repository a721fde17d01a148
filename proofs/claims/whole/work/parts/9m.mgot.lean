/-! ===== THE MODEL GOES ON BEHIND A FACT ===== -/
def aV : List Nat → Prop
  | [] => True
  | x :: V => ((x = 14 ∨ x = 15) → topB V 16 = false) ∧ aV V
section MGT
variable {b : Nat → Nat} {n i : Nat} {h h' : HP} {s : ST} {C W V : List Nat} {B d : Nat}
theorem v_100 (hv : vW V) : ∀ y, y ∈ V → y < 100 := fun y hy => by have := hv y hy; omega
theorem sk_mem : ∀ {W : List Nat}, SK W h → (∀ y, y ∈ W → y < 100) → (25 ∈ W ↔ ∃ k, k < W.length ∧ h.1 104 k = nI 25)
  | [], _, _ => ⟨fun z => by simp at z, fun ⟨k, hk, _⟩ => by simp at hk⟩
  | x :: W, S, hW => by
    have ih := sk_mem S.2 (fun y hy => hW y (by simp [hy]))
    have hx := hW x (by simp)
    constructor
    · intro z
      rcases List.mem_cons.mp z with z | z
      · exact ⟨W.length, Nat.lt_succ_self _, by rw [z]; exact S.1⟩
      · obtain ⟨k, hk, e⟩ := ih.mp z
        exact ⟨k, Nat.lt_succ_of_lt hk, e⟩
    · rintro ⟨k, hk, e⟩
      have hk : k < W.length + 1 := hk
      by_cases c : k = W.length
      · rw [c, S.1, nI_eq (by omega) (by decide)] at e
        rw [e]; simp
      · exact List.mem_cons_of_mem _ (ih.mpr ⟨k, by omega, e⟩)
theorem q_hasSquare (M : MK b n i C W B d h) (hW : ∀ y, y ∈ W → y < 100) : Run 0 j_M_hasSquare [.ref 65] h (some (.int (bI (decide (25 ∈ W))))) h := by
  have e50 := M.e50
  have wl := M.wl
  have hm := sk_mem M.S hW
  have lp : ∀ k, k ≤ W.length → (∀ j, j < k → ¬ h.1 104 j = nI 25) → Wp 0 j_M_hasSquare 2 [.ref 65, .int (nI k)] [] h (fun v2 h2 => v2 = some (.int (bI (decide (25 ∈ W)))) ∧ h2 = h) := by
    refine up_ind ?_ (fun k hk ih => ?_)
    · intro hj
      rw [decide_eq_false (fun z => by obtain ⟨k, hk, e⟩ := hm.mp z; exact hj k hk e), bI_f]
      show Wp 0 j_M_hasSquare _ _ _ _ _
      repeat (first | (refine W1 rfl ?_; try refine Wp.norm (L' := [_, _]) rfl ?_) | ((first | change (_ → _) ∧ (_ → _) | change vp_in _ _ ∧ _ | change ¬ _ ∧ _); simp (disch := omega) only [nI_clamp, nI_leI, nI_ltI, nI_eq, nI_1, nI_add, nI_not_neg, nI_is_pos, nI_m1, nI_z, e50]) | refine brT (by first | assumption | decide | omega) ?_ | refine brF (by first | assumption | decide | omega) ?_ | refine brTn (by first | assumption | decide | omega) ?_ | refine brFn (by first | assumption | decide | omega) ?_ | refine And.intro (vp_in_nI (by omega) (by decide)) ?_ | refine And.intro (vp_lit (by decide)) ?_ | refine divJ (by decide) ?_ | refine divI (by decide) ?_)
      try change _ ∧ _
      try first | exact ⟨rfl, rfl⟩ | exact ⟨Or.inr rfl, rfl, rfl⟩ | exact ⟨Or.inl rfl, rfl, rfl⟩ | exact ⟨trivial, trivial⟩ | exact ⟨rfl, trivial⟩ | exact ⟨Or.inr rfl, rfl, trivial⟩ | exact ⟨Or.inl rfl, rfl, trivial⟩
    · intro hj
      by_cases c : h.1 104 k = nI 25
      · rw [decide_eq_true (hm.mpr ⟨k, hk, c⟩), bI_t]
        show Wp 0 j_M_hasSquare _ _ _ _ _
        repeat (first | (refine W1 rfl ?_; try refine Wp.norm (L' := [_, _]) rfl ?_) | ((first | change (_ → _) ∧ (_ → _) | change vp_in _ _ ∧ _ | change ¬ _ ∧ _); simp (disch := omega) only [nI_clamp, nI_leI, nI_ltI, nI_eq, nI_1, nI_add, nI_not_neg, nI_is_pos, nI_m1, nI_z, e50, c]) | refine brT (by first | assumption | decide | omega) ?_ | refine brF (by first | assumption | decide | omega) ?_ | refine brTn (by first | assumption | decide | omega) ?_ | refine brFn (by first | assumption | decide | omega) ?_ | refine And.intro (vp_in_nI (by omega) (by decide)) ?_ | refine And.intro (vp_lit (by decide)) ?_ | refine divJ (by decide) ?_ | refine divI (by decide) ?_)
        try change _ ∧ _
        try first | exact ⟨rfl, rfl⟩ | exact ⟨Or.inr rfl, rfl, rfl⟩ | exact ⟨Or.inl rfl, rfl, rfl⟩ | exact ⟨trivial, trivial⟩ | exact ⟨rfl, trivial⟩ | exact ⟨Or.inr rfl, rfl, trivial⟩ | exact ⟨Or.inl rfl, rfl, trivial⟩
      · have ih := ih (fun j z => by
          by_cases e : j = k
          · rw [e]; exact c
          · exact hj j (by omega))
        have c' : ¬ h.1 104 k = 25 := c
        show Wp 0 j_M_hasSquare _ _ _ _ _
        (refine W1 rfl ?_; try refine Wp.norm (L' := [_, _]) rfl ?_)
        repeat (first | refine Wp.at ih rfl rfl ?_ rfl | (refine W1 rfl ?_; try refine Wp.norm (L' := [_, _]) rfl ?_) | ((first | change (_ → _) ∧ (_ → _) | change vp_in _ _ ∧ _ | change ¬ _ ∧ _); simp (disch := omega) only [nI_clamp, nI_leI, nI_ltI, nI_eq, nI_1, nI_add, nI_not_neg, nI_is_pos, nI_m1, nI_z, e50]) | refine brT (by first | assumption | decide | omega) ?_ | refine brF (by first | assumption | decide | omega) ?_ | refine brTn (by first | assumption | decide | omega) ?_ | refine brFn (by first | assumption | decide | omega) ?_ | refine And.intro (vp_in_nI (by omega) (by decide)) ?_ | refine And.intro (vp_lit (by decide)) ?_ | refine divJ (by decide) ?_ | refine divI (by decide) ?_)
        try change _ ∧ _
        first | done | rfl | (simp (disch := omega) only [nI_1, nI_add, nI_clamp] <;> first | done | rfl)
  have ih := lp 0 (Nat.zero_le _) (fun j z => absurd z (by omega))
  refine Run.of rfl ?_
  refine Wp.norm (L' := [_, _]) rfl ?_
  repeat (first | refine Wp.at ih rfl rfl ?_ rfl | (refine W1 rfl ?_; try refine Wp.norm (L' := [_, _]) rfl ?_) | ((first | change (_ → _) ∧ (_ → _) | change vp_in _ _ ∧ _ | change ¬ _ ∧ _); simp (disch := omega) only [nI_clamp, nI_leI, nI_ltI, nI_eq, nI_1, nI_add, nI_not_neg, nI_is_pos, nI_m1, nI_z]) | refine brT (by first | assumption | decide | omega) ?_ | refine brF (by first | assumption | decide | omega) ?_ | refine brTn (by first | assumption | decide | omega) ?_ | refine brFn (by first | assumption | decide | omega) ?_ | refine And.intro (vp_in_nI (by omega) (by decide)) ?_ | refine And.intro (vp_lit (by decide)) ?_ | refine divJ (by decide) ?_ | refine divI (by decide) ?_)
  try change _ ∧ _
  first | done | rfl | (simp (disch := omega) only [nI_1, nI_add, nI_clamp] <;> first | done | rfl)
theorem q_dropsNotsF {f p : Nat} (X : LF f p h) : Run 0 j_M_dropsNots [.ref 65] h none h := by
  have hne := X.ne
  refine Run.of rfl ?_
  refine Wp.norm (L' := [_]) rfl ?_
  repeat (first | (refine W1 rfl ?_; try refine Wp.norm (L' := [_]) rfl ?_) | ((first | change (_ → _) ∧ (_ → _) | change vp_in _ _ ∧ _ | change ¬ _ ∧ _); simp (disch := omega) only [nI_clamp, nI_leI, nI_ltI, nI_eq, nI_1, nI_add, nI_not_neg, nI_is_pos, nI_m1, nI_z]) | refine brT (by first | assumption | decide | omega) ?_ | refine brF (by first | assumption | decide | omega) ?_ | refine brTn (by first | assumption | decide | omega) ?_ | refine brFn (by first | assumption | decide | omega) ?_ | refine And.intro (vp_in_nI (by omega) (by decide)) ?_ | refine And.intro (vp_lit (by decide)) ?_ | refine divJ (by decide) ?_ | refine divI (by decide) ?_)
  try change _ ∧ _
  try first | exact ⟨rfl, rfl⟩ | exact ⟨Or.inr rfl, rfl, rfl⟩ | exact ⟨Or.inl rfl, rfl, rfl⟩ | exact ⟨trivial, trivial⟩ | exact ⟨rfl, trivial⟩ | exact ⟨Or.inr rfl, rfl, trivial⟩ | exact ⟨Or.inl rfl, rfl, trivial⟩
def ND (b : Nat → Nat) (n i : Nat) (C V : List Nat) (s : ST) (B : Nat) (h' : HP) : Prop := ∃ V' C', MK b n i C' V' B (opn V') h' ∧ vW V' ∧ aV V' ∧ topB V' 16 = false ∧ C'.length + V'.length = C.length + V.length ∧ qGo b n (4, i, V, opn V, C, s) (4, i, V', opn V', C', s)
theorem q_dropsNots (s : ST) (M : MK b n i C V B (opn V) h) (hv : vW V) (ha : aV V) (hl : C.length + V.length ≤ 900) : ∃ w h', Run 2 j_M_dropsNots [.ref 65] h w h' ∧ (w = none ∧ TX h h' ∧ ND b n i C V s B h') := by
  refine Run.ofP rfl ?_
  refine Wp.norm (L' := [_]) rfl ?_
  generalize hQQ : (fun (w : Option Value) (h' : HP) => w = none ∧ TX h h' ∧ ND b n i C V s B h') = QQ
  have lp : ∀ (T D : List Nat) (g : HP), MK b n i D T B (opn T) g → TX h g → vW T → aV T → D.length + T.length = C.length + V.length → qGo b n (4, i, V, opn V, C, s) (4, i, T, opn T, D, s) → Wp 2 j_M_dropsNots 0 [.ref 65] [] g QQ := by
    intro T
    induction T with
    | nil =>
      intro D g M F hv ha hk go
      have f0 := M.L.f0
      have r1 := q_isOn (x := 16) M (by decide) (v_100 hv)
      rw [show topB [] 16 = false from rfl, bI_f] at r1
      show Wp 2 j_M_dropsNots _ _ _ _ _
      repeat (first | (refine W1 rfl ?_; try refine Wp.norm (L' := [_]) rfl ?_) | ((first | change (_ → _) ∧ (_ → _) | change vp_in _ _ ∧ _ | change ¬ _ ∧ _); simp (disch := omega) only [nI_clamp, nI_leI, nI_ltI, nI_eq, nI_1, nI_add, nI_not_neg, nI_is_pos, nI_m1, nI_z, f0]) | refine brT (by first | assumption | decide | omega) ?_ | refine brF (by first | assumption | decide | omega) ?_ | refine brTn (by first | assumption | decide | omega) ?_ | refine brFn (by first | assumption | decide | omega) ?_ | refine And.intro (vp_in_nI (by omega) (by decide)) ?_ | refine And.intro (vp_lit (by decide)) ?_ | refine divJ (by decide) ?_ | refine divI (by decide) ?_)
      try change _ ∧ _
      refine Cl.of r1 (by decide) ?_
      repeat (first | (refine W1 rfl ?_; try refine Wp.norm (L' := [_]) rfl ?_) | ((first | change (_ → _) ∧ (_ → _) | change vp_in _ _ ∧ _ | change ¬ _ ∧ _); simp (disch := omega) only [nI_clamp, nI_leI, nI_ltI, nI_eq, nI_1, nI_add, nI_not_neg, nI_is_pos, nI_m1, nI_z]) | refine brT (by first | assumption | decide | omega) ?_ | refine brF (by first | assumption | decide | omega) ?_ | refine brTn (by first | assumption | decide | omega) ?_ | refine brFn (by first | assumption | decide | omega) ?_ | refine And.intro (vp_in_nI (by omega) (by decide)) ?_ | refine And.intro (vp_lit (by decide)) ?_ | refine divJ (by decide) ?_ | refine divI (by decide) ?_)
      try change _ ∧ _
      rw [← hQQ]
      exact ⟨rfl, F, [], D, M, hv, ha, rfl, hk, go⟩
    | cons x T ih =>
      intro D g M F hv ha hk go
      have f0 := M.L.f0
      have r1 := q_isOn (x := 16) M (by decide) (v_100 hv)
      by_cases c : x = 16
      · rw [show topB (x :: T) 16 = true from decide_eq_true c, bI_t] at r1
        have hk : D.length + (T.length + 1) = C.length + V.length := hk
        have o1 : opn (x :: T) = opn T + 1 := opn_1 (by omega)
        have e51 := M.e51
        rw [o1] at e51
        have d6 := M.d6
        rw [o1] at d6
        have M1 := M.wo (d' := opn T) (by omega)
        obtain ⟨g2, r2, F2, M2⟩ := q_drops M1 (by omega)
        have e5 : g.1 65 51 - 1 = nI (opn T) := by rw [e51, nI_s1]
        have ih := ih (D ++ [x]) g2 M2 ((F.a (by decide)).trans F2) hv.t ha.2 (by rw [List.length_append]; show D.length + 1 + _ = _; omega) (go.trans (qGo.one (by
          rw [q4, o1]
          unfold qF
          dsimp only
          rw [if_pos c, Nat.add_sub_cancel, c])))
        rw [← e5] at r2
        show Wp 2 j_M_dropsNots _ _ _ _ _
        repeat (first | (refine W1 rfl ?_; try refine Wp.norm (L' := [_]) rfl ?_) | ((first | change (_ → _) ∧ (_ → _) | change vp_in _ _ ∧ _ | change ¬ _ ∧ _); simp (disch := omega) only [nI_clamp, nI_leI, nI_ltI, nI_eq, nI_1, nI_add, nI_not_neg, nI_is_pos, nI_m1, nI_z, f0]) | refine brT (by first | assumption | decide | omega) ?_ | refine brF (by first | assumption | decide | omega) ?_ | refine brTn (by first | assumption | decide | omega) ?_ | refine brFn (by first | assumption | decide | omega) ?_ | refine And.intro (vp_in_nI (by omega) (by decide)) ?_ | refine And.intro (vp_lit (by decide)) ?_ | refine divJ (by decide) ?_ | refine divI (by decide) ?_)
        try change _ ∧ _
        refine Cl.of r1 (by decide) ?_
        repeat (first | (refine W1 rfl ?_; try refine Wp.norm (L' := [_]) rfl ?_) | ((first | change (_ → _) ∧ (_ → _) | change vp_in _ _ ∧ _ | change ¬ _ ∧ _); simp (disch := omega) only [nI_clamp, nI_leI, nI_ltI, nI_eq, nI_1, nI_add, nI_not_neg, nI_is_pos, nI_m1, nI_z]) | refine brT (by first | assumption | decide | omega) ?_ | refine brF (by first | assumption | decide | omega) ?_ | refine brTn (by first | assumption | decide | omega) ?_ | refine brFn (by first | assumption | decide | omega) ?_ | refine And.intro (vp_in_nI (by omega) (by decide)) ?_ | refine And.intro (vp_lit (by decide)) ?_ | refine divJ (by decide) ?_ | refine divI (by decide) ?_)
        try change _ ∧ _
        refine Cl.of r2 (by decide) ?_
        repeat (first | refine Wp.at ih rfl rfl ?_ rfl | (refine W1 rfl ?_; try refine Wp.norm (L' := [_]) rfl ?_) | ((first | change (_ → _) ∧ (_ → _) | change vp_in _ _ ∧ _ | change ¬ _ ∧ _); simp (disch := omega) only [nI_clamp, nI_leI, nI_ltI, nI_eq, nI_1, nI_add, nI_not_neg, nI_is_pos, nI_m1, nI_z]) | refine brT (by first | assumption | decide | omega) ?_ | refine brF (by first | assumption | decide | omega) ?_ | refine brTn (by first | assumption | decide | omega) ?_ | refine brFn (by first | assumption | decide | omega) ?_ | refine And.intro (vp_in_nI (by omega) (by decide)) ?_ | refine And.intro (vp_lit (by decide)) ?_ | refine divJ (by decide) ?_ | refine divI (by decide) ?_)
        try change _ ∧ _
        first | done | rfl | (simp (disch := omega) only [nI_1, nI_add, nI_clamp] <;> first | done | rfl)
      · rw [show topB (x :: T) 16 = false from decide_eq_false c, bI_f] at r1
        show Wp 2 j_M_dropsNots _ _ _ _ _
        repeat (first | (refine W1 rfl ?_; try refine Wp.norm (L' := [_]) rfl ?_) | ((first | change (_ → _) ∧ (_ → _) | change vp_in _ _ ∧ _ | change ¬ _ ∧ _); simp (disch := omega) only [nI_clamp, nI_leI, nI_ltI, nI_eq, nI_1, nI_add, nI_not_neg, nI_is_pos, nI_m1, nI_z, f0]) | refine brT (by first | assumption | decide | omega) ?_ | refine brF (by first | assumption | decide | omega) ?_ | refine brTn (by first | assumption | decide | omega) ?_ | refine brFn (by first | assumption | decide | omega) ?_ | refine And.intro (vp_in_nI (by omega) (by decide)) ?_ | refine And.intro (vp_lit (by decide)) ?_ | refine divJ (by decide) ?_ | refine divI (by decide) ?_)
        try change _ ∧ _
        refine Cl.of r1 (by decide) ?_
        repeat (first | (refine W1 rfl ?_; try refine Wp.norm (L' := [_]) rfl ?_) | ((first | change (_ → _) ∧ (_ → _) | change vp_in _ _ ∧ _ | change ¬ _ ∧ _); simp (disch := omega) only [nI_clamp, nI_leI, nI_ltI, nI_eq, nI_1, nI_add, nI_not_neg, nI_is_pos, nI_m1, nI_z]) | refine brT (by first | assumption | decide | omega) ?_ | refine brF (by first | assumption | decide | omega) ?_ | refine brTn (by first | assumption | decide | omega) ?_ | refine brFn (by first | assumption | decide | omega) ?_ | refine And.intro (vp_in_nI (by omega) (by decide)) ?_ | refine And.intro (vp_lit (by decide)) ?_ | refine divJ (by decide) ?_ | refine divI (by decide) ?_)
        try change _ ∧ _
        rw [← hQQ]
        exact ⟨rfl, F, x :: T, D, M, hv, ha, decide_eq_false c, hk, go⟩
  exact lp V C h M (TX.rfl h) hv ha rfl (qGo.rfl _)
/-! splitting -/
theorem v_split : ∀ {V : List Nat}, vW V → aV V → topB V 16 = false → 25 ∈ V → ∃ A R, V = A ++ 25 :: R ∧ (∀ x, x ∈ A → x = 14 ∨ x = 15) ∧ vW R ∧ aV R
  | [], _, _, _, h => by simp at h
  | x :: V, hv, ha, ht, h => by
    have hx := hv x (by simp)
    have h16 : ¬ x = 16 := of_decide_eq_false ht
    by_cases c : x = 25
    · exact ⟨[], V, by rw [c]; rfl, fun x hx => by simp at hx, hv.t, ha.2⟩
    · have h2 : 25 ∈ V := by
        rcases List.mem_cons.mp h with z | z
        · exact absurd z.symm c
        · exact z
      obtain ⟨A, R, e, hA, hR⟩ := v_split hv.t ha.2 (ha.1 (by omega)) h2
      refine ⟨x :: A, R, by rw [e]; rfl, fun y hy => ?_, hR⟩
      rcases List.mem_cons.mp hy with z | z
      · rw [z]; omega
      · exact hA y z
theorem v_none : ∀ {V : List Nat}, vW V → aV V → topB V 16 = false → ¬ 25 ∈ V → ∀ x, x ∈ V → x = 14 ∨ x = 15
  | [], _, _, _, _ => fun x hx => by simp at hx
  | x :: V, hv, ha, ht, h => fun y hy => by
    have hx := hv x (by simp)
    have h16 : ¬ x = 16 := of_decide_eq_false ht
    have h25 : ¬ x = 25 := fun z => h (by rw [z]; simp)
    rcases List.mem_cons.mp hy with z | z
    · rw [z]; omega
    · exact v_none hv.t ha.2 (ha.1 (by omega)) (fun z => h (by simp [z])) y z
theorem qF_pop {x : Nat} (hx : x = 14 ∨ (x = 15 ∧ owV b n i ≠ 14)) : qst b n (4, i, x :: W, d, C, s) = (4, i, W, d, C ++ [x], s) := by
  rw [q4]
  unfold qF
  dsimp only
  rcases hx with c | ⟨c, h1⟩
  · rw [if_neg (by omega), if_pos c, c]
  · rw [if_neg (by omega), if_neg (by omega), if_neg h1, if_pos c, c]
theorem q_popT {R : List Nat} (ho : owV b n i ≠ 14) : ∀ (A C : List Nat), (∀ x, x ∈ A → x = 14 ∨ x = 15) → qGo b n (4, i, A ++ R, d, C, s) (4, i, R, d, C ++ A, s)
  | [], C, _ => by rw [List.append_nil]; exact qGo.rfl _
  | x :: A, C, hA => by
    have hx := hA x (by simp)
    have h2 := q_popT (R := R) ho A (C ++ [x]) (fun y hy => hA y (by simp [hy]))
    rw [List.append_assoc] at h2
    refine qGo.st (qF_pop ?_) h2
    rcases hx with z | z
    · exact Or.inl z
    · exact Or.inr ⟨z, ho⟩
theorem opn_T : ∀ {A R : List Nat}, (∀ x, x ∈ A → x = 14 ∨ x = 15) → opn (A ++ R) = opn R
  | [], R, _ => rfl
  | x :: A, R, h => by
    have hx := h x (by simp)
    show opn (x :: (A ++ R)) = _
    rw [opn_2 (by omega), opn_T (fun y hy => h y (by simp [hy]))]
def TG (b : Nat → Nat) (n : Nat) (x0 : PS) (i0 k0 : Nat) (s : ST) (B : Nat) (w : Option Value) (h' : HP) : Prop :=
  (w = some (.int 1) ∧ ∃ i' V' C', MK b n i' C' V' B (opn V') h' ∧ vW V' ∧ aV V' ∧ i0 < i' ∧ C'.length + V'.length + i0 ≤ k0 + i' ∧ qGo b n x0 (3, i', V', opn V', C', s)) ∨
  (w = some (.int 0) ∧ ∃ i' V' C', MK b n i' C' V' B (opn V') h' ∧ (∀ x, x ∈ V' → x = 14 ∨ x = 15) ∧ owV b n i' ≠ 14 ∧ owV b n i' ≠ 13 ∧ i0 ≤ i' ∧ C'.length + V'.length + i0 ≤ k0 + i' ∧ qGo b n x0 (4, i', V', opn V', C', s)) ∨
  (w = some (.int 0) ∧ ∃ f p, QE f p h' ∧ qGo b n x0 (flt f p))
theorem qF_andM (ho : owV b n i = 14) (h1 : topB W 14 = false) (h2 : topB W 16 = false) : qst b n (4, i, W, d, C, s) = (3, i + 1, 14 :: W, d, C, s) := by
  rw [q4]
  unfold qF
  cases W with
  | nil => dsimp only; rw [if_pos ho]
  | cons x W =>
    have a1 : ¬ x = 14 := of_decide_eq_false h1
    have a2 : ¬ x = 16 := of_decide_eq_false h2
    dsimp only
    rw [if_neg a2, if_neg a1, if_pos ho]
theorem qF_orM (ho : owV b n i = 13) (h1 : topB W 14 = false) (h2 : topB W 16 = false) (h3 : topB W 15 = false) : qst b n (4, i, W, d, C, s) = (3, i + 1, 15 :: W, d, C, s) := by
  rw [q4]
  unfold qF
  cases W with
  | nil => dsimp only; rw [if_neg (by omega), if_pos ho]
  | cons x W =>
    have a1 : ¬ x = 14 := of_decide_eq_false h1
    have a2 : ¬ x = 16 := of_decide_eq_false h2
    have a3 : ¬ x = 15 := of_decide_eq_false h3
    dsimp only
    rw [if_neg a2, if_neg a1, if_neg (by omega), if_neg a3, if_pos ho]
theorem qF_sq' {y : Nat} (hy : y = 25) (ho : owV b n i ≠ 14) (h13 : owV b n i ≠ 13) : qst b n (4, i, y :: W, d, C, s) = (if sgV b n i = 93 then (4, i + 1, W, d - 1, C, s) else flt 1 (ps b n i)) := by
  rw [q4]
  unfold qF
  dsimp only
  rw [if_neg (by omega), if_neg (by omega), if_neg ho, if_neg (by omega), if_neg h13]
theorem qF_sq (ho : owV b n i ≠ 14) (h13 : owV b n i ≠ 13) : qst b n (4, i, 25 :: W, d, C, s) = (if sgV b n i = 93 then (4, i + 1, W, d - 1, C, s) else flt 1 (ps b n i)) := qF_sq' rfl ho h13
theorem opn_V {x : Nat} (hx : x = 14 ∨ x = 15) : opn (x :: V) = opn V := opn_2 (by omega)
/-- and -/
theorem q_and {i0 k0 : Nat} {x0 : PS} {Q : QT} (ho : owV b n i = 14) (hi0 : i0 ≤ i) (i8 : i < 900) (h0 : HP) (hQ : ∀ h', TX h0 h' → TG b n x0 i0 k0 s B (some (.int 1)) h' → Q (some (.int 1)) h') : ∀ (V C : List Nat) (g : HP), MK b n (i + 1) C V B (opn V) g → TX h0 g → vW V → aV V → topB V 16 = false → C.length + V.length ≤ i → C.length + V.length + i0 ≤ k0 + i → qGo b n x0 (4, i, V, opn V, C, s) → Wp 3 j_M_goesOnTest 87 [.ref 65] [] g Q := by
  have last : ∀ (V C : List Nat) (g : HP), topB V 14 = false → MK b n (i + 1) C V B (opn V) g → TX h0 g → vW V → aV V → topB V 16 = false → C.length + V.length ≤ i → C.length + V.length + i0 ≤ k0 + i → qGo b n x0 (4, i, V, opn V, C, s) → Wp 3 j_M_goesOnTest 87 [.ref 65] [] g Q := by
    intro V C g h14 M F hv ha h16 hl hk go
    have r1 := q_isOn (x := 14) M (by decide) (v_100 hv)
    rw [h14, bI_f] at r1
    have e50 := M.e50
    have wl := M.wl
    have fin1 : Q (some (.int 1)) (wI (wI g 104 V.length (nI 14)) 65 50 (nI (V.length + 1))) := by
      have M1 := M.psh (x := 14) (by omega)
      have F1 : TX h0 (wI (wI g 104 V.length (nI 14)) 65 50 (nI (V.length + 1))) := (F.k (by decide)).a (by decide)
      refine hQ _ F1 (Or.inl ⟨rfl, i + 1, 14 :: V, C, ?_, hv.c (Or.inl rfl), ⟨fun _ => h16, ha⟩, by omega, ?_, go.trans (qGo.one ?_)⟩)
      · rw [opn_V (Or.inl rfl)]; exact M1
      · show C.length + (V.length + 1) + i0 ≤ _; omega
      · rw [opn_V (Or.inl rfl)]; exact qF_andM ho h14 h16
    show Wp 3 j_M_goesOnTest _ _ _ _ _
    repeat (first | (refine W1 rfl ?_; try refine Wp.norm (L' := [_]) rfl ?_) | ((first | change (_ → _) ∧ (_ → _) | change vp_in _ _ ∧ _ | change ¬ _ ∧ _); simp (disch := omega) only [nI_clamp, nI_leI, nI_ltI, nI_eq, nI_1, nI_add, nI_not_neg, nI_is_pos, nI_m1, nI_z]) | refine brT (by first | assumption | decide | omega) ?_ | refine brF (by first | assumption | decide | omega) ?_ | refine brTn (by first | assumption | decide | omega) ?_ | refine brFn (by first | assumption | decide | omega) ?_ | refine And.intro (vp_in_nI (by omega) (by decide)) ?_ | refine And.intro (vp_lit (by decide)) ?_ | refine divJ (by decide) ?_ | refine divI (by decide) ?_)
    try change _ ∧ _
    refine Cl.of r1 (by decide) ?_
    repeat (first | (refine W1 rfl ?_; try refine Wp.norm (L' := [_]) rfl ?_) | ((first | change (_ → _) ∧ (_ → _) | change vp_in _ _ ∧ _ | change ¬ _ ∧ _); simp (disch := omega) only [nI_clamp, nI_leI, nI_ltI, nI_eq, nI_1, nI_add, nI_not_neg, nI_is_pos, nI_m1, nI_z, e50, wI_ne, wI_ne2]) | refine brT (by first | assumption | decide | omega) ?_ | refine brF (by first | assumption | decide | omega) ?_ | refine brTn (by first | assumption | decide | omega) ?_ | refine brFn (by first | assumption | decide | omega) ?_ | refine And.intro (vp_in_nI (by omega) (by decide)) ?_ | refine And.intro (vp_lit (by decide)) ?_ | refine divJ (by decide) ?_ | refine divI (by decide) ?_)
    try change _ ∧ _
    try simp (disch := omega) only [e50, wI_ne, nI_clamp, nI_1, nI_add]
    first | exact ⟨Or.inr trivial, fin1⟩ | exact ⟨Or.inr rfl, fin1⟩
  intro V
  induction V with
  | nil =>
    intro C g M F hv ha h16 hl hk go
    exact last [] C g rfl M F hv ha h16 hl hk go
  | cons x V ih =>
    intro C g M F hv ha h16 hl hk go
    by_cases c : x = 14
    · have hl : C.length + (V.length + 1) ≤ i := hl
      have hk : C.length + (V.length + 1) + i0 ≤ k0 + i := hk
      have r1 := q_isOn (x := 14) M (by decide) (v_100 hv)
      rw [show topB (x :: V) 14 = true from decide_eq_true c, bI_t] at r1
      rw [opn_V (Or.inl c)] at M go
      obtain ⟨g', r2, F2, M2⟩ := q_drops M (by omega)
      have ih := ih (C ++ [x]) g' M2 (F.trans F2) hv.t ha.2 (ha.1 (Or.inl c)) (by rw [List.length_append]; show C.length + 1 + _ ≤ _; omega) (by rw [List.length_append]; show C.length + 1 + _ + _ ≤ _; omega) (go.trans (qGo.one (qF_pop (Or.inl c))))
      show Wp 3 j_M_goesOnTest _ _ _ _ _
      repeat (first | (refine W1 rfl ?_; try refine Wp.norm (L' := [_]) rfl ?_) | ((first | change (_ → _) ∧ (_ → _) | change vp_in _ _ ∧ _ | change ¬ _ ∧ _); simp (disch := omega) only [nI_clamp, nI_leI, nI_ltI, nI_eq, nI_1, nI_add, nI_not_neg, nI_is_pos, nI_m1, nI_z]) | refine brT (by first | assumption | decide | omega) ?_ | refine brF (by first | assumption | decide | omega) ?_ | refine brTn (by first | assumption | decide | omega) ?_ | refine brFn (by first | assumption | decide | omega) ?_ | refine And.intro (vp_in_nI (by omega) (by decide)) ?_ | refine And.intro (vp_lit (by decide)) ?_ | refine divJ (by decide) ?_ | refine divI (by decide) ?_)
      try change _ ∧ _
      refine Cl.of r1 (by decide) ?_
      repeat (first | (refine W1 rfl ?_; try refine Wp.norm (L' := [_]) rfl ?_) | ((first | change (_ → _) ∧ (_ → _) | change vp_in _ _ ∧ _ | change ¬ _ ∧ _); simp (disch := omega) only [nI_clamp, nI_leI, nI_ltI, nI_eq, nI_1, nI_add, nI_not_neg, nI_is_pos, nI_m1, nI_z]) | refine brT (by first | assumption | decide | omega) ?_ | refine brF (by first | assumption | decide | omega) ?_ | refine brTn (by first | assumption | decide | omega) ?_ | refine brFn (by first | assumption | decide | omega) ?_ | refine And.intro (vp_in_nI (by omega) (by decide)) ?_ | refine And.intro (vp_lit (by decide)) ?_ | refine divJ (by decide) ?_ | refine divI (by decide) ?_)
      try change _ ∧ _
      refine Cl.of r2 (by decide) ?_
      repeat (first | refine Wp.at ih rfl rfl ?_ rfl | (refine W1 rfl ?_; try refine Wp.norm (L' := [_]) rfl ?_) | ((first | change (_ → _) ∧ (_ → _) | change vp_in _ _ ∧ _ | change ¬ _ ∧ _); simp (disch := omega) only [nI_clamp, nI_leI, nI_ltI, nI_eq, nI_1, nI_add, nI_not_neg, nI_is_pos, nI_m1, nI_z]) | refine brT (by first | assumption | decide | omega) ?_ | refine brF (by first | assumption | decide | omega) ?_ | refine brTn (by first | assumption | decide | omega) ?_ | refine brFn (by first | assumption | decide | omega) ?_ | refine And.intro (vp_in_nI (by omega) (by decide)) ?_ | refine And.intro (vp_lit (by decide)) ?_ | refine divJ (by decide) ?_ | refine divI (by decide) ?_)
      try change _ ∧ _
      first | done | rfl | (simp (disch := omega) only [nI_1, nI_add, nI_clamp] <;> first | done | rfl)
    · exact last (x :: V) C g (decide_eq_false c) M F hv ha h16 hl hk go
/-- or -/
theorem q_or {i0 k0 : Nat} {x0 : PS} {Q : QT} (ho : owV b n i = 13) (hi0 : i0 ≤ i) (i8 : i < 900) (h0 : HP) (hQ : ∀ h', TX h0 h' → TG b n x0 i0 k0 s B (some (.int 1)) h' → Q (some (.int 1)) h') : ∀ (V C : List Nat) (g : HP), MK b n (i + 1) C V B (opn V) g → TX h0 g → vW V → aV V → topB V 16 = false → C.length + V.length ≤ i → C.length + V.length + i0 ≤ k0 + i → qGo b n x0 (4, i, V, opn V, C, s) → Wp 3 j_M_goesOnTest 137 [.ref 65] [] g Q := by
  have last : ∀ (V C : List Nat) (g : HP), topB V 14 = false → topB V 15 = false → MK b n (i + 1) C V B (opn V) g → TX h0 g → vW V → aV V → topB V 16 = false → C.length + V.length ≤ i → C.length + V.length + i0 ≤ k0 + i → qGo b n x0 (4, i, V, opn V, C, s) → Wp 3 j_M_goesOnTest 137 [.ref 65] [] g Q := by
    intro V C g h14 h15 M F hv ha h16 hl hk go
    have r1 := q_isOn (x := 14) M (by decide) (v_100 hv)
    rw [h14, bI_f] at r1
    have r2 := q_isOn (x := 15) M (by decide) (v_100 hv)
    rw [h15, bI_f] at r2
    have e50 := M.e50
    have wl := M.wl
    have fin1 : Q (some (.int 1)) (wI (wI g 104 V.length (nI 15)) 65 50 (nI (V.length + 1))) := by
      have M1 := M.psh (x := 15) (by omega)
      have F1 : TX h0 (wI (wI g 104 V.length (nI 15)) 65 50 (nI (V.length + 1))) := (F.k (by decide)).a (by decide)
      refine hQ _ F1 (Or.inl ⟨rfl, i + 1, 15 :: V, C, ?_, hv.c (Or.inr (Or.inl rfl)), ⟨fun _ => h16, ha⟩, by omega, ?_, go.trans (qGo.one ?_)⟩)
      · rw [opn_V (Or.inr rfl)]; exact M1
      · show C.length + (V.length + 1) + i0 ≤ _; omega
      · rw [opn_V (Or.inr rfl)]; exact qF_orM ho h14 h16 h15
    show Wp 3 j_M_goesOnTest _ _ _ _ _
    repeat (first | (refine W1 rfl ?_; try refine Wp.norm (L' := [_]) rfl ?_) | ((first | change (_ → _) ∧ (_ → _) | change vp_in _ _ ∧ _ | change ¬ _ ∧ _); simp (disch := omega) only [nI_clamp, nI_leI, nI_ltI, nI_eq, nI_1, nI_add, nI_not_neg, nI_is_pos, nI_m1, nI_z]) | refine brT (by first | assumption | decide | omega) ?_ | refine brF (by first | assumption | decide | omega) ?_ | refine brTn (by first | assumption | decide | omega) ?_ | refine brFn (by first | assumption | decide | omega) ?_ | refine And.intro (vp_in_nI (by omega) (by decide)) ?_ | refine And.intro (vp_lit (by decide)) ?_ | refine divJ (by decide) ?_ | refine divI (by decide) ?_)
    try change _ ∧ _
    refine Cl.of r1 (by decide) ?_
    repeat (first | (refine W1 rfl ?_; try refine Wp.norm (L' := [_]) rfl ?_) | ((first | change (_ → _) ∧ (_ → _) | change vp_in _ _ ∧ _ | change ¬ _ ∧ _); simp (disch := omega) only [nI_clamp, nI_leI, nI_ltI, nI_eq, nI_1, nI_add, nI_not_neg, nI_is_pos, nI_m1, nI_z]) | refine brT (by first | assumption | decide | omega) ?_ | refine brF (by first | assumption | decide | omega) ?_ | refine brTn (by first | assumption | decide | omega) ?_ | refine brFn (by first | assumption | decide | omega) ?_ | refine And.intro (vp_in_nI (by omega) (by decide)) ?_ | refine And.intro (vp_lit (by decide)) ?_ | refine divJ (by decide) ?_ | refine divI (by decide) ?_)
    try change _ ∧ _
    refine Cl.of r2 (by decide) ?_
    repeat (first | (refine W1 rfl ?_; try refine Wp.norm (L' := [_]) rfl ?_) | ((first | change (_ → _) ∧ (_ → _) | change vp_in _ _ ∧ _ | change ¬ _ ∧ _); simp (disch := omega) only [nI_clamp, nI_leI, nI_ltI, nI_eq, nI_1, nI_add, nI_not_neg, nI_is_pos, nI_m1, nI_z, e50, wI_ne, wI_ne2]) | refine brT (by first | assumption | decide | omega) ?_ | refine brF (by first | assumption | decide | omega) ?_ | refine brTn (by first | assumption | decide | omega) ?_ | refine brFn (by first | assumption | decide | omega) ?_ | refine And.intro (vp_in_nI (by omega) (by decide)) ?_ | refine And.intro (vp_lit (by decide)) ?_ | refine divJ (by decide) ?_ | refine divI (by decide) ?_)
    try change _ ∧ _
    try simp (disch := omega) only [e50, wI_ne, nI_clamp, nI_1, nI_add]
    first | exact ⟨Or.inr trivial, fin1⟩ | exact ⟨Or.inr rfl, fin1⟩
  intro V
  induction V with
  | nil =>
    intro C g M F hv ha h16 hl hk go
    exact last [] C g rfl rfl M F hv ha h16 hl hk go
  | cons x V ih =>
    intro C g M F hv ha h16 hl hk go
    by_cases c : x = 14 ∨ x = 15
    · have hl : C.length + (V.length + 1) ≤ i := hl
      have hk : C.length + (V.length + 1) + i0 ≤ k0 + i := hk
      have r1 := q_isOn (x := 14) M (by decide) (v_100 hv)
      have r2 := q_isOn (x := 15) M (by decide) (v_100 hv)
      rw [opn_V c] at M go
      obtain ⟨g', r3, F2, M2⟩ := q_drops M (by omega)
      have ih := ih (C ++ [x]) g' M2 (F.trans F2) hv.t ha.2 (ha.1 c) (by rw [List.length_append]; show C.length + 1 + _ ≤ _; omega) (by rw [List.length_append]; show C.length + 1 + _ + _ ≤ _; omega) (go.trans (qGo.one (qF_pop (by omega))))
      by_cases c1 : x = 14
      · rw [show topB (x :: V) 14 = true from decide_eq_true c1, bI_t] at r1
        show Wp 3 j_M_goesOnTest _ _ _ _ _
        repeat (first | (refine W1 rfl ?_; try refine Wp.norm (L' := [_]) rfl ?_) | ((first | change (_ → _) ∧ (_ → _) | change vp_in _ _ ∧ _ | change ¬ _ ∧ _); simp (disch := omega) only [nI_clamp, nI_leI, nI_ltI, nI_eq, nI_1, nI_add, nI_not_neg, nI_is_pos, nI_m1, nI_z]) | refine brT (by first | assumption | decide | omega) ?_ | refine brF (by first | assumption | decide | omega) ?_ | refine brTn (by first | assumption | decide | omega) ?_ | refine brFn (by first | assumption | decide | omega) ?_ | refine And.intro (vp_in_nI (by omega) (by decide)) ?_ | refine And.intro (vp_lit (by decide)) ?_ | refine divJ (by decide) ?_ | refine divI (by decide) ?_)
        try change _ ∧ _
        refine Cl.of r1 (by decide) ?_
        repeat (first | (refine W1 rfl ?_; try refine Wp.norm (L' := [_]) rfl ?_) | ((first | change (_ → _) ∧ (_ → _) | change vp_in _ _ ∧ _ | change ¬ _ ∧ _); simp (disch := omega) only [nI_clamp, nI_leI, nI_ltI, nI_eq, nI_1, nI_add, nI_not_neg, nI_is_pos, nI_m1, nI_z]) | refine brT (by first | assumption | decide | omega) ?_ | refine brF (by first | assumption | decide | omega) ?_ | refine brTn (by first | assumption | decide | omega) ?_ | refine brFn (by first | assumption | decide | omega) ?_ | refine And.intro (vp_in_nI (by omega) (by decide)) ?_ | refine And.intro (vp_lit (by decide)) ?_ | refine divJ (by decide) ?_ | refine divI (by decide) ?_)
        try change _ ∧ _
        refine Cl.of r3 (by decide) ?_
        repeat (first | refine Wp.at ih rfl rfl ?_ rfl | (refine W1 rfl ?_; try refine Wp.norm (L' := [_]) rfl ?_) | ((first | change (_ → _) ∧ (_ → _) | change vp_in _ _ ∧ _ | change ¬ _ ∧ _); simp (disch := omega) only [nI_clamp, nI_leI, nI_ltI, nI_eq, nI_1, nI_add, nI_not_neg, nI_is_pos, nI_m1, nI_z]) | refine brT (by first | assumption | decide | omega) ?_ | refine brF (by first | assumption | decide | omega) ?_ | refine brTn (by first | assumption | decide | omega) ?_ | refine brFn (by first | assumption | decide | omega) ?_ | refine And.intro (vp_in_nI (by omega) (by decide)) ?_ | refine And.intro (vp_lit (by decide)) ?_ | refine divJ (by decide) ?_ | refine divI (by decide) ?_)
        try change _ ∧ _
        first | done | rfl | (simp (disch := omega) only [nI_1, nI_add, nI_clamp] <;> first | done | rfl)
      · rw [show topB (x :: V) 14 = false from decide_eq_false c1, bI_f] at r1
        rw [show topB (x :: V) 15 = true from decide_eq_true (by omega), bI_t] at r2
        show Wp 3 j_M_goesOnTest _ _ _ _ _
        repeat (first | (refine W1 rfl ?_; try refine Wp.norm (L' := [_]) rfl ?_) | ((first | change (_ → _) ∧ (_ → _) | change vp_in _ _ ∧ _ | change ¬ _ ∧ _); simp (disch := omega) only [nI_clamp, nI_leI, nI_ltI, nI_eq, nI_1, nI_add, nI_not_neg, nI_is_pos, nI_m1, nI_z]) | refine brT (by first | assumption | decide | omega) ?_ | refine brF (by first | assumption | decide | omega) ?_ | refine brTn (by first | assumption | decide | omega) ?_ | refine brFn (by first | assumption | decide | omega) ?_ | refine And.intro (vp_in_nI (by omega) (by decide)) ?_ | refine And.intro (vp_lit (by decide)) ?_ | refine divJ (by decide) ?_ | refine divI (by decide) ?_)
        try change _ ∧ _
        refine Cl.of r1 (by decide) ?_
        repeat (first | (refine W1 rfl ?_; try refine Wp.norm (L' := [_]) rfl ?_) | ((first | change (_ → _) ∧ (_ → _) | change vp_in _ _ ∧ _ | change ¬ _ ∧ _); simp (disch := omega) only [nI_clamp, nI_leI, nI_ltI, nI_eq, nI_1, nI_add, nI_not_neg, nI_is_pos, nI_m1, nI_z]) | refine brT (by first | assumption | decide | omega) ?_ | refine brF (by first | assumption | decide | omega) ?_ | refine brTn (by first | assumption | decide | omega) ?_ | refine brFn (by first | assumption | decide | omega) ?_ | refine And.intro (vp_in_nI (by omega) (by decide)) ?_ | refine And.intro (vp_lit (by decide)) ?_ | refine divJ (by decide) ?_ | refine divI (by decide) ?_)
        try change _ ∧ _
        refine Cl.of r2 (by decide) ?_
        repeat (first | (refine W1 rfl ?_; try refine Wp.norm (L' := [_]) rfl ?_) | ((first | change (_ → _) ∧ (_ → _) | change vp_in _ _ ∧ _ | change ¬ _ ∧ _); simp (disch := omega) only [nI_clamp, nI_leI, nI_ltI, nI_eq, nI_1, nI_add, nI_not_neg, nI_is_pos, nI_m1, nI_z]) | refine brT (by first | assumption | decide | omega) ?_ | refine brF (by first | assumption | decide | omega) ?_ | refine brTn (by first | assumption | decide | omega) ?_ | refine brFn (by first | assumption | decide | omega) ?_ | refine And.intro (vp_in_nI (by omega) (by decide)) ?_ | refine And.intro (vp_lit (by decide)) ?_ | refine divJ (by decide) ?_ | refine divI (by decide) ?_)
        try change _ ∧ _
        refine Cl.of r3 (by decide) ?_
        repeat (first | refine Wp.at ih rfl rfl ?_ rfl | (refine W1 rfl ?_; try refine Wp.norm (L' := [_]) rfl ?_) | ((first | change (_ → _) ∧ (_ → _) | change vp_in _ _ ∧ _ | change ¬ _ ∧ _); simp (disch := omega) only [nI_clamp, nI_leI, nI_ltI, nI_eq, nI_1, nI_add, nI_not_neg, nI_is_pos, nI_m1, nI_z]) | refine brT (by first | assumption | decide | omega) ?_ | refine brF (by first | assumption | decide | omega) ?_ | refine brTn (by first | assumption | decide | omega) ?_ | refine brFn (by first | assumption | decide | omega) ?_ | refine And.intro (vp_in_nI (by omega) (by decide)) ?_ | refine And.intro (vp_lit (by decide)) ?_ | refine divJ (by decide) ?_ | refine divI (by decide) ?_)
        try change _ ∧ _
        first | done | rfl | (simp (disch := omega) only [nI_1, nI_add, nI_clamp] <;> first | done | rfl)
    · exact last (x :: V) C g (decide_eq_false (by omega)) (decide_eq_false (by omega)) M F hv ha h16 hl hk go
end MGT
