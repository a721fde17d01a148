/-! ===== THE MODEL GOES ON BEHIND A PART ===== -/
section MGO
variable {b : Nat → Nat} {n i : Nat} {h h' : HP} {s : ST} {C W : List Nat} {B d : Nat}
theorem pr_top (W : List Nat) : (topB W 3 || topB W 4 || topB W 5) = prdB W := by
  cases W with
  | nil => rfl
  | cons x W =>
    show (decide (x = 3) || decide (x = 4) || decide (x = 5)) = decide (x = 3 ∨ x = 4 ∨ x = 5)
    by_cases h3 : x = 3
    · simp [h3]
    · by_cases h4 : x = 4
      · simp [h4]
      · by_cases h5 : x = 5
        · simp [h5]
        · simp [h3, h4, h5]
theorem q_isPr (M : MK b n i C W B d h) (hW : ∀ y, y ∈ W → y < 100) : Run 1 j_M_isProduct [.ref 65] h (some (.int (bI (prdB W)))) h := by
  have := q_isProduct M hW
  rw [pr_top] at this
  exact this
theorem fct_sg {c : Nat} : fctC c ≠ 0 ↔ c = 42 ∨ c = 47 ∨ c = 37 := by
  unfold fctC
  by_cases h1 : c = 42
  · simp [h1]
  · by_cases h2 : c = 47
    · simp [h2]
    · by_cases h3 : c = 37
      · simp [h3]
      · simp [h1, h2, h3]
theorem trm_sg {c : Nat} : trmC c ≠ 0 ↔ c = 43 ∨ c = 45 := by
  unfold trmC
  by_cases h1 : c = 43
  · simp [h1]
  · by_cases h2 : c = 45
    · simp [h2]
    · simp [h1, h2]
/-- what it comes to: w = whether it goes on -/
def GD (b : Nat → Nat) (n : Nat) (x0 : PS) (i0 k0 : Nat) (V : List Nat) (m : Nat) (s : ST) (w : Option Value) (h' : HP) : Prop :=
  (w = some (.int 1) ∧ ∃ i' U' C', MK b n i' C' (U' ++ V) V.length (opn (U' ++ V)) h' ∧ uW U' ∧ i0 < i' ∧ C'.length + (U' ++ V).length + i0 ≤ k0 + i' ∧ qGo b n x0 (0, i', U' ++ m :: V, opn (U' ++ V), C', s)) ∨
  (w = some (.int 0) ∧ ∃ i' U' C', MK b n i' C' (U' ++ V) V.length (opn (U' ++ V)) h' ∧ (∀ x, x ∈ U' → 1 ≤ x ∧ x ≤ 5) ∧ fctC (sgV b n i') = 0 ∧ trmC (sgV b n i') = 0 ∧ i0 ≤ i' ∧ C'.length + (U' ++ V).length + i0 ≤ k0 + i' ∧ qGo b n x0 (1, i', U' ++ m :: V, opn (U' ++ V), C', s)) ∨
  (w = some (.int 0) ∧ ∃ f p, QF f p h' ∧ qGo b n x0 (flt f p))
theorem top_V {V : List Nat} {x : Nat} (hv : vW V) (hx : x < 14) : topB V x = false := by
  cases V with
  | nil => rfl
  | cons y V =>
    have := hv y (by simp)
    exact decide_eq_false (by omega)
theorem pr_V {V : List Nat} (hv : vW V) : prdB V = false := by
  cases V with
  | nil => rfl
  | cons y V =>
    have := hv y (by simp)
    exact decide_eq_false (show ¬ (y = 3 ∨ y = 4 ∨ y = 5) by omega)
theorem opn_m {U V : List Nat} {x : Nat} (hx : ¬ (x = 16 ∨ x = 20 ∨ x = 25)) : opn (x :: U ++ V) = opn (U ++ V) := opn_2 hx
/-- a factor's sign -/
theorem q_goF {V : List Nat} {m i0 k0 : Nat} {x0 : PS} {Q : QT} (hv : vW V) (hm : m = 30 ∨ m = 11 ∨ m = 12 ∨ m = 13) {c : Nat} (hc : sgV b n i = c) (hf : c = 42 ∨ c = 47 ∨ c = 37) (hi0 : i0 ≤ i) (i8 : i < 900) (h0 : HP) (hQ : ∀ h', TX h0 h' → GD b n x0 i0 k0 V m s (some (.int 1)) h' → Q (some (.int 1)) h') : ∀ (U C : List Nat) (g : HP), MK b n (i + 1) C (U ++ V) V.length (opn (U ++ V)) g → TX h0 g → uW U → C.length + (U ++ V).length ≤ i → C.length + (U ++ V).length + i0 ≤ k0 + i → qGo b n x0 (1, i, U ++ m :: V, opn (U ++ V), C, s) → Wp 3 j_M_goesOn 106 [.ref 65, .int (nI c)] [] g Q := by
  have hfc : fctC (sgV b n i) ≠ 0 := by rw [hc]; exact fct_sg.mpr hf
  have last : ∀ (U C : List Nat) (g : HP), prdB (U ++ V) = false → MK b n (i + 1) C (U ++ V) V.length (opn (U ++ V)) g → TX h0 g → uW U → C.length + (U ++ V).length ≤ i → C.length + (U ++ V).length + i0 ≤ k0 + i → qGo b n x0 (1, i, U ++ m :: V, opn (U ++ V), C, s) → Wp 3 j_M_goesOn 106 [.ref 65, .int (nI c)] [] g Q := by
    intro U C g hp M F hu hl hk go
    have r1 := q_isPr M (uv_100 hu hv)
    rw [hp, bI_f] at r1
    have e50 := M.e50
    have hgo : qst b n (1, i, U ++ m :: V, opn (U ++ V), C, s) = (0, i + 1, fctC (sgV b n i) :: (U ++ m :: V), opn (U ++ V), C, s) := by
      cases U with
      | nil => exact qA_f (show ¬ (m = 3 ∨ m = 4 ∨ m = 5) by omega) hfc
      | cons x U => exact qA_f (fun z => by
          have : decide (isPr x) = false := hp
          rw [decide_eq_true z] at this
          cases this) hfc
    have hfr := (fctC_r (sgV b n i)).resolve_left hfc
    have fin1 : ∀ x, fctC (sgV b n i) = x → (x = 3 ∨ x = 4 ∨ x = 5) → Q (some (.int 1)) (wI (wI g 104 (U ++ V).length (nI x)) 65 50 (nI ((U ++ V).length + 1))) := fun x hx hx2 => by
      have M1 := M.psh (x := x) (by omega)
      have F1 : TX h0 (wI (wI g 104 (U ++ V).length (nI x)) 65 50 (nI ((U ++ V).length + 1))) := (F.k (by decide)).a (by decide)
      refine hQ _ F1 (Or.inl ⟨rfl, i + 1, x :: U, C, ?_, hu.c (by omega), by omega, ?_, go.trans (qGo.one (hgo.trans ?_))⟩)
      · rw [opn_m (by omega)]; exact M1
      · show C.length + ((U ++ V).length + 1) + i0 ≤ _; omega
      · rw [opn_m (by omega), hx]; rfl
    have wl := M.wl
    rw [hc] at fin1
    generalize hL : (U ++ V).length = len at *
    rcases hf with rfl | rfl | rfl
    · have fin1 := fin1 3 rfl (by decide)
      show Wp 3 j_M_goesOn _ _ _ _ _
      repeat (first | (refine W1 rfl ?_; try refine Wp.norm (L' := [_, _]) rfl ?_) | ((first | change (_ → _) ∧ (_ → _) | change vp_in _ _ ∧ _ | change ¬ _ ∧ _); simp (disch := omega) only [nI_clamp, nI_leI, nI_ltI, nI_eq, nI_1, nI_add, nI_not_neg, nI_is_pos, nI_m1, nI_z]) | refine brT (by first | assumption | decide | omega) ?_ | refine brF (by first | assumption | decide | omega) ?_ | refine brTn (by first | assumption | decide | omega) ?_ | refine brFn (by first | assumption | decide | omega) ?_ | refine And.intro (vp_in_nI (by omega) (by decide)) ?_ | refine And.intro (vp_lit (by decide)) ?_ | refine divJ (by decide) ?_ | refine divI (by decide) ?_)
      try change _ ∧ _
      refine Cl.of r1 (by decide) ?_
      repeat (first | (refine W1 rfl ?_; try refine Wp.norm (L' := [_, _]) rfl ?_) | ((first | change (_ → _) ∧ (_ → _) | change vp_in _ _ ∧ _ | change ¬ _ ∧ _); simp (disch := omega) only [nI_clamp, nI_leI, nI_ltI, nI_eq, nI_1, nI_add, nI_not_neg, nI_is_pos, nI_m1, nI_z, e50, wI_ne, wI_ne2, show nI 42 = 42 from rfl]) | refine brT (by first | assumption | decide | omega) ?_ | refine brF (by first | assumption | decide | omega) ?_ | refine brTn (by first | assumption | decide | omega) ?_ | refine brFn (by first | assumption | decide | omega) ?_ | refine And.intro (vp_in_nI (by omega) (by decide)) ?_ | refine And.intro (vp_lit (by decide)) ?_ | refine divJ (by decide) ?_ | refine divI (by decide) ?_)
      try change _ ∧ _
      try simp (disch := omega) only [e50, wI_ne, nI_clamp, nI_1, nI_add]
      first | exact ⟨Or.inr trivial, fin1⟩ | exact ⟨Or.inr rfl, fin1⟩
    · have fin1 := fin1 4 rfl (by decide)
      show Wp 3 j_M_goesOn _ _ _ _ _
      repeat (first | (refine W1 rfl ?_; try refine Wp.norm (L' := [_, _]) rfl ?_) | ((first | change (_ → _) ∧ (_ → _) | change vp_in _ _ ∧ _ | change ¬ _ ∧ _); simp (disch := omega) only [nI_clamp, nI_leI, nI_ltI, nI_eq, nI_1, nI_add, nI_not_neg, nI_is_pos, nI_m1, nI_z]) | refine brT (by first | assumption | decide | omega) ?_ | refine brF (by first | assumption | decide | omega) ?_ | refine brTn (by first | assumption | decide | omega) ?_ | refine brFn (by first | assumption | decide | omega) ?_ | refine And.intro (vp_in_nI (by omega) (by decide)) ?_ | refine And.intro (vp_lit (by decide)) ?_ | refine divJ (by decide) ?_ | refine divI (by decide) ?_)
      try change _ ∧ _
      refine Cl.of r1 (by decide) ?_
      repeat (first | (refine W1 rfl ?_; try refine Wp.norm (L' := [_, _]) rfl ?_) | ((first | change (_ → _) ∧ (_ → _) | change vp_in _ _ ∧ _ | change ¬ _ ∧ _); simp (disch := omega) only [nI_clamp, nI_leI, nI_ltI, nI_eq, nI_1, nI_add, nI_not_neg, nI_is_pos, nI_m1, nI_z, e50, wI_ne, wI_ne2, show nI 47 = 47 from rfl]) | refine brT (by first | assumption | decide | omega) ?_ | refine brF (by first | assumption | decide | omega) ?_ | refine brTn (by first | assumption | decide | omega) ?_ | refine brFn (by first | assumption | decide | omega) ?_ | refine And.intro (vp_in_nI (by omega) (by decide)) ?_ | refine And.intro (vp_lit (by decide)) ?_ | refine divJ (by decide) ?_ | refine divI (by decide) ?_)
      try change _ ∧ _
      try simp (disch := omega) only [e50, wI_ne, nI_clamp, nI_1, nI_add]
      first | exact ⟨Or.inr trivial, fin1⟩ | exact ⟨Or.inr rfl, fin1⟩
    · have fin1 := fin1 5 rfl (by decide)
      show Wp 3 j_M_goesOn _ _ _ _ _
      repeat (first | (refine W1 rfl ?_; try refine Wp.norm (L' := [_, _]) rfl ?_) | ((first | change (_ → _) ∧ (_ → _) | change vp_in _ _ ∧ _ | change ¬ _ ∧ _); simp (disch := omega) only [nI_clamp, nI_leI, nI_ltI, nI_eq, nI_1, nI_add, nI_not_neg, nI_is_pos, nI_m1, nI_z]) | refine brT (by first | assumption | decide | omega) ?_ | refine brF (by first | assumption | decide | omega) ?_ | refine brTn (by first | assumption | decide | omega) ?_ | refine brFn (by first | assumption | decide | omega) ?_ | refine And.intro (vp_in_nI (by omega) (by decide)) ?_ | refine And.intro (vp_lit (by decide)) ?_ | refine divJ (by decide) ?_ | refine divI (by decide) ?_)
      try change _ ∧ _
      refine Cl.of r1 (by decide) ?_
      repeat (first | (refine W1 rfl ?_; try refine Wp.norm (L' := [_, _]) rfl ?_) | ((first | change (_ → _) ∧ (_ → _) | change vp_in _ _ ∧ _ | change ¬ _ ∧ _); simp (disch := omega) only [nI_clamp, nI_leI, nI_ltI, nI_eq, nI_1, nI_add, nI_not_neg, nI_is_pos, nI_m1, nI_z, e50, wI_ne, wI_ne2, show nI 37 = 37 from rfl]) | refine brT (by first | assumption | decide | omega) ?_ | refine brF (by first | assumption | decide | omega) ?_ | refine brTn (by first | assumption | decide | omega) ?_ | refine brFn (by first | assumption | decide | omega) ?_ | refine And.intro (vp_in_nI (by omega) (by decide)) ?_ | refine And.intro (vp_lit (by decide)) ?_ | refine divJ (by decide) ?_ | refine divI (by decide) ?_)
      try change _ ∧ _
      try simp (disch := omega) only [e50, wI_ne, nI_clamp, nI_1, nI_add]
      first | exact ⟨Or.inr trivial, fin1⟩ | exact ⟨Or.inr rfl, fin1⟩
  intro U
  induction U with
  | nil =>
    intro C g M F hu hl hk go
    exact last [] C g (pr_V hv) M F hu hl hk go
  | cons x U ih =>
    intro C g M F hu hl hk go
    by_cases hx : isPr x
    · have hx' : x = 3 ∨ x = 4 ∨ x = 5 := hx
      have r1 := q_isPr M (uv_100 hu hv)
      rw [show prdB (x :: U ++ V) = true from decide_eq_true hx, bI_t] at r1
      have hlen : (x :: U ++ V).length = (U ++ V).length + 1 := rfl
      have o1 : opn (x :: U ++ V) = opn (U ++ V) := opn_m (by omega)
      rw [o1] at M go
      obtain ⟨g', r2, F2, M2⟩ := q_drops (x := x) (W := U ++ V) M (by omega)
      have ih := ih (C ++ [x]) g' M2 (F.trans F2) hu.t (by rw [List.length_append]; show C.length + 1 + _ ≤ _; omega) (by rw [List.length_append]; show C.length + 1 + _ + _ ≤ _; omega) (go.trans (qGo.one (qA_pr hx)))
      show Wp 3 j_M_goesOn _ _ _ _ _
      repeat (first | (refine W1 rfl ?_; try refine Wp.norm (L' := [_, _]) rfl ?_) | ((first | change (_ → _) ∧ (_ → _) | change vp_in _ _ ∧ _ | change ¬ _ ∧ _); simp (disch := omega) only [nI_clamp, nI_leI, nI_ltI, nI_eq, nI_1, nI_add, nI_not_neg, nI_is_pos, nI_m1, nI_z]) | refine brT (by first | assumption | decide | omega) ?_ | refine brF (by first | assumption | decide | omega) ?_ | refine brTn (by first | assumption | decide | omega) ?_ | refine brFn (by first | assumption | decide | omega) ?_ | refine And.intro (vp_in_nI (by omega) (by decide)) ?_ | refine And.intro (vp_lit (by decide)) ?_ | refine divJ (by decide) ?_ | refine divI (by decide) ?_)
      try change _ ∧ _
      refine Cl.of r1 (by decide) ?_
      repeat (first | (refine W1 rfl ?_; try refine Wp.norm (L' := [_, _]) rfl ?_) | ((first | change (_ → _) ∧ (_ → _) | change vp_in _ _ ∧ _ | change ¬ _ ∧ _); simp (disch := omega) only [nI_clamp, nI_leI, nI_ltI, nI_eq, nI_1, nI_add, nI_not_neg, nI_is_pos, nI_m1, nI_z]) | refine brT (by first | assumption | decide | omega) ?_ | refine brF (by first | assumption | decide | omega) ?_ | refine brTn (by first | assumption | decide | omega) ?_ | refine brFn (by first | assumption | decide | omega) ?_ | refine And.intro (vp_in_nI (by omega) (by decide)) ?_ | refine And.intro (vp_lit (by decide)) ?_ | refine divJ (by decide) ?_ | refine divI (by decide) ?_)
      try change _ ∧ _
      refine Cl.of r2 (by decide) ?_
      repeat (first | refine Wp.at ih rfl rfl ?_ rfl | (refine W1 rfl ?_; try refine Wp.norm (L' := [_, _]) rfl ?_) | ((first | change (_ → _) ∧ (_ → _) | change vp_in _ _ ∧ _ | change ¬ _ ∧ _); simp (disch := omega) only [nI_clamp, nI_leI, nI_ltI, nI_eq, nI_1, nI_add, nI_not_neg, nI_is_pos, nI_m1, nI_z]) | refine brT (by first | assumption | decide | omega) ?_ | refine brF (by first | assumption | decide | omega) ?_ | refine brTn (by first | assumption | decide | omega) ?_ | refine brFn (by first | assumption | decide | omega) ?_ | refine And.intro (vp_in_nI (by omega) (by decide)) ?_ | refine And.intro (vp_lit (by decide)) ?_ | refine divJ (by decide) ?_ | refine divI (by decide) ?_)
      try change _ ∧ _
      first | done | rfl | (simp (disch := omega) only [nI_1, nI_add, nI_clamp] <;> first | done | rfl)
    · exact last (x :: U) C g (decide_eq_false hx) M F hu hl hk go
/-- a term's sign -/
theorem q_goT {V : List Nat} {m i0 k0 : Nat} {x0 : PS} {Q : QT} (hv : vW V) (hm : m = 30 ∨ m = 11 ∨ m = 12 ∨ m = 13) {c : Nat} (hc : sgV b n i = c) (hf : c = 43 ∨ c = 45) (hi0 : i0 ≤ i) (i8 : i < 900) (h0 : HP) (hQ : ∀ h', TX h0 h' → GD b n x0 i0 k0 V m s (some (.int 1)) h' → Q (some (.int 1)) h') : ∀ (U C : List Nat) (g : HP), MK b n (i + 1) C (U ++ V) V.length (opn (U ++ V)) g → TX h0 g → uW U → C.length + (U ++ V).length ≤ i → C.length + (U ++ V).length + i0 ≤ k0 + i → qGo b n x0 (1, i, U ++ m :: V, opn (U ++ V), C, s) → Wp 3 j_M_goesOn 184 [.ref 65, .int (nI c)] [] g Q := by
  have htc : trmC (sgV b n i) ≠ 0 := by rw [hc]; exact trm_sg.mpr hf
  have hfc : fctC (sgV b n i) = 0 := by
    rw [hc]
    rcases hf with rfl | rfl <;> decide
  have last : ∀ (U C : List Nat) (g : HP), prdB (U ++ V) = false → topB (U ++ V) 1 = false → topB (U ++ V) 2 = false → MK b n (i + 1) C (U ++ V) V.length (opn (U ++ V)) g → TX h0 g → uW U → C.length + (U ++ V).length ≤ i → C.length + (U ++ V).length + i0 ≤ k0 + i → qGo b n x0 (1, i, U ++ m :: V, opn (U ++ V), C, s) → Wp 3 j_M_goesOn 184 [.ref 65, .int (nI c)] [] g Q := by
    intro U C g hp h1 h2 M F hu hl hk go
    have r1 := q_isPr M (uv_100 hu hv)
    rw [hp, bI_f] at r1
    have r2 := q_isOn (x := 1) M (by decide) (uv_100 hu hv)
    rw [h1, bI_f] at r2
    have r3 := q_isOn (x := 2) M (by decide) (uv_100 hu hv)
    rw [h2, bI_f] at r3
    have e50 := M.e50
    have hgo : qst b n (1, i, U ++ m :: V, opn (U ++ V), C, s) = (0, i + 1, trmC (sgV b n i) :: (U ++ m :: V), opn (U ++ V), C, s) := by
      cases U with
      | nil => exact qA_t (show ¬ (m = 3 ∨ m = 4 ∨ m = 5) by omega) hfc (show ¬ (m = 1 ∨ m = 2) by omega) htc
      | cons x U =>
        have a1 : ¬ (x = 3 ∨ x = 4 ∨ x = 5) := of_decide_eq_false hp
        have a2 : ¬ x = 1 := of_decide_eq_false h1
        have a3 : ¬ x = 2 := of_decide_eq_false h2
        exact qA_t a1 hfc (show ¬ (x = 1 ∨ x = 2) by omega) htc
    have fin1 : ∀ x, trmC (sgV b n i) = x → (x = 1 ∨ x = 2) → Q (some (.int 1)) (wI (wI g 104 (U ++ V).length (nI x)) 65 50 (nI ((U ++ V).length + 1))) := fun x hx hx2 => by
      have M1 := M.psh (x := x) (by omega)
      have F1 : TX h0 (wI (wI g 104 (U ++ V).length (nI x)) 65 50 (nI ((U ++ V).length + 1))) := (F.k (by decide)).a (by decide)
      refine hQ _ F1 (Or.inl ⟨rfl, i + 1, x :: U, C, ?_, hu.c (by omega), by omega, ?_, go.trans (qGo.one (hgo.trans ?_))⟩)
      · rw [opn_m (by omega)]; exact M1
      · show C.length + ((U ++ V).length + 1) + i0 ≤ _; omega
      · rw [opn_m (by omega), hx]; rfl
    have wl := M.wl
    rw [hc] at fin1
    generalize hL : (U ++ V).length = len at *
    rcases hf with rfl | rfl
    · have fin1 := fin1 1 rfl (by decide)
      show Wp 3 j_M_goesOn _ _ _ _ _
      repeat (first | (refine W1 rfl ?_; try refine Wp.norm (L' := [_, _]) rfl ?_) | ((first | change (_ → _) ∧ (_ → _) | change vp_in _ _ ∧ _ | change ¬ _ ∧ _); simp (disch := omega) only [nI_clamp, nI_leI, nI_ltI, nI_eq, nI_1, nI_add, nI_not_neg, nI_is_pos, nI_m1, nI_z]) | refine brT (by first | assumption | decide | omega) ?_ | refine brF (by first | assumption | decide | omega) ?_ | refine brTn (by first | assumption | decide | omega) ?_ | refine brFn (by first | assumption | decide | omega) ?_ | refine And.intro (vp_in_nI (by omega) (by decide)) ?_ | refine And.intro (vp_lit (by decide)) ?_ | refine divJ (by decide) ?_ | refine divI (by decide) ?_)
      try change _ ∧ _
      refine Cl.of r1 (by decide) ?_
      repeat (first | (refine W1 rfl ?_; try refine Wp.norm (L' := [_, _]) rfl ?_) | ((first | change (_ → _) ∧ (_ → _) | change vp_in _ _ ∧ _ | change ¬ _ ∧ _); simp (disch := omega) only [nI_clamp, nI_leI, nI_ltI, nI_eq, nI_1, nI_add, nI_not_neg, nI_is_pos, nI_m1, nI_z]) | refine brT (by first | assumption | decide | omega) ?_ | refine brF (by first | assumption | decide | omega) ?_ | refine brTn (by first | assumption | decide | omega) ?_ | refine brFn (by first | assumption | decide | omega) ?_ | refine And.intro (vp_in_nI (by omega) (by decide)) ?_ | refine And.intro (vp_lit (by decide)) ?_ | refine divJ (by decide) ?_ | refine divI (by decide) ?_)
      try change _ ∧ _
      refine Cl.of r2 (by decide) ?_
      repeat (first | (refine W1 rfl ?_; try refine Wp.norm (L' := [_, _]) rfl ?_) | ((first | change (_ → _) ∧ (_ → _) | change vp_in _ _ ∧ _ | change ¬ _ ∧ _); simp (disch := omega) only [nI_clamp, nI_leI, nI_ltI, nI_eq, nI_1, nI_add, nI_not_neg, nI_is_pos, nI_m1, nI_z]) | refine brT (by first | assumption | decide | omega) ?_ | refine brF (by first | assumption | decide | omega) ?_ | refine brTn (by first | assumption | decide | omega) ?_ | refine brFn (by first | assumption | decide | omega) ?_ | refine And.intro (vp_in_nI (by omega) (by decide)) ?_ | refine And.intro (vp_lit (by decide)) ?_ | refine divJ (by decide) ?_ | refine divI (by decide) ?_)
      try change _ ∧ _
      refine Cl.of r3 (by decide) ?_
      repeat (first | (refine W1 rfl ?_; try refine Wp.norm (L' := [_, _]) rfl ?_) | ((first | change (_ → _) ∧ (_ → _) | change vp_in _ _ ∧ _ | change ¬ _ ∧ _); simp (disch := omega) only [nI_clamp, nI_leI, nI_ltI, nI_eq, nI_1, nI_add, nI_not_neg, nI_is_pos, nI_m1, nI_z, e50, wI_ne, wI_ne2, show nI 43 = 43 from rfl]) | refine brT (by first | assumption | decide | omega) ?_ | refine brF (by first | assumption | decide | omega) ?_ | refine brTn (by first | assumption | decide | omega) ?_ | refine brFn (by first | assumption | decide | omega) ?_ | refine And.intro (vp_in_nI (by omega) (by decide)) ?_ | refine And.intro (vp_lit (by decide)) ?_ | refine divJ (by decide) ?_ | refine divI (by decide) ?_)
      try change _ ∧ _
      try simp (disch := omega) only [e50, wI_ne, nI_clamp, nI_1, nI_add]
      first | exact ⟨Or.inr trivial, fin1⟩ | exact ⟨Or.inr rfl, fin1⟩
    · have fin1 := fin1 2 rfl (by decide)
      show Wp 3 j_M_goesOn _ _ _ _ _
      repeat (first | (refine W1 rfl ?_; try refine Wp.norm (L' := [_, _]) rfl ?_) | ((first | change (_ → _) ∧ (_ → _) | change vp_in _ _ ∧ _ | change ¬ _ ∧ _); simp (disch := omega) only [nI_clamp, nI_leI, nI_ltI, nI_eq, nI_1, nI_add, nI_not_neg, nI_is_pos, nI_m1, nI_z]) | refine brT (by first | assumption | decide | omega) ?_ | refine brF (by first | assumption | decide | omega) ?_ | refine brTn (by first | assumption | decide | omega) ?_ | refine brFn (by first | assumption | decide | omega) ?_ | refine And.intro (vp_in_nI (by omega) (by decide)) ?_ | refine And.intro (vp_lit (by decide)) ?_ | refine divJ (by decide) ?_ | refine divI (by decide) ?_)
      try change _ ∧ _
      refine Cl.of r1 (by decide) ?_
      repeat (first | (refine W1 rfl ?_; try refine Wp.norm (L' := [_, _]) rfl ?_) | ((first | change (_ → _) ∧ (_ → _) | change vp_in _ _ ∧ _ | change ¬ _ ∧ _); simp (disch := omega) only [nI_clamp, nI_leI, nI_ltI, nI_eq, nI_1, nI_add, nI_not_neg, nI_is_pos, nI_m1, nI_z]) | refine brT (by first | assumption | decide | omega) ?_ | refine brF (by first | assumption | decide | omega) ?_ | refine brTn (by first | assumption | decide | omega) ?_ | refine brFn (by first | assumption | decide | omega) ?_ | refine And.intro (vp_in_nI (by omega) (by decide)) ?_ | refine And.intro (vp_lit (by decide)) ?_ | refine divJ (by decide) ?_ | refine divI (by decide) ?_)
      try change _ ∧ _
      refine Cl.of r2 (by decide) ?_
      repeat (first | (refine W1 rfl ?_; try refine Wp.norm (L' := [_, _]) rfl ?_) | ((first | change (_ → _) ∧ (_ → _) | change vp_in _ _ ∧ _ | change ¬ _ ∧ _); simp (disch := omega) only [nI_clamp, nI_leI, nI_ltI, nI_eq, nI_1, nI_add, nI_not_neg, nI_is_pos, nI_m1, nI_z]) | refine brT (by first | assumption | decide | omega) ?_ | refine brF (by first | assumption | decide | omega) ?_ | refine brTn (by first | assumption | decide | omega) ?_ | refine brFn (by first | assumption | decide | omega) ?_ | refine And.intro (vp_in_nI (by omega) (by decide)) ?_ | refine And.intro (vp_lit (by decide)) ?_ | refine divJ (by decide) ?_ | refine divI (by decide) ?_)
      try change _ ∧ _
      refine Cl.of r3 (by decide) ?_
      repeat (first | (refine W1 rfl ?_; try refine Wp.norm (L' := [_, _]) rfl ?_) | ((first | change (_ → _) ∧ (_ → _) | change vp_in _ _ ∧ _ | change ¬ _ ∧ _); simp (disch := omega) only [nI_clamp, nI_leI, nI_ltI, nI_eq, nI_1, nI_add, nI_not_neg, nI_is_pos, nI_m1, nI_z, e50, wI_ne, wI_ne2, show nI 45 = 45 from rfl]) | refine brT (by first | assumption | decide | omega) ?_ | refine brF (by first | assumption | decide | omega) ?_ | refine brTn (by first | assumption | decide | omega) ?_ | refine brFn (by first | assumption | decide | omega) ?_ | refine And.intro (vp_in_nI (by omega) (by decide)) ?_ | refine And.intro (vp_lit (by decide)) ?_ | refine divJ (by decide) ?_ | refine divI (by decide) ?_)
      try change _ ∧ _
      try simp (disch := omega) only [e50, wI_ne, nI_clamp, nI_1, nI_add]
      first | exact ⟨Or.inr trivial, fin1⟩ | exact ⟨Or.inr rfl, fin1⟩
  intro U
  induction U with
  | nil =>
    intro C g M F hu hl hk go
    exact last [] C g (pr_V hv) (top_V hv (by decide)) (top_V hv (by decide)) M F hu hl hk go
  | cons x U ih =>
    intro C g M F hu hl hk go
    by_cases hx : 1 ≤ x ∧ x ≤ 5
    · have hlen : (x :: U ++ V).length = (U ++ V).length + 1 := rfl
      have o1 : opn (x :: U ++ V) = opn (U ++ V) := opn_m (by omega)
      have r1 := q_isPr M (uv_100 hu hv)
      have r2 := q_isOn (x := 1) M (by decide) (uv_100 hu hv)
      have r3 := q_isOn (x := 2) M (by decide) (uv_100 hu hv)
      rw [o1] at M go
      obtain ⟨g', r4, F2, M2⟩ := q_drops (x := x) (W := U ++ V) M (by omega)
      have step : qst b n (1, i, x :: (U ++ m :: V), opn (U ++ V), C, s) = (1, i, U ++ m :: V, opn (U ++ V), C ++ [x], s) := by
        by_cases c : isPr x
        · exact qA_pr c
        · have c' : ¬ (x = 3 ∨ x = 4 ∨ x = 5) := c
          exact qA_tr c hfc (show x = 1 ∨ x = 2 by omega)
      have ih := ih (C ++ [x]) g' M2 (F.trans F2) hu.t (by rw [List.length_append]; show C.length + 1 + _ ≤ _; omega) (by rw [List.length_append]; show C.length + 1 + _ + _ ≤ _; omega) (go.trans (qGo.one step))
      have dr : Wp 3 j_M_goesOn 207 [.ref 65, .int (nI c)] [] g Q := by
        repeat (first | (refine W1 rfl ?_; try refine Wp.norm (L' := [_, _]) rfl ?_) | ((first | change (_ → _) ∧ (_ → _) | change vp_in _ _ ∧ _ | change ¬ _ ∧ _); simp (disch := omega) only [nI_clamp, nI_leI, nI_ltI, nI_eq, nI_1, nI_add, nI_not_neg, nI_is_pos, nI_m1, nI_z]) | refine brT (by first | assumption | decide | omega) ?_ | refine brF (by first | assumption | decide | omega) ?_ | refine brTn (by first | assumption | decide | omega) ?_ | refine brFn (by first | assumption | decide | omega) ?_ | refine And.intro (vp_in_nI (by omega) (by decide)) ?_ | refine And.intro (vp_lit (by decide)) ?_ | refine divJ (by decide) ?_ | refine divI (by decide) ?_)
        try change _ ∧ _
        refine Cl.of r4 (by decide) ?_
        repeat (first | refine Wp.at ih rfl rfl ?_ rfl | (refine W1 rfl ?_; try refine Wp.norm (L' := [_, _]) rfl ?_) | ((first | change (_ → _) ∧ (_ → _) | change vp_in _ _ ∧ _ | change ¬ _ ∧ _); simp (disch := omega) only [nI_clamp, nI_leI, nI_ltI, nI_eq, nI_1, nI_add, nI_not_neg, nI_is_pos, nI_m1, nI_z]) | refine brT (by first | assumption | decide | omega) ?_ | refine brF (by first | assumption | decide | omega) ?_ | refine brTn (by first | assumption | decide | omega) ?_ | refine brFn (by first | assumption | decide | omega) ?_ | refine And.intro (vp_in_nI (by omega) (by decide)) ?_ | refine And.intro (vp_lit (by decide)) ?_ | refine divJ (by decide) ?_ | refine divI (by decide) ?_)
        try change _ ∧ _
        first | done | rfl | (simp (disch := omega) only [nI_1, nI_add, nI_clamp] <;> first | done | rfl)
      have ih := dr
      by_cases c3 : isPr x
      · rw [show prdB (x :: U ++ V) = true from decide_eq_true c3, bI_t] at r1
        show Wp 3 j_M_goesOn _ _ _ _ _
        repeat (first | (refine W1 rfl ?_; try refine Wp.norm (L' := [_, _]) rfl ?_) | ((first | change (_ → _) ∧ (_ → _) | change vp_in _ _ ∧ _ | change ¬ _ ∧ _); simp (disch := omega) only [nI_clamp, nI_leI, nI_ltI, nI_eq, nI_1, nI_add, nI_not_neg, nI_is_pos, nI_m1, nI_z]) | refine brT (by first | assumption | decide | omega) ?_ | refine brF (by first | assumption | decide | omega) ?_ | refine brTn (by first | assumption | decide | omega) ?_ | refine brFn (by first | assumption | decide | omega) ?_ | refine And.intro (vp_in_nI (by omega) (by decide)) ?_ | refine And.intro (vp_lit (by decide)) ?_ | refine divJ (by decide) ?_ | refine divI (by decide) ?_)
        try change _ ∧ _
        refine Cl.of r1 (by decide) ?_
        repeat (first | refine Wp.at ih rfl rfl ?_ rfl | (refine W1 rfl ?_; try refine Wp.norm (L' := [_, _]) rfl ?_) | ((first | change (_ → _) ∧ (_ → _) | change vp_in _ _ ∧ _ | change ¬ _ ∧ _); simp (disch := omega) only [nI_clamp, nI_leI, nI_ltI, nI_eq, nI_1, nI_add, nI_not_neg, nI_is_pos, nI_m1, nI_z]) | refine brT (by first | assumption | decide | omega) ?_ | refine brF (by first | assumption | decide | omega) ?_ | refine brTn (by first | assumption | decide | omega) ?_ | refine brFn (by first | assumption | decide | omega) ?_ | refine And.intro (vp_in_nI (by omega) (by decide)) ?_ | refine And.intro (vp_lit (by decide)) ?_ | refine divJ (by decide) ?_ | refine divI (by decide) ?_)
        try change _ ∧ _
        first | done | rfl | (simp (disch := omega) only [nI_1, nI_add, nI_clamp] <;> first | done | rfl)
      · rw [show prdB (x :: U ++ V) = false from decide_eq_false c3, bI_f] at r1
        have c3' : ¬ (x = 3 ∨ x = 4 ∨ x = 5) := c3
        by_cases c1 : x = 1
        · rw [show topB (x :: U ++ V) 1 = true from decide_eq_true c1, bI_t] at r2
          show Wp 3 j_M_goesOn _ _ _ _ _
          repeat (first | (refine W1 rfl ?_; try refine Wp.norm (L' := [_, _]) rfl ?_) | ((first | change (_ → _) ∧ (_ → _) | change vp_in _ _ ∧ _ | change ¬ _ ∧ _); simp (disch := omega) only [nI_clamp, nI_leI, nI_ltI, nI_eq, nI_1, nI_add, nI_not_neg, nI_is_pos, nI_m1, nI_z]) | refine brT (by first | assumption | decide | omega) ?_ | refine brF (by first | assumption | decide | omega) ?_ | refine brTn (by first | assumption | decide | omega) ?_ | refine brFn (by first | assumption | decide | omega) ?_ | refine And.intro (vp_in_nI (by omega) (by decide)) ?_ | refine And.intro (vp_lit (by decide)) ?_ | refine divJ (by decide) ?_ | refine divI (by decide) ?_)
          try change _ ∧ _
          refine Cl.of r1 (by decide) ?_
          repeat (first | (refine W1 rfl ?_; try refine Wp.norm (L' := [_, _]) rfl ?_) | ((first | change (_ → _) ∧ (_ → _) | change vp_in _ _ ∧ _ | change ¬ _ ∧ _); simp (disch := omega) only [nI_clamp, nI_leI, nI_ltI, nI_eq, nI_1, nI_add, nI_not_neg, nI_is_pos, nI_m1, nI_z]) | refine brT (by first | assumption | decide | omega) ?_ | refine brF (by first | assumption | decide | omega) ?_ | refine brTn (by first | assumption | decide | omega) ?_ | refine brFn (by first | assumption | decide | omega) ?_ | refine And.intro (vp_in_nI (by omega) (by decide)) ?_ | refine And.intro (vp_lit (by decide)) ?_ | refine divJ (by decide) ?_ | refine divI (by decide) ?_)
          try change _ ∧ _
          refine Cl.of r2 (by decide) ?_
          repeat (first | refine Wp.at ih rfl rfl ?_ rfl | (refine W1 rfl ?_; try refine Wp.norm (L' := [_, _]) rfl ?_) | ((first | change (_ → _) ∧ (_ → _) | change vp_in _ _ ∧ _ | change ¬ _ ∧ _); simp (disch := omega) only [nI_clamp, nI_leI, nI_ltI, nI_eq, nI_1, nI_add, nI_not_neg, nI_is_pos, nI_m1, nI_z]) | refine brT (by first | assumption | decide | omega) ?_ | refine brF (by first | assumption | decide | omega) ?_ | refine brTn (by first | assumption | decide | omega) ?_ | refine brFn (by first | assumption | decide | omega) ?_ | refine And.intro (vp_in_nI (by omega) (by decide)) ?_ | refine And.intro (vp_lit (by decide)) ?_ | refine divJ (by decide) ?_ | refine divI (by decide) ?_)
          try change _ ∧ _
          first | done | rfl | (simp (disch := omega) only [nI_1, nI_add, nI_clamp] <;> first | done | rfl)
        · rw [show topB (x :: U ++ V) 1 = false from decide_eq_false c1, bI_f] at r2
          rw [show topB (x :: U ++ V) 2 = true from decide_eq_true (by omega), bI_t] at r3
          show Wp 3 j_M_goesOn _ _ _ _ _
          repeat (first | (refine W1 rfl ?_; try refine Wp.norm (L' := [_, _]) rfl ?_) | ((first | change (_ → _) ∧ (_ → _) | change vp_in _ _ ∧ _ | change ¬ _ ∧ _); simp (disch := omega) only [nI_clamp, nI_leI, nI_ltI, nI_eq, nI_1, nI_add, nI_not_neg, nI_is_pos, nI_m1, nI_z]) | refine brT (by first | assumption | decide | omega) ?_ | refine brF (by first | assumption | decide | omega) ?_ | refine brTn (by first | assumption | decide | omega) ?_ | refine brFn (by first | assumption | decide | omega) ?_ | refine And.intro (vp_in_nI (by omega) (by decide)) ?_ | refine And.intro (vp_lit (by decide)) ?_ | refine divJ (by decide) ?_ | refine divI (by decide) ?_)
          try change _ ∧ _
          refine Cl.of r1 (by decide) ?_
          repeat (first | (refine W1 rfl ?_; try refine Wp.norm (L' := [_, _]) rfl ?_) | ((first | change (_ → _) ∧ (_ → _) | change vp_in _ _ ∧ _ | change ¬ _ ∧ _); simp (disch := omega) only [nI_clamp, nI_leI, nI_ltI, nI_eq, nI_1, nI_add, nI_not_neg, nI_is_pos, nI_m1, nI_z]) | refine brT (by first | assumption | decide | omega) ?_ | refine brF (by first | assumption | decide | omega) ?_ | refine brTn (by first | assumption | decide | omega) ?_ | refine brFn (by first | assumption | decide | omega) ?_ | refine And.intro (vp_in_nI (by omega) (by decide)) ?_ | refine And.intro (vp_lit (by decide)) ?_ | refine divJ (by decide) ?_ | refine divI (by decide) ?_)
          try change _ ∧ _
          refine Cl.of r2 (by decide) ?_
          repeat (first | (refine W1 rfl ?_; try refine Wp.norm (L' := [_, _]) rfl ?_) | ((first | change (_ → _) ∧ (_ → _) | change vp_in _ _ ∧ _ | change ¬ _ ∧ _); simp (disch := omega) only [nI_clamp, nI_leI, nI_ltI, nI_eq, nI_1, nI_add, nI_not_neg, nI_is_pos, nI_m1, nI_z]) | refine brT (by first | assumption | decide | omega) ?_ | refine brF (by first | assumption | decide | omega) ?_ | refine brTn (by first | assumption | decide | omega) ?_ | refine brFn (by first | assumption | decide | omega) ?_ | refine And.intro (vp_in_nI (by omega) (by decide)) ?_ | refine And.intro (vp_lit (by decide)) ?_ | refine divJ (by decide) ?_ | refine divI (by decide) ?_)
          try change _ ∧ _
          refine Cl.of r3 (by decide) ?_
          repeat (first | refine Wp.at ih rfl rfl ?_ rfl | (refine W1 rfl ?_; try refine Wp.norm (L' := [_, _]) rfl ?_) | ((first | change (_ → _) ∧ (_ → _) | change vp_in _ _ ∧ _ | change ¬ _ ∧ _); simp (disch := omega) only [nI_clamp, nI_leI, nI_ltI, nI_eq, nI_1, nI_add, nI_not_neg, nI_is_pos, nI_m1, nI_z]) | refine brT (by first | assumption | decide | omega) ?_ | refine brF (by first | assumption | decide | omega) ?_ | refine brTn (by first | assumption | decide | omega) ?_ | refine brFn (by first | assumption | decide | omega) ?_ | refine And.intro (vp_in_nI (by omega) (by decide)) ?_ | refine And.intro (vp_lit (by decide)) ?_ | refine divJ (by decide) ?_ | refine divI (by decide) ?_)
          try change _ ∧ _
          first | done | rfl | (simp (disch := omega) only [nI_1, nI_add, nI_clamp] <;> first | done | rfl)
    · exact last (x :: U) C g (decide_eq_false (show ¬ (x = 3 ∨ x = 4 ∨ x = 5) by omega)) (decide_eq_false (by omega)) (decide_eq_false (by omega)) M F hu hl hk go
end MGO
