/-! ===== THE CLASS READS A TEXT ===== -/
section CHS
variable {b : Nat → Nat} {n : Nat} {s : ST} {C : List Nat} {h h' : HP}
def st0 : ST := fun a i => if a = 0 ∧ i = 3 then 28 else 0
theorem hs_228 {i' k d : Nat} {len : Int32} {o : FO} {s' : ST} {C' : List Nat} {h0 h1 : HP} {x0 : PS} {Q : QT} (hd : 2 ≤ d) (X : CZ b n o i' s' C' (zO s') h1) (O : onlyJ rdL [] h0 h1) (hk : k ≤ 900) (hg : qGo b n x0 (fin (ch o (ckS b n i' 59)) (7, i' + 1, [], 0, C', s')))
  (ih : ∀ h2, CS b n (i' + 1) s' C' (zO s') h2 → onlyJ rdL [] h0 h2 → qGo b n x0 (7, i' + 1, [], 0, C', s') → Wp d j_Reader_readHouse 36 [.ref 17, .int len, .int (nI (k + 1))] [] h2 Q)
  (hF : ∀ f p h' w, CF b n f p h' → onlyJ rdL [] h0 h' → qGo b n x0 (flt f p) → Wp d j_Reader_readHouse 240 [.ref 17, .int len, w] [] h' Q) : Wp d j_Reader_readHouse 228 [.ref 17, .int len, .int (nI k)] [] h1 Q := by
  obtain ⟨h2, r2, O2, X2⟩ := c_expectSign (w := 59) X (by decide)
  show Wp d j_Reader_readHouse _ _ _ _ _
  repeat (first | (refine W1 rfl ?_; try refine Wp.norm (L' := [_, _, _]) rfl ?_) | ((first | change (_ → _) ∧ (_ → _) | change vp_in _ _ ∧ _ | change ¬ _ ∧ _); simp (disch := omega) only [nI_clamp, nI_leI, nI_ltI, nI_eq, nI_1, nI_add, nI_not_neg, nI_is_pos, nI_m1, nI_z]) | refine brT (by first | assumption | decide | omega) ?_ | refine brF (by first | assumption | decide | omega) ?_ | refine brTn (by first | assumption | decide | omega) ?_ | refine brFn (by first | assumption | decide | omega) ?_ | refine And.intro (vp_in_nI (by omega) (by decide)) ?_ | refine And.intro (vp_lit (by decide)) ?_ | refine divJ (by decide) ?_ | refine divI (by decide) ?_)
  try change _ ∧ _
  refine Cl.of r2 (by omega) ?_
  show Wp d j_Reader_readHouse _ _ _ _ _
  generalize ch o (ckS b n i' 59) = oo at X2 hg
  cases oo with
  | none =>
    have ih := ih h2 X2 (O.trans O2) hg
    repeat (first | refine Wp.at ih rfl rfl ?_ rfl | (refine W1 rfl ?_; try refine Wp.norm (L' := [_, _, _]) rfl ?_) | ((first | change (_ → _) ∧ (_ → _) | change vp_in _ _ ∧ _ | change ¬ _ ∧ _); simp (disch := omega) only [nI_clamp, nI_leI, nI_ltI, nI_eq, nI_1, nI_add, nI_not_neg, nI_is_pos, nI_m1, nI_z]) | refine brT (by first | assumption | decide | omega) ?_ | refine brF (by first | assumption | decide | omega) ?_ | refine brTn (by first | assumption | decide | omega) ?_ | refine brFn (by first | assumption | decide | omega) ?_ | refine And.intro (vp_in_nI (by omega) (by decide)) ?_ | refine And.intro (vp_lit (by decide)) ?_ | refine divJ (by decide) ?_ | refine divI (by decide) ?_)
    try change _ ∧ _
    first | done | rfl | (simp (disch := omega) only [nI_1, nI_add, nI_clamp] <;> first | done | rfl)
  | some e =>
    obtain ⟨f, p⟩ := e
    have X2 : CF b n f p h2 := X2
    have hne := X2.ne
    have ih := hF f p h2 (.int (nI (k + 1))) X2 (O.trans O2) hg
    repeat (first | (refine W1 rfl ?_; try refine Wp.norm (L' := [_, _, _]) rfl ?_) | ((first | change (_ → _) ∧ (_ → _) | change vp_in _ _ ∧ _ | change ¬ _ ∧ _); simp (disch := omega) only [nI_clamp, nI_leI, nI_ltI, nI_eq, nI_1, nI_add, nI_not_neg, nI_is_pos, nI_m1, nI_z]) | refine brT (by first | assumption | decide | omega) ?_ | refine brF (by first | assumption | decide | omega) ?_ | refine brTn (by first | assumption | decide | omega) ?_ | refine brFn (by first | assumption | decide | omega) ?_ | refine And.intro (vp_in_nI (by omega) (by decide)) ?_ | refine And.intro (vp_lit (by decide)) ?_ | refine divJ (by decide) ?_ | refine divI (by decide) ?_)
    try change _ ∧ _
    refine ⟨fun z => ?_, fun z => ?_⟩
    · repeat (first | refine Wp.at ih rfl rfl ?_ rfl | (refine W1 rfl ?_; try refine Wp.norm (L' := [_, _, _]) rfl ?_) | ((first | change (_ → _) ∧ (_ → _) | change vp_in _ _ ∧ _ | change ¬ _ ∧ _); simp (disch := omega) only [nI_clamp, nI_leI, nI_ltI, nI_eq, nI_1, nI_add, nI_not_neg, nI_is_pos, nI_m1, nI_z]) | refine brT (by first | assumption | decide | omega) ?_ | refine brF (by first | assumption | decide | omega) ?_ | refine brTn (by first | assumption | decide | omega) ?_ | refine brFn (by first | assumption | decide | omega) ?_ | refine And.intro (vp_in_nI (by omega) (by decide)) ?_ | refine And.intro (vp_lit (by decide)) ?_ | refine divJ (by decide) ?_ | refine divI (by decide) ?_)
      try change _ ∧ _
      first | done | rfl | (simp (disch := omega) only [nI_1, nI_add, nI_clamp] <;> first | done | rfl)
    · repeat (first | refine Wp.at ih rfl rfl ?_ rfl | (refine W1 rfl ?_; try refine Wp.norm (L' := [_, _, _]) rfl ?_) | ((first | change (_ → _) ∧ (_ → _) | change vp_in _ _ ∧ _ | change ¬ _ ∧ _); simp (disch := omega) only [nI_clamp, nI_leI, nI_ltI, nI_eq, nI_1, nI_add, nI_not_neg, nI_is_pos, nI_m1, nI_z]) | refine brT (by first | assumption | decide | omega) ?_ | refine brF (by first | assumption | decide | omega) ?_ | refine brTn (by first | assumption | decide | omega) ?_ | refine brFn (by first | assumption | decide | omega) ?_ | refine And.intro (vp_in_nI (by omega) (by decide)) ?_ | refine And.intro (vp_lit (by decide)) ?_ | refine divJ (by decide) ?_ | refine divI (by decide) ?_)
      try change _ ∧ _
      first | done | rfl | (simp (disch := omega) only [nI_1, nI_add, nI_clamp] <;> first | done | rfl)
theorem w_toInt {v : Nat} (hv : v < 2 ^ 31) : (nI v).toInt = (v : Int) := nI_toInt hv
theorem c_house {d : Nat} {len : Int32} {h0 : HP} {x0 : PS} {Q : QT} (hd : 32 ≤ d)
  (hF : ∀ f p h' w, CF b n f p h' → onlyJ rdL [] h0 h' → qGo b n x0 (flt f p) → Wp d j_Reader_readHouse 240 [.ref 17, .int len, w] [] h' Q)
  (hO : ∀ i C s h' w, CS b n i s C (zO s) h' → C.length ≤ i → tS b n i = 0 → onlyJ rdL [] h0 h' → qGo b n x0 (8, i, [], 0, C, s) → Wp d j_Reader_readHouse 240 [.ref 17, .int len, w] [] h' Q) :
  ∀ e i C s h k, 901 ≤ i + e → CS b n i s C (zO s) h → C.length ≤ i → onlyJ rdL [] h0 h → qGo b n x0 (7, i, [], 0, C, s) → k ≤ i → Wp d j_Reader_readHouse 36 [.ref 17, .int len, .int (nI k)] [] h Q := by
  intro e
  induction e with
  | zero =>
    intro i C s h k he X
    have := X.i9
    omega
  | succ e ih =>
    intro i C s h k he X hl O go hk
    have i9 := X.i9
    have hat := X.at
    have f0 := X.f0
    have h7 := tS_7 (b := b) (n := n) i
    have hv := tV_lt X.hb i
    have r1 := r_sortAt X.K (k := i) (by omega)
    have r2 := r_ownAt X.K X.hi
    rw [← hat] at r1 r2
    by_cases c0 : tS b n i = 0
    · have ih := hO i C s h (.int (nI k)) X hl c0 O (go.trans (qGo.one (by rw [q7]; unfold qS; rw [if_pos c0])))
      rw [c0] at r1
      repeat (first | (refine W1 rfl ?_; try refine Wp.norm (L' := [_, _, _]) rfl ?_) | ((first | change (_ → _) ∧ (_ → _) | change vp_in _ _ ∧ _ | change ¬ _ ∧ _); simp (disch := omega) only [nI_clamp, nI_leI, nI_ltI, nI_eq, nI_1, nI_add, nI_not_neg, nI_is_pos, nI_m1, nI_z, f0, show (900 : Int32) = nI 900 from rfl]) | refine brT (by first | assumption | decide | omega) ?_ | refine brF (by first | assumption | decide | omega) ?_ | refine brTn (by first | assumption | decide | omega) ?_ | refine brFn (by first | assumption | decide | omega) ?_ | refine And.intro (vp_in_nI (by omega) (by decide)) ?_ | refine And.intro (vp_lit (by decide)) ?_ | refine divJ (by decide) ?_ | refine divI (by decide) ?_)
      try change _ ∧ _
      refine Cl.of r1 (by omega) ?_
      repeat (first | refine Wp.at ih rfl rfl ?_ rfl | (refine W1 rfl ?_; try refine Wp.norm (L' := [_, _, _]) rfl ?_) | ((first | change (_ → _) ∧ (_ → _) | change vp_in _ _ ∧ _ | change ¬ _ ∧ _); simp (disch := omega) only [nI_clamp, nI_leI, nI_ltI, nI_eq, nI_1, nI_add, nI_not_neg, nI_is_pos, nI_m1, nI_z, show nI 0 = 0 from rfl]) | refine brT (by first | assumption | decide | omega) ?_ | refine brF (by first | assumption | decide | omega) ?_ | refine brTn (by first | assumption | decide | omega) ?_ | refine brFn (by first | assumption | decide | omega) ?_ | refine And.intro (vp_in_nI (by omega) (by decide)) ?_ | refine And.intro (vp_lit (by decide)) ?_ | refine divJ (by decide) ?_ | refine divI (by decide) ?_)
      try change _ ∧ _
      first | done | rfl | (simp (disch := omega) only [nI_1, nI_add, nI_clamp] <;> first | done | rfl)
    have hpn : ps b n i < n := ps_of c0
    repeat (first | (refine W1 rfl ?_; try refine Wp.norm (L' := [_, _, _]) rfl ?_) | ((first | change (_ → _) ∧ (_ → _) | change vp_in _ _ ∧ _ | change ¬ _ ∧ _); simp (disch := omega) only [nI_clamp, nI_leI, nI_ltI, nI_eq, nI_1, nI_add, nI_not_neg, nI_is_pos, nI_m1, nI_z, f0, show (900 : Int32) = nI 900 from rfl]) | refine brT (by first | assumption | decide | omega) ?_ | refine brF (by first | assumption | decide | omega) ?_ | refine brTn (by first | assumption | decide | omega) ?_ | refine brFn (by first | assumption | decide | omega) ?_ | refine And.intro (vp_in_nI (by omega) (by decide)) ?_ | refine And.intro (vp_lit (by decide)) ?_ | refine divJ (by decide) ?_ | refine divI (by decide) ?_)
    try change _ ∧ _
    refine Cl.of r1 (by omega) ?_
    repeat (first | (refine W1 rfl ?_; try refine Wp.norm (L' := [_, _, _]) rfl ?_) | ((first | change (_ → _) ∧ (_ → _) | change vp_in _ _ ∧ _ | change ¬ _ ∧ _); simp (disch := omega) only [nI_clamp, nI_leI, nI_ltI, nI_eq, nI_1, nI_add, nI_not_neg, nI_is_pos, nI_m1, nI_z]) | refine brT (by first | assumption | decide | omega) ?_ | refine brF (by first | assumption | decide | omega) ?_ | refine brTn (by first | assumption | decide | omega) ?_ | refine brFn (by first | assumption | decide | omega) ?_ | refine And.intro (vp_in_nI (by omega) (by decide)) ?_ | refine And.intro (vp_lit (by decide)) ?_ | refine divJ (by decide) ?_ | refine divI (by decide) ?_)
    try change _ ∧ _
    refine Cl.of r2 (by omega) ?_
    show Wp d j_Reader_readHouse 75 _ _ _ _
    by_cases c3 : tS b n i = 3
    · rw [if_pos c3]
      have eo : owV b n i = tV b n i := by unfold owV; rw [if_pos c3]
      have hS : qst b n (7, i, [], 0, C, s) = qS b n i C s := q7
      unfold qS at hS
      rw [if_neg c0, eo] at hS
      generalize hvv : tV b n i = v at hv eo hS
      by_cases c0' : v = 0
      · subst c0'
        obtain ⟨h1, rr, O1, X1⟩ := c_days X hpn
        rw [show nI 0 = 0 from rfl]
        refine W1 rfl ?_
        refine ⟨fun z => absurd z (by decide), fun _ _ => ?_⟩
        show Wp d j_Reader_readHouse _ _ _ _ _
        repeat (first | (refine W1 rfl ?_; try refine Wp.norm (L' := [_, _, _]) rfl ?_) | ((first | change (_ → _) ∧ (_ → _) | change vp_in _ _ ∧ _ | change ¬ _ ∧ _); simp (disch := omega) only [nI_clamp, nI_leI, nI_ltI, nI_eq, nI_1, nI_add, nI_not_neg, nI_is_pos, nI_m1, nI_z]) | refine brT (by first | assumption | decide | omega) ?_ | refine brF (by first | assumption | decide | omega) ?_ | refine brTn (by first | assumption | decide | omega) ?_ | refine brFn (by first | assumption | decide | omega) ?_ | refine And.intro (vp_in_nI (by omega) (by decide)) ?_ | refine And.intro (vp_lit (by decide)) ?_ | refine divJ (by decide) ?_ | refine divI (by decide) ?_)
        try change _ ∧ _
        refine Cl.of rr (by omega) ?_
        have ih := hs_228 (x0 := x0) (k := k) (Q := Q) (len := len) (by omega) X1 (O.trans O1) (by omega) (go.trans (qGo.one (hS.trans (by simp only [reduceIte, Nat.reduceEqDiff] <;> rfl)))) (fun h2 X2 O2 g2 => ih _ _ _ h2 (k + 1) (by omega) X2 (by omega) O2 g2 (by omega)) hF
        repeat (first | refine Wp.at ih rfl rfl ?_ rfl | (refine W1 rfl ?_; try refine Wp.norm (L' := [_, _, _]) rfl ?_) | ((first | change (_ → _) ∧ (_ → _) | change vp_in _ _ ∧ _ | change ¬ _ ∧ _); simp (disch := omega) only [nI_clamp, nI_leI, nI_ltI, nI_eq, nI_1, nI_add, nI_not_neg, nI_is_pos, nI_m1, nI_z]) | refine brT (by first | assumption | decide | omega) ?_ | refine brF (by first | assumption | decide | omega) ?_ | refine brTn (by first | assumption | decide | omega) ?_ | refine brFn (by first | assumption | decide | omega) ?_ | refine And.intro (vp_in_nI (by omega) (by decide)) ?_ | refine And.intro (vp_lit (by decide)) ?_ | refine divJ (by decide) ?_ | refine divI (by decide) ?_)
        try change _ ∧ _
        first | done | rfl | (simp (disch := omega) only [nI_1, nI_add, nI_clamp] <;> first | done | rfl)
      by_cases c1' : v = 1
      · subst c1'
        obtain ⟨h1, rr, O1, X1⟩ := c_person X hpn
        rw [show nI 1 = 1 from rfl]
        refine W1 rfl ?_
        refine ⟨fun z => absurd z (by decide), fun _ _ => ?_⟩
        show Wp d j_Reader_readHouse _ _ _ _ _
        repeat (first | (refine W1 rfl ?_; try refine Wp.norm (L' := [_, _, _]) rfl ?_) | ((first | change (_ → _) ∧ (_ → _) | change vp_in _ _ ∧ _ | change ¬ _ ∧ _); simp (disch := omega) only [nI_clamp, nI_leI, nI_ltI, nI_eq, nI_1, nI_add, nI_not_neg, nI_is_pos, nI_m1, nI_z]) | refine brT (by first | assumption | decide | omega) ?_ | refine brF (by first | assumption | decide | omega) ?_ | refine brTn (by first | assumption | decide | omega) ?_ | refine brFn (by first | assumption | decide | omega) ?_ | refine And.intro (vp_in_nI (by omega) (by decide)) ?_ | refine And.intro (vp_lit (by decide)) ?_ | refine divJ (by decide) ?_ | refine divI (by decide) ?_)
        try change _ ∧ _
        refine Cl.of rr (by omega) ?_
        have ih := hs_228 (x0 := x0) (k := k) (Q := Q) (len := len) (by omega) X1 (O.trans O1) (by omega) (go.trans (qGo.one (hS.trans (by simp only [reduceIte, Nat.reduceEqDiff] <;> rfl)))) (fun h2 X2 O2 g2 => ih _ _ _ h2 (k + 1) (by omega) X2 (by omega) O2 g2 (by omega)) hF
        repeat (first | refine Wp.at ih rfl rfl ?_ rfl | (refine W1 rfl ?_; try refine Wp.norm (L' := [_, _, _]) rfl ?_) | ((first | change (_ → _) ∧ (_ → _) | change vp_in _ _ ∧ _ | change ¬ _ ∧ _); simp (disch := omega) only [nI_clamp, nI_leI, nI_ltI, nI_eq, nI_1, nI_add, nI_not_neg, nI_is_pos, nI_m1, nI_z]) | refine brT (by first | assumption | decide | omega) ?_ | refine brF (by first | assumption | decide | omega) ?_ | refine brTn (by first | assumption | decide | omega) ?_ | refine brFn (by first | assumption | decide | omega) ?_ | refine And.intro (vp_in_nI (by omega) (by decide)) ?_ | refine And.intro (vp_lit (by decide)) ?_ | refine divJ (by decide) ?_ | refine divI (by decide) ?_)
        try change _ ∧ _
        first | done | rfl | (simp (disch := omega) only [nI_1, nI_add, nI_clamp] <;> first | done | rfl)
      by_cases c5' : v = 5
      · subst c5'
        obtain ⟨h1, rr, O1, X1⟩ := c_kind X hpn
        rw [show nI 5 = 5 from rfl]
        refine W1 rfl ?_
        refine ⟨fun z => absurd z (by decide), fun _ _ => ?_⟩
        show Wp d j_Reader_readHouse _ _ _ _ _
        repeat (first | (refine W1 rfl ?_; try refine Wp.norm (L' := [_, _, _]) rfl ?_) | ((first | change (_ → _) ∧ (_ → _) | change vp_in _ _ ∧ _ | change ¬ _ ∧ _); simp (disch := omega) only [nI_clamp, nI_leI, nI_ltI, nI_eq, nI_1, nI_add, nI_not_neg, nI_is_pos, nI_m1, nI_z]) | refine brT (by first | assumption | decide | omega) ?_ | refine brF (by first | assumption | decide | omega) ?_ | refine brTn (by first | assumption | decide | omega) ?_ | refine brFn (by first | assumption | decide | omega) ?_ | refine And.intro (vp_in_nI (by omega) (by decide)) ?_ | refine And.intro (vp_lit (by decide)) ?_ | refine divJ (by decide) ?_ | refine divI (by decide) ?_)
        try change _ ∧ _
        refine Cl.of rr (by omega) ?_
        have ih := hs_228 (x0 := x0) (k := k) (Q := Q) (len := len) (by omega) X1 (O.trans O1) (by omega) (go.trans (qGo.one (hS.trans (by simp only [reduceIte, Nat.reduceEqDiff] <;> rfl)))) (fun h2 X2 O2 g2 => ih _ _ _ h2 (k + 1) (by omega) X2 (by omega) O2 g2 (by omega)) hF
        repeat (first | refine Wp.at ih rfl rfl ?_ rfl | (refine W1 rfl ?_; try refine Wp.norm (L' := [_, _, _]) rfl ?_) | ((first | change (_ → _) ∧ (_ → _) | change vp_in _ _ ∧ _ | change ¬ _ ∧ _); simp (disch := omega) only [nI_clamp, nI_leI, nI_ltI, nI_eq, nI_1, nI_add, nI_not_neg, nI_is_pos, nI_m1, nI_z]) | refine brT (by first | assumption | decide | omega) ?_ | refine brF (by first | assumption | decide | omega) ?_ | refine brTn (by first | assumption | decide | omega) ?_ | refine brFn (by first | assumption | decide | omega) ?_ | refine And.intro (vp_in_nI (by omega) (by decide)) ?_ | refine And.intro (vp_lit (by decide)) ?_ | refine divJ (by decide) ?_ | refine divI (by decide) ?_)
        try change _ ∧ _
        first | done | rfl | (simp (disch := omega) only [nI_1, nI_add, nI_clamp] <;> first | done | rfl)
      by_cases c7' : v = 7
      · subst c7'
        obtain ⟨h1, rr, O1, X1⟩ := c_turn X hpn rfl hl eo
        rw [show nI 7 = 7 from rfl]
        refine W1 rfl ?_
        refine ⟨fun z => absurd z (by decide), fun _ _ => ?_⟩
        show Wp d j_Reader_readHouse _ _ _ _ _
        repeat (first | (refine W1 rfl ?_; try refine Wp.norm (L' := [_, _, _]) rfl ?_) | ((first | change (_ → _) ∧ (_ → _) | change vp_in _ _ ∧ _ | change ¬ _ ∧ _); simp (disch := omega) only [nI_clamp, nI_leI, nI_ltI, nI_eq, nI_1, nI_add, nI_not_neg, nI_is_pos, nI_m1, nI_z]) | refine brT (by first | assumption | decide | omega) ?_ | refine brF (by first | assumption | decide | omega) ?_ | refine brTn (by first | assumption | decide | omega) ?_ | refine brFn (by first | assumption | decide | omega) ?_ | refine And.intro (vp_in_nI (by omega) (by decide)) ?_ | refine And.intro (vp_lit (by decide)) ?_ | refine divJ (by decide) ?_ | refine divI (by decide) ?_)
        try change _ ∧ _
        refine Cl.of rr (by omega) ?_
        rcases X1 with ⟨i', C', s', Y, hl', hii, s1, rfl, hz, gg⟩ | ⟨f, p, Y, gg⟩
        · rw [← hz] at Y
          have ih := hs_228 (x0 := x0) (k := k) (Q := Q) (len := len) (o := none) (by omega) Y (O.trans O1) (by omega) ((go.trans gg).trans (qGo.one q6)) (fun h2 X2 O2 g2 => ih _ _ _ h2 (k + 1) (by omega) X2 (by omega) O2 g2 (by omega)) hF
          repeat (first | refine Wp.at ih rfl rfl ?_ rfl | (refine W1 rfl ?_; try refine Wp.norm (L' := [_, _, _]) rfl ?_) | ((first | change (_ → _) ∧ (_ → _) | change vp_in _ _ ∧ _ | change ¬ _ ∧ _); simp (disch := omega) only [nI_clamp, nI_leI, nI_ltI, nI_eq, nI_1, nI_add, nI_not_neg, nI_is_pos, nI_m1, nI_z]) | refine brT (by first | assumption | decide | omega) ?_ | refine brF (by first | assumption | decide | omega) ?_ | refine brTn (by first | assumption | decide | omega) ?_ | refine brFn (by first | assumption | decide | omega) ?_ | refine And.intro (vp_in_nI (by omega) (by decide)) ?_ | refine And.intro (vp_lit (by decide)) ?_ | refine divJ (by decide) ?_ | refine divI (by decide) ?_)
          try change _ ∧ _
          first | done | rfl | (simp (disch := omega) only [nI_1, nI_add, nI_clamp] <;> first | done | rfl)
        · have ih := hs_228 (x0 := x0) (k := k) (Q := Q) (len := len) (o := some (f, p)) (i' := i) (s' := s) (C' := C) (by omega) Y (O.trans O1) (by omega) (go.trans gg) (fun h2 X2 O2 g2 => ih _ _ _ h2 (k + 1) (by omega) X2 (by omega) O2 g2 (by omega)) hF
          repeat (first | refine Wp.at ih rfl rfl ?_ rfl | (refine W1 rfl ?_; try refine Wp.norm (L' := [_, _, _]) rfl ?_) | ((first | change (_ → _) ∧ (_ → _) | change vp_in _ _ ∧ _ | change ¬ _ ∧ _); simp (disch := omega) only [nI_clamp, nI_leI, nI_ltI, nI_eq, nI_1, nI_add, nI_not_neg, nI_is_pos, nI_m1, nI_z]) | refine brT (by first | assumption | decide | omega) ?_ | refine brF (by first | assumption | decide | omega) ?_ | refine brTn (by first | assumption | decide | omega) ?_ | refine brFn (by first | assumption | decide | omega) ?_ | refine And.intro (vp_in_nI (by omega) (by decide)) ?_ | refine And.intro (vp_lit (by decide)) ?_ | refine divJ (by decide) ?_ | refine divI (by decide) ?_)
          try change _ ∧ _
          first | done | rfl | (simp (disch := omega) only [nI_1, nI_add, nI_clamp] <;> first | done | rfl)
      by_cases c9' : v = 9
      · subst c9'
        obtain ⟨h1, rr, O1, X1⟩ := c_never X hpn rfl hl eo
        rw [show nI 9 = 9 from rfl]
        refine W1 rfl ?_
        refine ⟨fun z => absurd z (by decide), fun _ _ => ?_⟩
        show Wp d j_Reader_readHouse _ _ _ _ _
        repeat (first | (refine W1 rfl ?_; try refine Wp.norm (L' := [_, _, _]) rfl ?_) | ((first | change (_ → _) ∧ (_ → _) | change vp_in _ _ ∧ _ | change ¬ _ ∧ _); simp (disch := omega) only [nI_clamp, nI_leI, nI_ltI, nI_eq, nI_1, nI_add, nI_not_neg, nI_is_pos, nI_m1, nI_z]) | refine brT (by first | assumption | decide | omega) ?_ | refine brF (by first | assumption | decide | omega) ?_ | refine brTn (by first | assumption | decide | omega) ?_ | refine brFn (by first | assumption | decide | omega) ?_ | refine And.intro (vp_in_nI (by omega) (by decide)) ?_ | refine And.intro (vp_lit (by decide)) ?_ | refine divJ (by decide) ?_ | refine divI (by decide) ?_)
        try change _ ∧ _
        refine Cl.of rr (by omega) ?_
        rcases X1 with ⟨i', C', s', Y, hl', hii, s1, rfl, hz, gg⟩ | ⟨f, p, Y, gg⟩
        · rw [← hz] at Y
          have ih := hs_228 (x0 := x0) (k := k) (Q := Q) (len := len) (o := none) (by omega) Y (O.trans O1) (by omega) ((go.trans gg).trans (qGo.one q6)) (fun h2 X2 O2 g2 => ih _ _ _ h2 (k + 1) (by omega) X2 (by omega) O2 g2 (by omega)) hF
          repeat (first | refine Wp.at ih rfl rfl ?_ rfl | (refine W1 rfl ?_; try refine Wp.norm (L' := [_, _, _]) rfl ?_) | ((first | change (_ → _) ∧ (_ → _) | change vp_in _ _ ∧ _ | change ¬ _ ∧ _); simp (disch := omega) only [nI_clamp, nI_leI, nI_ltI, nI_eq, nI_1, nI_add, nI_not_neg, nI_is_pos, nI_m1, nI_z]) | refine brT (by first | assumption | decide | omega) ?_ | refine brF (by first | assumption | decide | omega) ?_ | refine brTn (by first | assumption | decide | omega) ?_ | refine brFn (by first | assumption | decide | omega) ?_ | refine And.intro (vp_in_nI (by omega) (by decide)) ?_ | refine And.intro (vp_lit (by decide)) ?_ | refine divJ (by decide) ?_ | refine divI (by decide) ?_)
          try change _ ∧ _
          first | done | rfl | (simp (disch := omega) only [nI_1, nI_add, nI_clamp] <;> first | done | rfl)
        · have ih := hs_228 (x0 := x0) (k := k) (Q := Q) (len := len) (o := some (f, p)) (i' := i) (s' := s) (C' := C) (by omega) Y (O.trans O1) (by omega) (go.trans gg) (fun h2 X2 O2 g2 => ih _ _ _ h2 (k + 1) (by omega) X2 (by omega) O2 g2 (by omega)) hF
          repeat (first | refine Wp.at ih rfl rfl ?_ rfl | (refine W1 rfl ?_; try refine Wp.norm (L' := [_, _, _]) rfl ?_) | ((first | change (_ → _) ∧ (_ → _) | change vp_in _ _ ∧ _ | change ¬ _ ∧ _); simp (disch := omega) only [nI_clamp, nI_leI, nI_ltI, nI_eq, nI_1, nI_add, nI_not_neg, nI_is_pos, nI_m1, nI_z]) | refine brT (by first | assumption | decide | omega) ?_ | refine brF (by first | assumption | decide | omega) ?_ | refine brTn (by first | assumption | decide | omega) ?_ | refine brFn (by first | assumption | decide | omega) ?_ | refine And.intro (vp_in_nI (by omega) (by decide)) ?_ | refine And.intro (vp_lit (by decide)) ?_ | refine divJ (by decide) ?_ | refine divI (by decide) ?_)
          try change _ ∧ _
          first | done | rfl | (simp (disch := omega) only [nI_1, nI_add, nI_clamp] <;> first | done | rfl)
      by_cases c10' : v = 10
      · subst c10'
        obtain ⟨h1, rr, O1, X1⟩ := c_rest X hpn rfl
        rw [show nI 10 = 10 from rfl]
        refine W1 rfl ?_
        refine ⟨fun z => absurd z (by decide), fun _ _ => ?_⟩
        show Wp d j_Reader_readHouse _ _ _ _ _
        repeat (first | (refine W1 rfl ?_; try refine Wp.norm (L' := [_, _, _]) rfl ?_) | ((first | change (_ → _) ∧ (_ → _) | change vp_in _ _ ∧ _ | change ¬ _ ∧ _); simp (disch := omega) only [nI_clamp, nI_leI, nI_ltI, nI_eq, nI_1, nI_add, nI_not_neg, nI_is_pos, nI_m1, nI_z]) | refine brT (by first | assumption | decide | omega) ?_ | refine brF (by first | assumption | decide | omega) ?_ | refine brTn (by first | assumption | decide | omega) ?_ | refine brFn (by first | assumption | decide | omega) ?_ | refine And.intro (vp_in_nI (by omega) (by decide)) ?_ | refine And.intro (vp_lit (by decide)) ?_ | refine divJ (by decide) ?_ | refine divI (by decide) ?_)
        try change _ ∧ _
        refine Cl.of rr (by omega) ?_
        have ih := hs_228 (x0 := x0) (k := k) (Q := Q) (len := len) (by omega) X1 (O.trans O1) (by omega) (go.trans (qGo.one (hS.trans (by simp only [reduceIte, Nat.reduceEqDiff] <;> rfl)))) (fun h2 X2 O2 g2 => ih _ _ _ h2 (k + 1) (by omega) X2 (by omega) O2 g2 (by omega)) hF
        repeat (first | refine Wp.at ih rfl rfl ?_ rfl | (refine W1 rfl ?_; try refine Wp.norm (L' := [_, _, _]) rfl ?_) | ((first | change (_ → _) ∧ (_ → _) | change vp_in _ _ ∧ _ | change ¬ _ ∧ _); simp (disch := omega) only [nI_clamp, nI_leI, nI_ltI, nI_eq, nI_1, nI_add, nI_not_neg, nI_is_pos, nI_m1, nI_z]) | refine brT (by first | assumption | decide | omega) ?_ | refine brF (by first | assumption | decide | omega) ?_ | refine brTn (by first | assumption | decide | omega) ?_ | refine brFn (by first | assumption | decide | omega) ?_ | refine And.intro (vp_in_nI (by omega) (by decide)) ?_ | refine And.intro (vp_lit (by decide)) ?_ | refine divJ (by decide) ?_ | refine divI (by decide) ?_)
        try change _ ∧ _
        first | done | rfl | (simp (disch := omega) only [nI_1, nI_add, nI_clamp] <;> first | done | rfl)
      by_cases c11' : v = 11
      · subst c11'
        obtain ⟨h1, rr, O1, X1⟩ := c_pair23 X hpn rfl
        rw [show nI 11 = 11 from rfl]
        refine W1 rfl ?_
        refine ⟨fun z => absurd z (by decide), fun _ _ => ?_⟩
        show Wp d j_Reader_readHouse _ _ _ _ _
        repeat (first | (refine W1 rfl ?_; try refine Wp.norm (L' := [_, _, _]) rfl ?_) | ((first | change (_ → _) ∧ (_ → _) | change vp_in _ _ ∧ _ | change ¬ _ ∧ _); simp (disch := omega) only [nI_clamp, nI_leI, nI_ltI, nI_eq, nI_1, nI_add, nI_not_neg, nI_is_pos, nI_m1, nI_z]) | refine brT (by first | assumption | decide | omega) ?_ | refine brF (by first | assumption | decide | omega) ?_ | refine brTn (by first | assumption | decide | omega) ?_ | refine brFn (by first | assumption | decide | omega) ?_ | refine And.intro (vp_in_nI (by omega) (by decide)) ?_ | refine And.intro (vp_lit (by decide)) ?_ | refine divJ (by decide) ?_ | refine divI (by decide) ?_)
        try change _ ∧ _
        refine Cl.of rr (by omega) ?_
        have ih := hs_228 (x0 := x0) (k := k) (Q := Q) (len := len) (by omega) X1 (O.trans O1) (by omega) (go.trans (qGo.one (hS.trans (by simp only [reduceIte, Nat.reduceEqDiff] <;> rfl)))) (fun h2 X2 O2 g2 => ih _ _ _ h2 (k + 1) (by omega) X2 (by omega) O2 g2 (by omega)) hF
        repeat (first | refine Wp.at ih rfl rfl ?_ rfl | (refine W1 rfl ?_; try refine Wp.norm (L' := [_, _, _]) rfl ?_) | ((first | change (_ → _) ∧ (_ → _) | change vp_in _ _ ∧ _ | change ¬ _ ∧ _); simp (disch := omega) only [nI_clamp, nI_leI, nI_ltI, nI_eq, nI_1, nI_add, nI_not_neg, nI_is_pos, nI_m1, nI_z]) | refine brT (by first | assumption | decide | omega) ?_ | refine brF (by first | assumption | decide | omega) ?_ | refine brTn (by first | assumption | decide | omega) ?_ | refine brFn (by first | assumption | decide | omega) ?_ | refine And.intro (vp_in_nI (by omega) (by decide)) ?_ | refine And.intro (vp_lit (by decide)) ?_ | refine divJ (by decide) ?_ | refine divI (by decide) ?_)
        try change _ ∧ _
        first | done | rfl | (simp (disch := omega) only [nI_1, nI_add, nI_clamp] <;> first | done | rfl)
      by_cases c12' : v = 12
      · subst c12'
        obtain ⟨h1, rr, O1, X1⟩ := c_pair24 X hpn rfl
        rw [show nI 12 = 12 from rfl]
        refine W1 rfl ?_
        refine ⟨fun z => absurd z (by decide), fun _ _ => ?_⟩
        show Wp d j_Reader_readHouse _ _ _ _ _
        repeat (first | (refine W1 rfl ?_; try refine Wp.norm (L' := [_, _, _]) rfl ?_) | ((first | change (_ → _) ∧ (_ → _) | change vp_in _ _ ∧ _ | change ¬ _ ∧ _); simp (disch := omega) only [nI_clamp, nI_leI, nI_ltI, nI_eq, nI_1, nI_add, nI_not_neg, nI_is_pos, nI_m1, nI_z]) | refine brT (by first | assumption | decide | omega) ?_ | refine brF (by first | assumption | decide | omega) ?_ | refine brTn (by first | assumption | decide | omega) ?_ | refine brFn (by first | assumption | decide | omega) ?_ | refine And.intro (vp_in_nI (by omega) (by decide)) ?_ | refine And.intro (vp_lit (by decide)) ?_ | refine divJ (by decide) ?_ | refine divI (by decide) ?_)
        try change _ ∧ _
        refine Cl.of rr (by omega) ?_
        have ih := hs_228 (x0 := x0) (k := k) (Q := Q) (len := len) (by omega) X1 (O.trans O1) (by omega) (go.trans (qGo.one (hS.trans (by simp only [reduceIte, Nat.reduceEqDiff] <;> rfl)))) (fun h2 X2 O2 g2 => ih _ _ _ h2 (k + 1) (by omega) X2 (by omega) O2 g2 (by omega)) hF
        repeat (first | refine Wp.at ih rfl rfl ?_ rfl | (refine W1 rfl ?_; try refine Wp.norm (L' := [_, _, _]) rfl ?_) | ((first | change (_ → _) ∧ (_ → _) | change vp_in _ _ ∧ _ | change ¬ _ ∧ _); simp (disch := omega) only [nI_clamp, nI_leI, nI_ltI, nI_eq, nI_1, nI_add, nI_not_neg, nI_is_pos, nI_m1, nI_z]) | refine brT (by first | assumption | decide | omega) ?_ | refine brF (by first | assumption | decide | omega) ?_ | refine brTn (by first | assumption | decide | omega) ?_ | refine brFn (by first | assumption | decide | omega) ?_ | refine And.intro (vp_in_nI (by omega) (by decide)) ?_ | refine And.intro (vp_lit (by decide)) ?_ | refine divJ (by decide) ?_ | refine divI (by decide) ?_)
        try change _ ∧ _
        first | done | rfl | (simp (disch := omega) only [nI_1, nI_add, nI_clamp] <;> first | done | rfl)
      have r3 := c_placeN X
      have X1 : CZ b n (some (1, ps b n i)) i s C (zO s) (wI (wI h 17 6 (nI 1)) 17 7 (nI (ps b n i))) := X.fl (by decide)
      have ih := hs_228 (x0 := x0) (k := k) (Q := Q) (len := len) (by omega) X1 (O.trans (o17f _ _)) (by omega) (go.trans (qGo.one (hS.trans (by rw [if_neg c0', if_neg c1', if_neg c5', if_neg c7', if_neg c9', if_neg c10', if_neg c11', if_neg c12']; rfl)))) (fun h2 X2 O2 g2 => ih _ _ _ h2 (k + 1) (by omega) X2 (by omega) O2 g2 (by omega)) hF
      have dflt : Wp d j_Reader_readHouse 212 [.ref 17, .int len, .int (nI k)] [] h Q := by
        repeat (first | (refine W1 rfl ?_; try refine Wp.norm (L' := [_, _, _]) rfl ?_) | ((first | change (_ → _) ∧ (_ → _) | change vp_in _ _ ∧ _ | change ¬ _ ∧ _); simp (disch := omega) only [nI_clamp, nI_leI, nI_ltI, nI_eq, nI_1, nI_add, nI_not_neg, nI_is_pos, nI_m1, nI_z]) | refine brT (by first | assumption | decide | omega) ?_ | refine brF (by first | assumption | decide | omega) ?_ | refine brTn (by first | assumption | decide | omega) ?_ | refine brFn (by first | assumption | decide | omega) ?_ | refine And.intro (vp_in_nI (by omega) (by decide)) ?_ | refine And.intro (vp_lit (by decide)) ?_ | refine divJ (by decide) ?_ | refine divI (by decide) ?_)
        try change _ ∧ _
        refine Cl.of r3 (by omega) ?_
        repeat (first | (refine W1 rfl ?_; try refine Wp.norm (L' := [_, _, _]) rfl ?_) | ((first | change (_ → _) ∧ (_ → _) | change vp_in _ _ ∧ _ | change ¬ _ ∧ _); simp (disch := omega) only [nI_clamp, nI_leI, nI_ltI, nI_eq, nI_1, nI_add, nI_not_neg, nI_is_pos, nI_m1, nI_z]) | refine brT (by first | assumption | decide | omega) ?_ | refine brF (by first | assumption | decide | omega) ?_ | refine brTn (by first | assumption | decide | omega) ?_ | refine brFn (by first | assumption | decide | omega) ?_ | refine And.intro (vp_in_nI (by omega) (by decide)) ?_ | refine And.intro (vp_lit (by decide)) ?_ | refine divJ (by decide) ?_ | refine divI (by decide) ?_)
        try change _ ∧ _
        refine Cl.of (r_fail0 _ _ f0) (by omega) ?_
        repeat (first | refine Wp.at ih rfl rfl ?_ rfl | (refine W1 rfl ?_; try refine Wp.norm (L' := [_, _, _]) rfl ?_) | ((first | change (_ → _) ∧ (_ → _) | change vp_in _ _ ∧ _ | change ¬ _ ∧ _); simp (disch := omega) only [nI_clamp, nI_leI, nI_ltI, nI_eq, nI_1, nI_add, nI_not_neg, nI_is_pos, nI_m1, nI_z]) | refine brT (by first | assumption | decide | omega) ?_ | refine brF (by first | assumption | decide | omega) ?_ | refine brTn (by first | assumption | decide | omega) ?_ | refine brFn (by first | assumption | decide | omega) ?_ | refine And.intro (vp_in_nI (by omega) (by decide)) ?_ | refine And.intro (vp_lit (by decide)) ?_ | refine divJ (by decide) ?_ | refine divI (by decide) ?_)
        try change _ ∧ _
        first | done | rfl | (simp (disch := omega) only [nI_1, nI_add, nI_clamp] <;> first | done | rfl)
      by_cases c13 : v ≤ 12
      · have : v = 2 ∨ v = 3 ∨ v = 4 ∨ v = 6 ∨ v = 8 := by omega
        rcases this with c | c | c | c | c <;> (rw [c]; refine W1 rfl ?_; exact ⟨fun _ => dflt, fun _ _ => dflt⟩)
      · refine W1 rfl ?_
        have ev := w_toInt (v := v) (by omega)
        exact ⟨fun _ => dflt, fun z1 z2 => absurd (show (12 : Int) < (nI v).toInt by rw [ev]; omega) z2⟩
    · rw [if_neg c3]
      have eo : owV b n i = 99 := tS_ow c3
      have r3 := c_placeN X
      have X1 : CZ b n (some (1, ps b n i)) i s C (zO s) (wI (wI h 17 6 (nI 1)) 17 7 (nI (ps b n i))) := X.fl (by decide)
      have ih := hs_228 (x0 := x0) (k := k) (Q := Q) (len := len) (by omega) X1 (O.trans (o17f _ _)) (by omega) (go.trans (qGo.one (by rw [q7]; unfold qS; rw [if_neg c0, eo]; rfl))) (fun h2 X2 O2 g2 => ih _ _ _ h2 (k + 1) (by omega) X2 (by omega) O2 g2 (by omega)) hF
      have dflt : Wp d j_Reader_readHouse 212 [.ref 17, .int len, .int (nI k)] [] h Q := by
        repeat (first | (refine W1 rfl ?_; try refine Wp.norm (L' := [_, _, _]) rfl ?_) | ((first | change (_ → _) ∧ (_ → _) | change vp_in _ _ ∧ _ | change ¬ _ ∧ _); simp (disch := omega) only [nI_clamp, nI_leI, nI_ltI, nI_eq, nI_1, nI_add, nI_not_neg, nI_is_pos, nI_m1, nI_z]) | refine brT (by first | assumption | decide | omega) ?_ | refine brF (by first | assumption | decide | omega) ?_ | refine brTn (by first | assumption | decide | omega) ?_ | refine brFn (by first | assumption | decide | omega) ?_ | refine And.intro (vp_in_nI (by omega) (by decide)) ?_ | refine And.intro (vp_lit (by decide)) ?_ | refine divJ (by decide) ?_ | refine divI (by decide) ?_)
        try change _ ∧ _
        refine Cl.of r3 (by omega) ?_
        repeat (first | (refine W1 rfl ?_; try refine Wp.norm (L' := [_, _, _]) rfl ?_) | ((first | change (_ → _) ∧ (_ → _) | change vp_in _ _ ∧ _ | change ¬ _ ∧ _); simp (disch := omega) only [nI_clamp, nI_leI, nI_ltI, nI_eq, nI_1, nI_add, nI_not_neg, nI_is_pos, nI_m1, nI_z]) | refine brT (by first | assumption | decide | omega) ?_ | refine brF (by first | assumption | decide | omega) ?_ | refine brTn (by first | assumption | decide | omega) ?_ | refine brFn (by first | assumption | decide | omega) ?_ | refine And.intro (vp_in_nI (by omega) (by decide)) ?_ | refine And.intro (vp_lit (by decide)) ?_ | refine divJ (by decide) ?_ | refine divI (by decide) ?_)
        try change _ ∧ _
        refine Cl.of (r_fail0 _ _ f0) (by omega) ?_
        repeat (first | refine Wp.at ih rfl rfl ?_ rfl | (refine W1 rfl ?_; try refine Wp.norm (L' := [_, _, _]) rfl ?_) | ((first | change (_ → _) ∧ (_ → _) | change vp_in _ _ ∧ _ | change ¬ _ ∧ _); simp (disch := omega) only [nI_clamp, nI_leI, nI_ltI, nI_eq, nI_1, nI_add, nI_not_neg, nI_is_pos, nI_m1, nI_z]) | refine brT (by first | assumption | decide | omega) ?_ | refine brF (by first | assumption | decide | omega) ?_ | refine brTn (by first | assumption | decide | omega) ?_ | refine brFn (by first | assumption | decide | omega) ?_ | refine And.intro (vp_in_nI (by omega) (by decide)) ?_ | refine And.intro (vp_lit (by decide)) ?_ | refine divJ (by decide) ?_ | refine divI (by decide) ?_)
        try change _ ∧ _
        first | done | rfl | (simp (disch := omega) only [nI_1, nI_add, nI_clamp] <;> first | done | rfl)
      refine W1 rfl ?_
      exact ⟨fun _ => dflt, fun z1 z2 => absurd (show (-1 : Int32).toInt < 0 by decide) z1⟩
end CHS
