/-! ===== THE MODEL READS A TEXT; ROWS OF NAMES ===== -/
theorem wI_w (h : HP) (k i : Nat) (x y : Int32) : wI (wI h k i x) k i y = wI h k i y := by
  refine Prod.ext ?_ rfl
  funext k' i'
  by_cases e : k' = k
  · subst e
    by_cases e2 : i' = i
    · subst e2; rw [wI_same, wI_same]
    · rw [wI_ne2 _ _ e2, wI_ne2 _ _ e2, wI_ne2 _ _ e2]
  · rw [wI_ne _ _ _ e, wI_ne _ _ _ e, wI_ne _ _ _ e]
theorem wI_id {h : HP} {k i : Nat} {x : Int32} (e : h.1 k i = x) : wI h k i x = h := by
  refine Prod.ext ?_ rfl
  funext k' i'
  by_cases e1 : k' = k
  · subst e1
    by_cases e2 : i' = i
    · subst e2; rw [wI_same, e]
    · rw [wI_ne2 _ _ e2]
  · rw [wI_ne _ _ _ e1]
def MT (b : Nat → Nat) (n : Nat) (h : HP) : Prop := n ≤ 900 ∧ h.1 65 3 = nI n ∧ ∀ k, k < n → h.1 66 k = nI (b k) ∧ b k < 256
def MA (b : Nat → Nat) (n i : Nat) (h : HP) : Prop := ∃ a, h.1 65 2 = nI a ∧ a ≤ n ∧ sk b n a = ps b n i
def ME (b : Nat → Nat) (n i : Nat) (h : HP) : Prop := (h.1 65 4 = -1 ∨ ∃ k, k ≤ ps b n i ∧ h.1 65 4 = nI k) ∧ (h.1 65 4 = nI (ps b n i) ↔ jn b n i = true)
def lkV (b : Nat → Nat) (n p : Nat) : Int32 := if p < n then nI (b p) else -1
section TXTM
variable {b : Nat → Nat} {n i : Nat} {h : HP}
theorem r_look (T : MT b n h) (A : MA b n i h) : Run 0 j_M_look [.ref 65] h (some (.int (lkV b n (ps b n i)))) (wI h 65 2 (nI (ps b n i))) := by
  obtain ⟨hn, he, hb⟩ := T
  obtain ⟨a, ha, han, hs⟩ := A
  have hpl := ps_le (b := b) (n := n) i
  have hap : a ≤ ps b n i := by rw [← hs]; exact sk_ge han
  have hbl : ∀ q, a ≤ q → q < ps b n i → b q = 10 ∨ b q = 32 := fun q h1 h2 => blB_i.mp (re_in han h1 (by rw [show re (blB b) n a = ps b n i from hs]; exact h2))
  have hnb : ps b n i < n → ¬ b (ps b n i) = 10 ∧ ¬ b (ps b n i) = 32 := fun z => by
    have := ps_nb z
    constructor
    · intro w; rw [blB_i.mpr (Or.inl w)] at this; cases this
    · intro w; rw [blB_i.mpr (Or.inr w)] at this; cases this
  have f2 : ∀ q, (wI h 65 2 (nI q)).1 65 2 = nI q := fun q => wI_same _ _ _ _
  have f3 : ∀ q, (wI h 65 2 (nI q)).1 65 3 = nI n := fun q => by rw [wI_ne2 _ _ (by decide)]; exact he
  have f6 : ∀ q k, k < n → (wI h 65 2 (nI q)).1 66 k = nI (b k) := fun q k hk => by rw [wI_ne _ _ _ (by decide)]; exact (hb k hk).1
  unfold lkV
  generalize ps b n i = p at *
  refine Run.of rfl ?_
  refine Wp.norm (L' := [_]) rfl ?_
  have lp : ∀ q, q ≤ p → a ≤ q → Wp 0 j_M_look 0 [.ref 65] [] (wI h 65 2 (nI q)) (fun v2 h2 => v2 = some (.int (if p < n then nI (b p) else -1)) ∧ h2 = wI h 65 2 (nI p)) := by
    refine up_ind ?_ (fun q hq ih => ?_)
    · intro _
      by_cases c : p < n
      · have e6 := f6 p p c
        have hb2 := (hb p c).2
        obtain ⟨n1, n2⟩ := hnb c
        rw [if_pos c]
        repeat (first | (refine W1 rfl ?_; try refine Wp.norm (L' := [_]) rfl ?_) | ((first | change (_ → _) ∧ (_ → _) | change vp_in _ _ ∧ _ | change ¬ _ ∧ _); simp (disch := omega) only [nI_clamp, nI_leI, nI_ltI, nI_eq, nI_1, nI_add, nI_not_neg, nI_is_pos, nI_m1, nI_z, f2, f3, e6, show (10 : Int32) = nI 10 from rfl, show (32 : Int32) = nI 32 from rfl]) | refine brT (by first | assumption | decide | omega) ?_ | refine brF (by first | assumption | decide | omega) ?_ | refine brTn (by first | assumption | decide | omega) ?_ | refine brFn (by first | assumption | decide | omega) ?_ | refine And.intro (vp_in_nI (by omega) (by decide)) ?_ | refine And.intro (vp_lit (by decide)) ?_ | refine divJ (by decide) ?_ | refine divI (by decide) ?_)
        try change _ ∧ _
        try simp (disch := omega) only [nI_clamp, nI_leI, nI_ltI, nI_eq, nI_1, nI_add, nI_not_neg, nI_is_pos, nI_m1, nI_z, f2, e6]
        try first | exact ⟨rfl, rfl⟩ | exact ⟨Or.inr rfl, rfl, rfl⟩ | exact ⟨Or.inl rfl, rfl, rfl⟩ | exact ⟨trivial, trivial⟩ | exact ⟨rfl, trivial⟩ | exact ⟨Or.inr rfl, rfl, trivial⟩ | exact ⟨Or.inl rfl, rfl, trivial⟩
      · rw [if_neg c]
        repeat (first | (refine W1 rfl ?_; try refine Wp.norm (L' := [_]) rfl ?_) | ((first | change (_ → _) ∧ (_ → _) | change vp_in _ _ ∧ _ | change ¬ _ ∧ _); simp (disch := omega) only [nI_clamp, nI_leI, nI_ltI, nI_eq, nI_1, nI_add, nI_not_neg, nI_is_pos, nI_m1, nI_z, f2, f3]) | refine brT (by first | assumption | decide | omega) ?_ | refine brF (by first | assumption | decide | omega) ?_ | refine brTn (by first | assumption | decide | omega) ?_ | refine brFn (by first | assumption | decide | omega) ?_ | refine And.intro (vp_in_nI (by omega) (by decide)) ?_ | refine And.intro (vp_lit (by decide)) ?_ | refine divJ (by decide) ?_ | refine divI (by decide) ?_)
        try change _ ∧ _
        try first | exact ⟨rfl, rfl⟩ | exact ⟨Or.inr rfl, rfl, rfl⟩ | exact ⟨Or.inl rfl, rfl, rfl⟩ | exact ⟨trivial, trivial⟩ | exact ⟨rfl, trivial⟩ | exact ⟨Or.inr rfl, rfl, trivial⟩ | exact ⟨Or.inl rfl, rfl, trivial⟩
    · intro haq
      have ih := ih (by omega)
      have e6 := f6 q q (by omega)
      have hb2 := (hb q (by omega)).2
      rcases hbl q haq hq with z | z
      · (refine W1 rfl ?_; try refine Wp.norm (L' := [_]) rfl ?_)
        repeat (first | refine Wp.at ih rfl rfl ?_ ?_ | (refine W1 rfl ?_; try refine Wp.norm (L' := [_]) rfl ?_) | ((first | change (_ → _) ∧ (_ → _) | change vp_in _ _ ∧ _ | change ¬ _ ∧ _); simp (disch := omega) only [nI_clamp, nI_leI, nI_ltI, nI_eq, nI_1, nI_add, nI_not_neg, nI_is_pos, nI_m1, nI_z, f2, f3, e6, show (10 : Int32) = nI 10 from rfl, show (32 : Int32) = nI 32 from rfl]) | refine brT (by first | assumption | decide | omega) ?_ | refine brF (by first | assumption | decide | omega) ?_ | refine brTn (by first | assumption | decide | omega) ?_ | refine brFn (by first | assumption | decide | omega) ?_ | refine And.intro (vp_in_nI (by omega) (by decide)) ?_ | refine And.intro (vp_lit (by decide)) ?_ | refine divJ (by decide) ?_ | refine divI (by decide) ?_)
        try change _ ∧ _
        · rfl
        · rw [f2, nI_1, wI_w]
      · (refine W1 rfl ?_; try refine Wp.norm (L' := [_]) rfl ?_)
        repeat (first | refine Wp.at ih rfl rfl ?_ ?_ | (refine W1 rfl ?_; try refine Wp.norm (L' := [_]) rfl ?_) | ((first | change (_ → _) ∧ (_ → _) | change vp_in _ _ ∧ _ | change ¬ _ ∧ _); simp (disch := omega) only [nI_clamp, nI_leI, nI_ltI, nI_eq, nI_1, nI_add, nI_not_neg, nI_is_pos, nI_m1, nI_z, f2, f3, e6, show (10 : Int32) = nI 10 from rfl, show (32 : Int32) = nI 32 from rfl]) | refine brT (by first | assumption | decide | omega) ?_ | refine brF (by first | assumption | decide | omega) ?_ | refine brTn (by first | assumption | decide | omega) ?_ | refine brFn (by first | assumption | decide | omega) ?_ | refine And.intro (vp_in_nI (by omega) (by decide)) ?_ | refine And.intro (vp_lit (by decide)) ?_ | refine divJ (by decide) ?_ | refine divI (by decide) ?_)
        try change _ ∧ _
        · rfl
        · rw [f2, nI_1, wI_w]
  exact (lp a hap (Nat.le_refl _)).to rfl (wI_id ha)
theorem r_MisLt (h : HP) {k : Nat} (hb : b k < 256) : Run 0 j_M_isLetter [.int (nI (b k))] h (some (.int (bI (ltB b k)))) h := by
  cases e : ltB b k with
  | true =>
    have e' := ltB_i.mp e
    refine Run.of rfl ?_
    refine Wp.norm (L' := [_]) rfl ?_
    repeat (first | (refine W1 rfl ?_; try refine Wp.norm (L' := [_]) rfl ?_) | ((first | change (_ → _) ∧ (_ → _) | change vp_in _ _ ∧ _ | change ¬ _ ∧ _); simp (disch := omega) only [nI_clamp, nI_leI, nI_ltI, nI_eq, nI_1, nI_add, nI_not_neg, nI_is_pos, nI_m1, nI_z, show (97 : Int32) = nI 97 from rfl, show (122 : Int32) = nI 122 from rfl]) | refine brT (by first | assumption | decide | omega) ?_ | refine brF (by first | assumption | decide | omega) ?_ | refine brTn (by first | assumption | decide | omega) ?_ | refine brFn (by first | assumption | decide | omega) ?_ | refine And.intro (vp_in_nI (by omega) (by decide)) ?_ | refine And.intro (vp_lit (by decide)) ?_ | refine divJ (by decide) ?_ | refine divI (by decide) ?_)
    try change _ ∧ _
    try first | exact ⟨rfl, rfl⟩ | exact ⟨Or.inr rfl, rfl, rfl⟩ | exact ⟨Or.inl rfl, rfl, rfl⟩ | exact ⟨trivial, trivial⟩ | exact ⟨rfl, trivial⟩ | exact ⟨Or.inr rfl, rfl, trivial⟩ | exact ⟨Or.inl rfl, rfl, trivial⟩
  | false =>
    have e' : ¬ (97 ≤ b k ∧ b k ≤ 122) := fun z => by rw [ltB_i.mpr z] at e; cases e
    by_cases c : 97 ≤ b k
    · have c2 : ¬ b k ≤ 122 := fun z => e' ⟨c, z⟩
      refine Run.of rfl ?_
      refine Wp.norm (L' := [_]) rfl ?_
      repeat (first | (refine W1 rfl ?_; try refine Wp.norm (L' := [_]) rfl ?_) | ((first | change (_ → _) ∧ (_ → _) | change vp_in _ _ ∧ _ | change ¬ _ ∧ _); simp (disch := omega) only [nI_clamp, nI_leI, nI_ltI, nI_eq, nI_1, nI_add, nI_not_neg, nI_is_pos, nI_m1, nI_z, show (97 : Int32) = nI 97 from rfl, show (122 : Int32) = nI 122 from rfl]) | refine brT (by first | assumption | decide | omega) ?_ | refine brF (by first | assumption | decide | omega) ?_ | refine brTn (by first | assumption | decide | omega) ?_ | refine brFn (by first | assumption | decide | omega) ?_ | refine And.intro (vp_in_nI (by omega) (by decide)) ?_ | refine And.intro (vp_lit (by decide)) ?_ | refine divJ (by decide) ?_ | refine divI (by decide) ?_)
      try change _ ∧ _
      try first | exact ⟨rfl, rfl⟩ | exact ⟨Or.inr rfl, rfl, rfl⟩ | exact ⟨Or.inl rfl, rfl, rfl⟩ | exact ⟨trivial, trivial⟩ | exact ⟨rfl, trivial⟩ | exact ⟨Or.inr rfl, rfl, trivial⟩ | exact ⟨Or.inl rfl, rfl, trivial⟩
    · refine Run.of rfl ?_
      refine Wp.norm (L' := [_]) rfl ?_
      repeat (first | (refine W1 rfl ?_; try refine Wp.norm (L' := [_]) rfl ?_) | ((first | change (_ → _) ∧ (_ → _) | change vp_in _ _ ∧ _ | change ¬ _ ∧ _); simp (disch := omega) only [nI_clamp, nI_leI, nI_ltI, nI_eq, nI_1, nI_add, nI_not_neg, nI_is_pos, nI_m1, nI_z, show (97 : Int32) = nI 97 from rfl, show (122 : Int32) = nI 122 from rfl]) | refine brT (by first | assumption | decide | omega) ?_ | refine brF (by first | assumption | decide | omega) ?_ | refine brTn (by first | assumption | decide | omega) ?_ | refine brFn (by first | assumption | decide | omega) ?_ | refine And.intro (vp_in_nI (by omega) (by decide)) ?_ | refine And.intro (vp_lit (by decide)) ?_ | refine divJ (by decide) ?_ | refine divI (by decide) ?_)
      try change _ ∧ _
      try first | exact ⟨rfl, rfl⟩ | exact ⟨Or.inr rfl, rfl, rfl⟩ | exact ⟨Or.inl rfl, rfl, rfl⟩ | exact ⟨trivial, trivial⟩ | exact ⟨rfl, trivial⟩ | exact ⟨Or.inr rfl, rfl, trivial⟩ | exact ⟨Or.inl rfl, rfl, trivial⟩
theorem r_M_fail0 (x y : Int32) (hbad : h.1 65 5 = 0) : Run 0 j_M_fail [.ref 65, .int x, .int y] h none (wI (wI h 65 5 x) 65 6 y) := by
  refine Run.of rfl ?_
  refine Wp.norm (L' := [_, _, _]) rfl ?_
  repeat (first | (refine W1 rfl ?_; try refine Wp.norm (L' := [_, _, _]) rfl ?_) | ((first | change (_ → _) ∧ (_ → _) | change vp_in _ _ ∧ _ | change ¬ _ ∧ _); simp (disch := omega) only [nI_clamp, nI_leI, nI_ltI, nI_eq, nI_1, nI_add, nI_not_neg, nI_is_pos, nI_m1, nI_z, hbad]) | refine brT (by first | assumption | decide | omega) ?_ | refine brF (by first | assumption | decide | omega) ?_ | refine brTn (by first | assumption | decide | omega) ?_ | refine brFn (by first | assumption | decide | omega) ?_ | refine And.intro (vp_in_nI (by omega) (by decide)) ?_ | refine And.intro (vp_lit (by decide)) ?_ | refine divJ (by decide) ?_ | refine divI (by decide) ?_)
  try change _ ∧ _
  try first | exact ⟨rfl, rfl⟩ | exact ⟨Or.inr rfl, rfl, rfl⟩ | exact ⟨Or.inl rfl, rfl, rfl⟩ | exact ⟨trivial, trivial⟩ | exact ⟨rfl, trivial⟩ | exact ⟨Or.inr rfl, rfl, trivial⟩ | exact ⟨Or.inl rfl, rfl, trivial⟩
theorem r_M_fail1 (x y : Int32) (hbad : ¬ h.1 65 5 = 0) : Run 0 j_M_fail [.ref 65, .int x, .int y] h none h := by
  refine Run.of rfl ?_
  refine Wp.norm (L' := [_, _, _]) rfl ?_
  repeat (first | (refine W1 rfl ?_; try refine Wp.norm (L' := [_, _, _]) rfl ?_) | ((first | change (_ → _) ∧ (_ → _) | change vp_in _ _ ∧ _ | change ¬ _ ∧ _); simp (disch := omega) only [nI_clamp, nI_leI, nI_ltI, nI_eq, nI_1, nI_add, nI_not_neg, nI_is_pos, nI_m1, nI_z]) | refine brT (by first | assumption | decide | omega) ?_ | refine brF (by first | assumption | decide | omega) ?_ | refine brTn (by first | assumption | decide | omega) ?_ | refine brFn (by first | assumption | decide | omega) ?_ | refine And.intro (vp_in_nI (by omega) (by decide)) ?_ | refine And.intro (vp_lit (by decide)) ?_ | refine divJ (by decide) ?_ | refine divI (by decide) ?_)
  try change _ ∧ _
  try first | exact ⟨rfl, rfl⟩ | exact ⟨Or.inr rfl, rfl, rfl⟩ | exact ⟨Or.inl rfl, rfl, rfl⟩ | exact ⟨trivial, trivial⟩ | exact ⟨rfl, trivial⟩ | exact ⟨Or.inr rfl, rfl, trivial⟩ | exact ⟨Or.inl rfl, rfl, trivial⟩
/-- letters up to a place -/
def ltF (h : HP) (p k : Nat) : HP := wI (wI h 65 30 (nI p)) 65 2 (nI (p + k))
theorem w_letters (T : MT b n h) {p : Nat} (hp : p < n) (hl : ltB b p = true) (hat : h.1 65 2 = nI p) {Q : QT} (K : tl b n p ≤ 6 → Q (some (.long (lN (e27 (wd b p (tl b n p)) 0)))) (wI (ltF h p (tl b n p)) 65 4 (nI (te b n p)))) (K2 : 6 < tl b n p → h.1 65 5 = 0 ∧ Q (some (.long 0)) (wI (wI (ltF h p 6) 65 5 1) 65 6 (nI (p + 6)))) : Wp 1 j_M_letters 0 [.ref 65, .null, .null] [] h Q := by
  obtain ⟨hn, he, hb⟩ := T
  have h1 := te_gt (b := b) hp
  have h2 := te_le (b := b) hp
  have hk : te b n p = p + tl b n p := by unfold tl; omega
  have hall : ∀ q, q < tl b n p → ltB b (p + q) = true := fun q hq => lt_all hp hl hq
  have hend : te b n p < n → ltB b (te b n p) = false := fun z => by
    rw [lt_te hp hl] at z ⊢
    exact re_out (Nat.le_of_lt hp) z
  rw [hk] at hend h1 h2 K
  generalize hkk : tl b n p = k at *
  have f30 : ∀ q, (ltF h p q).1 65 30 = nI p := fun q => by unfold ltF; rw [wI_ne2 _ _ (by decide), wI_same]
  have f2 : ∀ q, (ltF h p q).1 65 2 = nI (p + q) := fun q => wI_same _ _ _ _
  have f3 : ∀ q, (ltF h p q).1 65 3 = nI n := fun q => by unfold ltF; rw [wI_ne2 _ _ (by decide), wI_ne2 _ _ (by decide)]; exact he
  have f6 : ∀ q j, j < n → (ltF h p q).1 66 j = nI (b j) := fun q j hj => by unfold ltF; rw [wI_ne _ _ _ (by decide), wI_ne _ _ _ (by decide)]; exact (hb j hj).1
  have f5 : ∀ q, (ltF h p q).1 65 5 = h.1 65 5 := fun q => by unfold ltF; rw [wI_ne2 _ _ (by decide), wI_ne2 _ _ (by decide)]
  have lp : ∀ q, q ≤ k → q ≤ 6 → Wp 1 j_M_letters 10 [.ref 65, .long (lN (e27 (wd b p q) 0)), .null] [] (ltF h p q) Q := by
    refine up_ind ?_ (fun q hq ih => ?_)
    · intro h6
      by_cases c : p + k < n
      · have e6 := f6 k (p + k) c
        have rl := r_MisLt (ltF h p k) (hb (p + k) c).2
        rw [hend c] at rl
        repeat (first | (refine W1 rfl ?_; try refine Wp.norm (L' := [_, _, _]) rfl ?_) | ((first | change (_ → _) ∧ (_ → _) | change vp_in _ _ ∧ _ | change ¬ _ ∧ _); simp (disch := omega) only [nI_clamp, nI_leI, nI_ltI, nI_eq, nI_1, nI_add, nI_not_neg, nI_is_pos, nI_m1, nI_z, f2, f3]) | refine brT (by first | assumption | decide | omega) ?_ | refine brF (by first | assumption | decide | omega) ?_ | refine brTn (by first | assumption | decide | omega) ?_ | refine brFn (by first | assumption | decide | omega) ?_ | refine And.intro (vp_in_nI (by omega) (by decide)) ?_ | refine And.intro (vp_lit (by decide)) ?_ | refine divJ (by decide) ?_ | refine divI (by decide) ?_)
        try change _ ∧ _
        refine Cl.ofA rl (by first | done | rfl | (simp (disch := omega) only [nI_1, nI_add, nI_clamp, f2, e6] <;> first | done | rfl)) (by decide) ?_
        repeat (first | (refine W1 rfl ?_; try refine Wp.norm (L' := [_, _, _]) rfl ?_) | ((first | change (_ → _) ∧ (_ → _) | change vp_in _ _ ∧ _ | change ¬ _ ∧ _); simp (disch := omega) only [nI_clamp, nI_leI, nI_ltI, nI_eq, nI_1, nI_add, nI_not_neg, nI_is_pos, nI_m1, nI_z, bI_f]) | refine brT (by first | assumption | decide | omega) ?_ | refine brF (by first | assumption | decide | omega) ?_ | refine brTn (by first | assumption | decide | omega) ?_ | refine brFn (by first | assumption | decide | omega) ?_ | refine And.intro (vp_in_nI (by omega) (by decide)) ?_ | refine And.intro (vp_lit (by decide)) ?_ | refine divJ (by decide) ?_ | refine divI (by decide) ?_)
        try change _ ∧ _
        rw [f2]
        exact K h6
      · repeat (first | (refine W1 rfl ?_; try refine Wp.norm (L' := [_, _, _]) rfl ?_) | ((first | change (_ → _) ∧ (_ → _) | change vp_in _ _ ∧ _ | change ¬ _ ∧ _); simp (disch := omega) only [nI_clamp, nI_leI, nI_ltI, nI_eq, nI_1, nI_add, nI_not_neg, nI_is_pos, nI_m1, nI_z, f2, f3]) | refine brT (by first | assumption | decide | omega) ?_ | refine brF (by first | assumption | decide | omega) ?_ | refine brTn (by first | assumption | decide | omega) ?_ | refine brFn (by first | assumption | decide | omega) ?_ | refine And.intro (vp_in_nI (by omega) (by decide)) ?_ | refine And.intro (vp_lit (by decide)) ?_ | refine divJ (by decide) ?_ | refine divI (by decide) ?_)
        try change _ ∧ _
        rw [f2]
        exact K h6
    · intro h6
      have e6 := f6 q (p + q) (by omega)
      have rl := r_MisLt (ltF h p q) (hb (p + q) (by omega)).2
      rw [hall q hq] at rl
      have hs : nI (p + q) - nI p = nI q := by rw [pk_sub (by omega), show p + q - p = q by omega]
      by_cases c : q = 6
      · subst c
        have K2' := K2 hq
        repeat (first | (refine W1 rfl ?_; try refine Wp.norm (L' := [_, _, _]) rfl ?_) | ((first | change (_ → _) ∧ (_ → _) | change vp_in _ _ ∧ _ | change ¬ _ ∧ _); simp (disch := omega) only [nI_clamp, nI_leI, nI_ltI, nI_eq, nI_1, nI_add, nI_not_neg, nI_is_pos, nI_m1, nI_z, f2, f3]) | refine brT (by first | assumption | decide | omega) ?_ | refine brF (by first | assumption | decide | omega) ?_ | refine brTn (by first | assumption | decide | omega) ?_ | refine brFn (by first | assumption | decide | omega) ?_ | refine And.intro (vp_in_nI (by omega) (by decide)) ?_ | refine And.intro (vp_lit (by decide)) ?_ | refine divJ (by decide) ?_ | refine divI (by decide) ?_)
        try change _ ∧ _
        refine Cl.ofA rl (by first | done | rfl | (simp (disch := omega) only [nI_1, nI_add, nI_clamp, f2, e6] <;> first | done | rfl)) (by decide) ?_
        repeat (first | (refine W1 rfl ?_; try refine Wp.norm (L' := [_, _, _]) rfl ?_) | ((first | change (_ → _) ∧ (_ → _) | change vp_in _ _ ∧ _ | change ¬ _ ∧ _); simp (disch := omega) only [nI_clamp, nI_leI, nI_ltI, nI_eq, nI_1, nI_add, nI_not_neg, nI_is_pos, nI_m1, nI_z, bI_t, f2, f30, hs, show (6 : Int32) = nI 6 from rfl]) | refine brT (by first | assumption | decide | omega) ?_ | refine brF (by first | assumption | decide | omega) ?_ | refine brTn (by first | assumption | decide | omega) ?_ | refine brFn (by first | assumption | decide | omega) ?_ | refine And.intro (vp_in_nI (by omega) (by decide)) ?_ | refine And.intro (vp_lit (by decide)) ?_ | refine divJ (by decide) ?_ | refine divI (by decide) ?_)
        try change _ ∧ _
        refine Cl.ofA (r_M_fail0 1 (nI (p + 6)) (by rw [f5]; exact K2'.1)) (by first | done | rfl | (simp (disch := omega) only [nI_1, nI_add, nI_clamp, f2] <;> first | done | rfl)) (by decide) ?_
        repeat (first | (refine W1 rfl ?_; try refine Wp.norm (L' := [_, _, _]) rfl ?_) | ((first | change (_ → _) ∧ (_ → _) | change vp_in _ _ ∧ _ | change ¬ _ ∧ _); simp (disch := omega) only [nI_clamp, nI_leI, nI_ltI, nI_eq, nI_1, nI_add, nI_not_neg, nI_is_pos, nI_m1, nI_z]) | refine brT (by first | assumption | decide | omega) ?_ | refine brF (by first | assumption | decide | omega) ?_ | refine brTn (by first | assumption | decide | omega) ?_ | refine brFn (by first | assumption | decide | omega) ?_ | refine And.intro (vp_in_nI (by omega) (by decide)) ?_ | refine And.intro (vp_lit (by decide)) ?_ | refine divJ (by decide) ?_ | refine divI (by decide) ?_)
        try change _ ∧ _
        exact K2'.2
      · have ih := ih (by omega)
        have hlq := ltB_i.mp (hall q hq)
        have hbq := (hb (p + q) (by omega)).2
        have ev : 27 * lN (e27 (wd b p q) 0) + (nI (b (p + q))).toInt64 - 97 + 1 = lN (e27 (wd b p (q + 1)) 0) := by
          rw [show (27 : Int64) = lN 27 from rfl, lN_mul, nI_l (by omega), lN_add, show (97 : Int64) = lN 97 from rfl, lN_sub (by omega), lN_1, wd_s, e27_sn]
          congr 1
          omega
        repeat (first | (refine W1 rfl ?_; try refine Wp.norm (L' := [_, _, _]) rfl ?_) | ((first | change (_ → _) ∧ (_ → _) | change vp_in _ _ ∧ _ | change ¬ _ ∧ _); simp (disch := omega) only [nI_clamp, nI_leI, nI_ltI, nI_eq, nI_1, nI_add, nI_not_neg, nI_is_pos, nI_m1, nI_z, f2, f3]) | refine brT (by first | assumption | decide | omega) ?_ | refine brF (by first | assumption | decide | omega) ?_ | refine brTn (by first | assumption | decide | omega) ?_ | refine brFn (by first | assumption | decide | omega) ?_ | refine And.intro (vp_in_nI (by omega) (by decide)) ?_ | refine And.intro (vp_lit (by decide)) ?_ | refine divJ (by decide) ?_ | refine divI (by decide) ?_)
        try change _ ∧ _
        refine Cl.ofA rl (by first | done | rfl | (simp (disch := omega) only [nI_1, nI_add, nI_clamp, f2, e6] <;> first | done | rfl)) (by decide) ?_
        repeat (first | refine Wp.at ih rfl rfl ?_ ?_ | (refine W1 rfl ?_; try refine Wp.norm (L' := [_, _, _]) rfl ?_) | ((first | change (_ → _) ∧ (_ → _) | change vp_in _ _ ∧ _ | change ¬ _ ∧ _); simp (disch := omega) only [nI_clamp, nI_leI, nI_ltI, nI_eq, nI_1, nI_add, nI_not_neg, nI_is_pos, nI_m1, nI_z, bI_t, f2, f30, hs, show (6 : Int32) = nI 6 from rfl, e6]) | refine brT (by first | assumption | decide | omega) ?_ | refine brF (by first | assumption | decide | omega) ?_ | refine brTn (by first | assumption | decide | omega) ?_ | refine brFn (by first | assumption | decide | omega) ?_ | refine And.intro (vp_in_nI (by omega) (by decide)) ?_ | refine And.intro (vp_lit (by decide)) ?_ | refine divJ (by decide) ?_ | refine divI (by decide) ?_)
        try change _ ∧ _
        · simp (disch := omega) only [f2, nI_clamp, e6, ev]
        · rw [f2, nI_1]
          unfold ltF
          rw [wI_w]
          rfl
  have ih := lp 0 (Nat.zero_le _) (by decide)
  have ez : ltF h p 0 = wI h 65 30 (nI p) := by
    unfold ltF
    rw [Nat.add_zero]
    exact wI_id (by rw [wI_ne2 _ _ (by decide)]; exact hat)
  rw [ez] at ih
  repeat (first | refine Wp.at ih rfl rfl ?_ ?_ | (refine W1 rfl ?_; try refine Wp.norm (L' := [_, _, _]) rfl ?_) | ((first | change (_ → _) ∧ (_ → _) | change vp_in _ _ ∧ _ | change ¬ _ ∧ _); simp (disch := omega) only [nI_clamp, nI_leI, nI_ltI, nI_eq, nI_1, nI_add, nI_not_neg, nI_is_pos, nI_m1, nI_z, hat]) | refine brT (by first | assumption | decide | omega) ?_ | refine brF (by first | assumption | decide | omega) ?_ | refine brTn (by first | assumption | decide | omega) ?_ | refine brFn (by first | assumption | decide | omega) ?_ | refine And.intro (vp_in_nI (by omega) (by decide)) ?_ | refine And.intro (vp_lit (by decide)) ?_ | refine divJ (by decide) ?_ | refine divI (by decide) ?_)
  try change _ ∧ _
  · first | done | rfl | (simp (disch := omega) only [nI_1, nI_add, nI_clamp] <;> first | done | rfl)
  · rw [hat]
theorem r_personOf {P x : Nat} (hx : x ≤ 1) (hP : P ≤ 16) (e : h.1 88 x = nI P) (z : Int64) : Run 0 j_M_personOf [.ref 65, .int (nI x), .long z] h (some (.int (fV (fun p => decide (h.2 91 (16 * x + p) = z)) P))) h := by
  have hle := fI_le (fun p => decide (h.2 91 (16 * x + p) = z)) P
  have hno : ∀ k, k < fI (fun p => decide (h.2 91 (16 * x + p) = z)) P → ¬ h.2 91 (16 * x + k) = z := fun k hk => by simpa using fI_no hk
  have hyes : fI (fun p => decide (h.2 91 (16 * x + p) = z)) P < P → h.2 91 (16 * x + fI (fun p => decide (h.2 91 (16 * x + p) = z)) P) = z := fun z => by simpa using fI_yes z
  unfold fV
  generalize fI (fun p => decide (h.2 91 (16 * x + p) = z)) P = q at *
  have e16 : (16 : Int32) * nI x = nI (16 * x) := by rw [show (16 : Int32) = nI 16 from rfl, pk_mul]
  refine Run.of rfl ?_
  refine Wp.norm (L' := [_, _, _, _, _]) rfl ?_
  have lp : ∀ i, i ≤ q → Wp 0 j_M_personOf 3 [.ref 65, .int (nI x), .long z, .null, .int (nI i)] [] h (fun v2 h2 => v2 = some (.int (if q < P then nI q else -1)) ∧ h2 = h) := by
    refine up_ind ?_ (fun i hi ih => ?_)
    · by_cases c : q < P
      · have hy := hyes c
        rw [if_pos c]
        repeat (first | (refine W1 rfl ?_; try refine Wp.norm (L' := [_, _, _, _, _]) rfl ?_) | ((first | change (_ → _) ∧ (_ → _) | change vp_in _ _ ∧ _ | change ¬ _ ∧ _); simp (disch := omega) only [nI_clamp, nI_leI, nI_ltI, nI_eq, nI_1, nI_add, nI_not_neg, nI_is_pos, nI_m1, nI_z, e, e16]) | refine brT (by first | assumption | decide | omega) ?_ | refine brF (by first | assumption | decide | omega) ?_ | refine brTn (by first | assumption | decide | omega) ?_ | refine brFn (by first | assumption | decide | omega) ?_ | refine And.intro (vp_in_nI (by omega) (by decide)) ?_ | refine And.intro (vp_lit (by decide)) ?_ | refine divJ (by decide) ?_ | refine divI (by decide) ?_)
        try change _ ∧ _
        rw [hy, lgc_eq]
        refine brFn rfl ?_
        repeat (first | (refine W1 rfl ?_; try refine Wp.norm (L' := [_, _, _, _, _]) rfl ?_) | ((first | change (_ → _) ∧ (_ → _) | change vp_in _ _ ∧ _ | change ¬ _ ∧ _); simp (disch := omega) only [nI_clamp, nI_leI, nI_ltI, nI_eq, nI_1, nI_add, nI_not_neg, nI_is_pos, nI_m1, nI_z]) | refine brT (by first | assumption | decide | omega) ?_ | refine brF (by first | assumption | decide | omega) ?_ | refine brTn (by first | assumption | decide | omega) ?_ | refine brFn (by first | assumption | decide | omega) ?_ | refine And.intro (vp_in_nI (by omega) (by decide)) ?_ | refine And.intro (vp_lit (by decide)) ?_ | refine divJ (by decide) ?_ | refine divI (by decide) ?_)
        try change _ ∧ _
        try first | exact ⟨rfl, rfl⟩ | exact ⟨Or.inr rfl, rfl, rfl⟩ | exact ⟨Or.inl rfl, rfl, rfl⟩ | exact ⟨trivial, trivial⟩ | exact ⟨rfl, trivial⟩ | exact ⟨Or.inr rfl, rfl, trivial⟩ | exact ⟨Or.inl rfl, rfl, trivial⟩
      · rw [if_neg c]
        repeat (first | (refine W1 rfl ?_; try refine Wp.norm (L' := [_, _, _, _, _]) rfl ?_) | ((first | change (_ → _) ∧ (_ → _) | change vp_in _ _ ∧ _ | change ¬ _ ∧ _); simp (disch := omega) only [nI_clamp, nI_leI, nI_ltI, nI_eq, nI_1, nI_add, nI_not_neg, nI_is_pos, nI_m1, nI_z, e]) | refine brT (by first | assumption | decide | omega) ?_ | refine brF (by first | assumption | decide | omega) ?_ | refine brTn (by first | assumption | decide | omega) ?_ | refine brFn (by first | assumption | decide | omega) ?_ | refine And.intro (vp_in_nI (by omega) (by decide)) ?_ | refine And.intro (vp_lit (by decide)) ?_ | refine divJ (by decide) ?_ | refine divI (by decide) ?_)
        try change _ ∧ _
        try first | exact ⟨rfl, rfl⟩ | exact ⟨Or.inr rfl, rfl, rfl⟩ | exact ⟨Or.inl rfl, rfl, rfl⟩ | exact ⟨trivial, trivial⟩ | exact ⟨rfl, trivial⟩ | exact ⟨Or.inr rfl, rfl, trivial⟩ | exact ⟨Or.inl rfl, rfl, trivial⟩
    · have hn := hno i hi
      (refine W1 rfl ?_; try refine Wp.norm (L' := [_, _, _, _, _]) rfl ?_)
      repeat (first | (refine W1 rfl ?_; try refine Wp.norm (L' := [_, _, _, _, _]) rfl ?_) | ((first | change (_ → _) ∧ (_ → _) | change vp_in _ _ ∧ _ | change ¬ _ ∧ _); simp (disch := omega) only [nI_clamp, nI_leI, nI_ltI, nI_eq, nI_1, nI_add, nI_not_neg, nI_is_pos, nI_m1, nI_z, e, e16]) | refine brT (by first | assumption | decide | omega) ?_ | refine brF (by first | assumption | decide | omega) ?_ | refine brTn (by first | assumption | decide | omega) ?_ | refine brFn (by first | assumption | decide | omega) ?_ | refine And.intro (vp_in_nI (by omega) (by decide)) ?_ | refine And.intro (vp_lit (by decide)) ?_ | refine divJ (by decide) ?_ | refine divI (by decide) ?_)
      try change _ ∧ _
      rw [lgc_eq]
      refine brTn hn ?_
      repeat (first | refine Wp.at ih rfl rfl ?_ rfl | (refine W1 rfl ?_; try refine Wp.norm (L' := [_, _, _, _, _]) rfl ?_) | ((first | change (_ → _) ∧ (_ → _) | change vp_in _ _ ∧ _ | change ¬ _ ∧ _); simp (disch := omega) only [nI_clamp, nI_leI, nI_ltI, nI_eq, nI_1, nI_add, nI_not_neg, nI_is_pos, nI_m1, nI_z]) | refine brT (by first | assumption | decide | omega) ?_ | refine brF (by first | assumption | decide | omega) ?_ | refine brTn (by first | assumption | decide | omega) ?_ | refine brFn (by first | assumption | decide | omega) ?_ | refine And.intro (vp_in_nI (by omega) (by decide)) ?_ | refine And.intro (vp_lit (by decide)) ?_ | refine divJ (by decide) ?_ | refine divI (by decide) ?_)
      try change _ ∧ _
      first | done | rfl | (simp (disch := omega) only [nI_1, nI_add, nI_clamp] <;> first | done | rfl)
  have ih := lp 0 (Nat.zero_le _)
  repeat (first | refine Wp.at ih rfl rfl ?_ rfl | (refine W1 rfl ?_; try refine Wp.norm (L' := [_, _, _, _, _]) rfl ?_) | ((first | change (_ → _) ∧ (_ → _) | change vp_in _ _ ∧ _ | change ¬ _ ∧ _); simp (disch := omega) only [nI_clamp, nI_leI, nI_ltI, nI_eq, nI_1, nI_add, nI_not_neg, nI_is_pos, nI_m1, nI_z]) | refine brT (by first | assumption | decide | omega) ?_ | refine brF (by first | assumption | decide | omega) ?_ | refine brTn (by first | assumption | decide | omega) ?_ | refine brFn (by first | assumption | decide | omega) ?_ | refine And.intro (vp_in_nI (by omega) (by decide)) ?_ | refine And.intro (vp_lit (by decide)) ?_ | refine divJ (by decide) ?_ | refine divI (by decide) ?_)
  try change _ ∧ _
  first | done | rfl | (simp (disch := omega) only [nI_1, nI_add, nI_clamp] <;> first | done | rfl)
end TXTM
