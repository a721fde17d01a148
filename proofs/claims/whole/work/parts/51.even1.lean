/-! ===== EVEN: what is reckoned, and the class's small methods ===== -/
def sh (s : ST) (p : Nat) : Nat := pS s p * (720720 / zQ s)
def byN (s : ST) (n b : Nat) (hd : Nat → Nat) (p : Nat) : Nat := min n ((hd p * 720720 + b) / sh s p)
def elg (s : ST) (a : Nat) (hd : Nat → Nat) (t p : Nat) : Bool := decide ((hd p + 1) * 720720 ≤ a + (t + 1) * sh s p)
def snF (s : ST) (n a b : Nat) (hd : Nat → Nat) (t : Nat) : Nat → Option Nat
  | 0 => none
  | i + 1 => match snF s n a b hd t i with
    | none => if elg s a hd t i = true then some i else none
    | some q => if elg s a hd t i = true ∧ byN s n b hd i < byN s n b hd q then some i else some q
def prB (s : ST) (n b : Nat) (hd : Nat → Nat) (t p : Nat) : Bool := decide (byN s n b hd p ≤ t)
def mkM (B : Nat → Bool) : Nat → Int32
  | 0 => 0
  | i + 1 => if B i = true then mkM B i ||| (1 <<< (nI i &&& 31)) else mkM B i
def oV : Option Nat → Int32
  | none => -1
  | some p => nI p
theorem bt_mkM (B : Nat → Bool) : ∀ n, n ≤ 32 → ∀ q, q < 32 → bt (mkM B n) q = (decide (q < n) && B q)
  | 0, _, q, _ => by rw [mkM, bt_zero]; simp
  | n + 1, hn, q, hq => by
    have ih := bt_mkM B n (by omega) q hq
    unfold mkM
    by_cases hb : B n = true
    · rw [if_pos hb, bt_or, ih, bt_shl (by omega) hq]
      by_cases e : q = n
      · subst e; simp [hb]
      · by_cases e2 : q < n
        · simp [e, e2, show q < n + 1 by omega]
        · simp [e, e2, show ¬ q < n + 1 by omega]
    · rw [if_neg hb, ih]
      by_cases e : q = n
      · subst e; simp [hb]
      · by_cases e2 : q < n
        · simp [e2, show q < n + 1 by omega]
        · simp [e2, show ¬ q < n + 1 by omega]
section EVEN1
variable {s : ST} {c v : RT} {h : HP} {n a b t : Nat} {hd : Nat → Nat}
theorem Q_pos (o : OK s) {p : Nat} (hp : p < zP s) : 1 ≤ zQ s := by
  have h1 := sm_mono (pS s) (show p + 1 ≤ zP s by omega)
  have h2 : sm (pS s) (p + 1) = sm (pS s) p + pS s p := rfl
  have := o.shr1 hp
  have := o.prt
  omega
theorem sh_bd (o : OK s) {p : Nat} (hp : p < zP s) : 45045 ≤ sh s p ∧ sh s p ≤ 720720 := by
  have h1 := Q_pos o hp
  have h2 := o.Q
  have h3 := o.shr1 hp
  have h4 : pS s p ≤ zQ s := by
    have h1 := sm_mono (pS s) (show p + 1 ≤ zP s by omega)
    have h2 : sm (pS s) (p + 1) = sm (pS s) p + pS s p := rfl
    have := o.prt
    omega
  unfold sh
  have e : ∀ q, q < 17 → 1 ≤ q → 45045 ≤ 720720 / q ∧ q * (720720 / q) = 720720 := by decide
  obtain ⟨e1, e2⟩ := e (zQ s) (by omega) h1
  constructor
  · exact Nat.le_trans e1 (Nat.le_mul_of_pos_left _ h3)
  · exact Nat.le_trans (Nat.mul_le_mul_right _ h4) (Nat.le_of_eq e2)
theorem snF_lt : ∀ i q, snF s n a b hd t i = some q → q < i
  | 0, q, h => by cases h
  | i + 1, q, h => by
    unfold snF at h
    split at h
    · split at h
      · cases h; omega
      · cases h
    · rename_i q' hq'
      split at h
      · cases h; omega
      · cases h
        have := snF_lt i q hq'
        omega
theorem snF_elg : ∀ i q, snF s n a b hd t i = some q → elg s a hd t q = true
  | 0, q, h => by cases h
  | i + 1, q, h => by
    unfold snF at h
    split at h
    · split at h
      · cases h; assumption
      · cases h
    · rename_i q' hq'
      split at h
      · rename_i hh
        cases h; exact hh.1
      · cases h
        exact snF_elg i q hq'
theorem r_Evener_shareOf (R : RC s c v h) (o : OK s) {p : Nat} (hp : p < zP s) : Run 0 j_Evener_shareOf [.ref 50, .int (nI p)] h (some (.int (nI (sh s p)))) h := by
  have hT := o.T; have hP := o.P; have hK := o.K; have hD := o.D; have hO := o.O; have hQ := o.Q; have hL := o.L
  have h1 := Q_pos o hp
  have hq0 : ¬ nI (zQ s) = 0 := nI_ne0 (by omega) (by omega)
  refine Run.of rfl ?_
  refine Wp.norm (L' := [_, _]) rfl ?_
  repeat (first | (refine W1 rfl ?_; try refine Wp.norm (L' := [_, _]) rfl ?_) | ((first | change (_ → _) ∧ (_ → _) | change vp_in _ _ ∧ _ | change ¬ _ ∧ _); simp (disch := omega) only [nI_clamp, nI_leI, nI_ltI, nI_eq, nI_1, nI_add, nI_not_neg, nI_is_pos, nI_m1, nI_z, R.prt, nI_le0]) | refine brT (by first | assumption | decide | omega) ?_ | refine brF (by first | assumption | decide | omega) ?_ | refine brTn (by first | assumption | decide | omega) ?_ | refine brFn (by first | assumption | decide | omega) ?_ | refine And.intro (vp_in_nI (by omega) (by decide)) ?_ | refine And.intro (vp_lit (by decide)) ?_ | refine divJ (by decide) ?_ | refine divI (by decide) ?_)
  try change _ ∧ _
  refine ⟨by omega, ?_⟩
  repeat (first | (refine W1 rfl ?_; try refine Wp.norm (L' := [_, _]) rfl ?_) | ((first | change (_ → _) ∧ (_ → _) | change vp_in _ _ ∧ _ | change ¬ _ ∧ _); simp (disch := omega) only [nI_clamp, nI_leI, nI_ltI, nI_eq, nI_1, nI_add, nI_not_neg, nI_is_pos, nI_m1, nI_z]) | refine brT (by first | assumption | decide | omega) ?_ | refine brF (by first | assumption | decide | omega) ?_ | refine brTn (by first | assumption | decide | omega) ?_ | refine brFn (by first | assumption | decide | omega) ?_ | refine And.intro (vp_in_nI (by omega) (by decide)) ?_ | refine And.intro (vp_lit (by decide)) ?_ | refine divJ (by decide) ?_ | refine divI (by decide) ?_)
  try change _ ∧ _
  rw [R.shr hp, show (720720 : Int32) = nI 720720 from rfl, pk_div (by decide) (by omega) (by omega), pk_mul]
  try first | exact ⟨rfl, rfl⟩ | exact ⟨Or.inr rfl, rfl, rfl⟩ | exact ⟨Or.inl rfl, rfl, rfl⟩ | exact ⟨trivial, trivial⟩ | exact ⟨rfl, trivial⟩ | exact ⟨Or.inr rfl, rfl, trivial⟩ | exact ⟨Or.inl rfl, rfl, trivial⟩
/-- how the class holds what was had, and the times -/
def hadC (s : ST) (hd : Nat → Nat) (h : HP) : Prop := ∀ p, p < zP s → h.1 52 p = nI (hd p)
def musC (s : ST) (n b : Nat) (hd : Nat → Nat) (h : HP) : Prop := ∀ p, p < zP s → h.1 53 p = nI (byN s n b hd p)
theorem r_Evener_setMust (R : RC s c v h) (o : OK s) {p : Nat} (hp : p < zP s) (hh : h.1 52 p = nI (hd p)) (hm : hd p ≤ 200) (hn : n ≤ 200) (hb : b ≤ 720720) : Run 1 j_Evener_setMust [.ref 50, .int (nI p), .int (nI n), .int (nI b)] h none (wI h 53 p (nI (byN s n b hd p))) := by
  have hT := o.T; have hP := o.P; have hK := o.K; have hD := o.D; have hO := o.O; have hQ := o.Q; have hL := o.L
  have hs := sh_bd o hp
  have e1 : (nI b).toInt64 + (nI (hd p)).toInt64 * 720720 = lN (hd p * 720720 + b) := by
    rw [nI_l (by omega), nI_l (by omega), show (720720 : Int64) = lN 720720 from rfl, lN_mul, lN_add, Nat.add_comm]
  have e2 : (nI (sh s p)).toInt64 = lN (sh s p) := nI_l (by omega)
  have hne : ¬ lN (sh s p) = 0 := fun z => by
    rw [show (0 : Int64) = lN 0 from rfl, pk_lEQ (by omega) (by decide)] at z
    omega
  refine Run.of rfl ?_
  refine Wp.norm (L' := [_, _, _, _, _, _, _, _]) rfl ?_
  repeat (first | (refine W1 rfl ?_; try refine Wp.norm (L' := [_, _, _, _, _, _, _, _]) rfl ?_) | ((first | change (_ → _) ∧ (_ → _) | change vp_in _ _ ∧ _ | change ¬ _ ∧ _); simp (disch := omega) only [nI_clamp, nI_leI, nI_ltI, nI_eq, nI_1, nI_add, nI_not_neg, nI_is_pos, nI_m1, nI_z]) | refine brT (by first | assumption | decide | omega) ?_ | refine brF (by first | assumption | decide | omega) ?_ | refine brTn (by first | assumption | decide | omega) ?_ | refine brFn (by first | assumption | decide | omega) ?_ | refine And.intro (vp_in_nI (by omega) (by decide)) ?_ | refine And.intro (vp_lit (by decide)) ?_ | refine divJ (by decide) ?_ | refine divI (by decide) ?_)
  try change _ ∧ _
  refine Cl.of (r_Evener_shareOf R o hp) (by decide) ?_
  repeat (first | (refine W1 rfl ?_; try refine Wp.norm (L' := [_, _, _, _, _, _, _, _]) rfl ?_) | ((first | change (_ → _) ∧ (_ → _) | change vp_in _ _ ∧ _ | change ¬ _ ∧ _); simp (disch := omega) only [nI_clamp, nI_leI, nI_ltI, nI_eq, nI_1, nI_add, nI_not_neg, nI_is_pos, nI_m1, nI_z]) | refine brT (by first | assumption | decide | omega) ?_ | refine brF (by first | assumption | decide | omega) ?_ | refine brTn (by first | assumption | decide | omega) ?_ | refine brFn (by first | assumption | decide | omega) ?_ | refine And.intro (vp_in_nI (by omega) (by decide)) ?_ | refine And.intro (vp_lit (by decide)) ?_ | refine divJ (by decide) ?_ | refine divI (by decide) ?_)
  try change _ ∧ _
  rw [hh, e1, e2, lgc_le]
  refine brF ?_ ?_
  · rw [show (0 : Int64) = lN 0 from rfl, pk_lLE (by omega) (by decide)]
    omega
  · repeat (first | (refine W1 rfl ?_; try refine Wp.norm (L' := [_, _, _, _, _, _, _, _]) rfl ?_) | ((first | change (_ → _) ∧ (_ → _) | change vp_in _ _ ∧ _ | change ¬ _ ∧ _); simp (disch := omega) only [nI_clamp, nI_leI, nI_ltI, nI_eq, nI_1, nI_add, nI_not_neg, nI_is_pos, nI_m1, nI_z]) | refine brT (by first | assumption | decide | omega) ?_ | refine brF (by first | assumption | decide | omega) ?_ | refine brTn (by first | assumption | decide | omega) ?_ | refine brFn (by first | assumption | decide | omega) ?_ | refine And.intro (vp_in_nI (by omega) (by decide)) ?_ | refine And.intro (vp_lit (by decide)) ?_ | refine divJ (by decide) ?_ | refine divI (by decide) ?_)
    try change _ ∧ _
    refine ⟨hne, ?_⟩
    rw [pk_lDiv (by omega) (by omega) (by omega), nI_l (show n < 2 ^ 31 by omega)]
    repeat (first | (refine W1 rfl ?_; try refine Wp.norm (L' := [_, _, _, _, _, _, _, _]) rfl ?_) | ((first | change (_ → _) ∧ (_ → _) | change vp_in _ _ ∧ _ | change ¬ _ ∧ _); simp (disch := omega) only [nI_clamp, nI_leI, nI_ltI, nI_eq, nI_1, nI_add, nI_not_neg, nI_is_pos, nI_m1, nI_z]) | refine brT (by first | assumption | decide | omega) ?_ | refine brF (by first | assumption | decide | omega) ?_ | refine brTn (by first | assumption | decide | omega) ?_ | refine brFn (by first | assumption | decide | omega) ?_ | refine And.intro (vp_in_nI (by omega) (by decide)) ?_ | refine And.intro (vp_lit (by decide)) ?_ | refine divJ (by decide) ?_ | refine divI (by decide) ?_)
    try change _ ∧ _
    refine Cl.of (r_minJ h _ _) (by decide) ?_
    have hdv : (hd p * 720720 + b) / sh s p ≤ 201 * 720720 := Nat.le_trans (Nat.div_le_self _ _) (by omega)
    have em : mnJ (lN n) (lN ((hd p * 720720 + b) / sh s p)) = lN (byN s n b hd p) := by
      unfold mnJ byN
      split
      · rename_i hz
        rw [pk_lLT (by omega) (by omega)] at hz
        congr 1; omega
      · rename_i hz
        rw [pk_lLT (by omega) (by omega)] at hz
        congr 1; omega
    rw [em]
    repeat (first | (refine W1 rfl ?_; try refine Wp.norm (L' := [_, _, _, _, _, _, _, _]) rfl ?_) | ((first | change (_ → _) ∧ (_ → _) | change vp_in _ _ ∧ _ | change ¬ _ ∧ _); simp (disch := omega) only [nI_clamp, nI_leI, nI_ltI, nI_eq, nI_1, nI_add, nI_not_neg, nI_is_pos, nI_m1, nI_z]) | refine brT (by first | assumption | decide | omega) ?_ | refine brF (by first | assumption | decide | omega) ?_ | refine brTn (by first | assumption | decide | omega) ?_ | refine brFn (by first | assumption | decide | omega) ?_ | refine And.intro (vp_in_nI (by omega) (by decide)) ?_ | refine And.intro (vp_lit (by decide)) ?_ | refine divJ (by decide) ?_ | refine divI (by decide) ?_)
    try change _ ∧ _
    simp (disch := omega) only [lN_i, nI_clamp]
    try first | exact ⟨rfl, rfl⟩ | exact ⟨Or.inr rfl, rfl, rfl⟩ | exact ⟨Or.inl rfl, rfl, rfl⟩ | exact ⟨trivial, trivial⟩ | exact ⟨rfl, trivial⟩ | exact ⟨Or.inr rfl, rfl, trivial⟩ | exact ⟨Or.inl rfl, rfl, trivial⟩
theorem r_Evener_pressedBy (R : RC s c v h) (o : OK s) (hm : musC s n b hd h) (hn : n ≤ 200) (ht : t ≤ 200) : Run 0 j_Evener_pressedBy [.ref 50, .int (nI t)] h (some (.int (mkM (prB s n b hd t) (zP s)))) h := by
  have hT := o.T; have hP := o.P; have hK := o.K; have hD := o.D; have hO := o.O; have hQ := o.Q; have hL := o.L
  have lp : ∀ i, i ≤ zP s → Wp 0 j_Evener_pressedBy 4 [.ref 50, .int (nI t), .int (mkM (prB s n b hd t) i), .int (nI i)] [] h (fun v' h2 => v' = some (.int (mkM (prB s n b hd t) (zP s))) ∧ h2 = h) := by
    refine up_ind ?_ (fun i hi ih => ?_)
    · repeat (first | (refine W1 rfl ?_; try refine Wp.norm (L' := [_, _, _, _]) rfl ?_) | ((first | change (_ → _) ∧ (_ → _) | change vp_in _ _ ∧ _ | change ¬ _ ∧ _); simp (disch := omega) only [nI_clamp, nI_leI, nI_ltI, nI_eq, nI_1, nI_add, nI_not_neg, nI_is_pos, nI_m1, nI_z, R.P]) | refine brT (by first | assumption | decide | omega) ?_ | refine brF (by first | assumption | decide | omega) ?_ | refine brTn (by first | assumption | decide | omega) ?_ | refine brFn (by first | assumption | decide | omega) ?_ | refine And.intro (vp_in_nI (by omega) (by decide)) ?_ | refine And.intro (vp_lit (by decide)) ?_ | refine divJ (by decide) ?_ | refine divI (by decide) ?_)
      try change _ ∧ _
      try first | exact ⟨rfl, rfl⟩ | exact ⟨Or.inr rfl, rfl, rfl⟩ | exact ⟨Or.inl rfl, rfl, rfl⟩ | exact ⟨trivial, trivial⟩ | exact ⟨rfl, trivial⟩ | exact ⟨Or.inr rfl, rfl, trivial⟩ | exact ⟨Or.inl rfl, rfl, trivial⟩
    · have e : mkM (prB s n b hd t) (i + 1) = if prB s n b hd t i = true then mkM (prB s n b hd t) i ||| (1 <<< (nI i &&& 31)) else mkM (prB s n b hd t) i := rfl
      rw [e] at ih
      have hi2 := hm i hi
      have hby : byN s n b hd i ≤ n := Nat.min_le_left _ _
      repeat (first | (refine W1 rfl ?_; try refine Wp.norm (L' := [_, _, _, _]) rfl ?_) | ((first | change (_ → _) ∧ (_ → _) | change vp_in _ _ ∧ _ | change ¬ _ ∧ _); simp (disch := omega) only [nI_clamp, nI_leI, nI_ltI, nI_eq, nI_1, nI_add, nI_not_neg, nI_is_pos, nI_m1, nI_z, R.P, hi2]) | refine brT (by first | assumption | decide | omega) ?_ | refine brF (by first | assumption | decide | omega) ?_ | refine brTn (by first | assumption | decide | omega) ?_ | refine brFn (by first | assumption | decide | omega) ?_ | refine And.intro (vp_in_nI (by omega) (by decide)) ?_ | refine And.intro (vp_lit (by decide)) ?_ | refine divJ (by decide) ?_ | refine divI (by decide) ?_)
      try change _ ∧ _
      refine ⟨fun q => ?_, fun q => ?_⟩
      · rw [if_neg (by unfold prB; simp; omega)] at ih
        repeat (first | refine Wp.at ih rfl rfl ?_ rfl | (refine W1 rfl ?_; try refine Wp.norm (L' := [_, _, _, _]) rfl ?_) | ((first | change (_ → _) ∧ (_ → _) | change vp_in _ _ ∧ _ | change ¬ _ ∧ _); simp (disch := omega) only [nI_clamp, nI_leI, nI_ltI, nI_eq, nI_1, nI_add, nI_not_neg, nI_is_pos, nI_m1, nI_z]) | refine brT (by first | assumption | decide | omega) ?_ | refine brF (by first | assumption | decide | omega) ?_ | refine brTn (by first | assumption | decide | omega) ?_ | refine brFn (by first | assumption | decide | omega) ?_ | refine And.intro (vp_in_nI (by omega) (by decide)) ?_ | refine And.intro (vp_lit (by decide)) ?_ | refine divJ (by decide) ?_ | refine divI (by decide) ?_)
        try change _ ∧ _
        first | rfl | (simp (disch := omega) only [nI_1, nI_add, nI_clamp] <;> first | done | rfl)
      · rw [if_pos (by unfold prB; simp; omega)] at ih
        repeat (first | refine Wp.at ih rfl rfl ?_ rfl | (refine W1 rfl ?_; try refine Wp.norm (L' := [_, _, _, _]) rfl ?_) | ((first | change (_ → _) ∧ (_ → _) | change vp_in _ _ ∧ _ | change ¬ _ ∧ _); simp (disch := omega) only [nI_clamp, nI_leI, nI_ltI, nI_eq, nI_1, nI_add, nI_not_neg, nI_is_pos, nI_m1, nI_z]) | refine brT (by first | assumption | decide | omega) ?_ | refine brF (by first | assumption | decide | omega) ?_ | refine brTn (by first | assumption | decide | omega) ?_ | refine brFn (by first | assumption | decide | omega) ?_ | refine And.intro (vp_in_nI (by omega) (by decide)) ?_ | refine And.intro (vp_lit (by decide)) ?_ | refine divJ (by decide) ?_ | refine divI (by decide) ?_)
        try change _ ∧ _
        first | rfl | (simp (disch := omega) only [nI_1, nI_add, nI_clamp] <;> first | done | rfl)
  refine Run.of rfl ?_
  refine Wp.norm (L' := [_, _, _, _]) rfl ?_
  have ih := lp 0 (Nat.zero_le _)
  repeat (first | refine Wp.at ih rfl rfl ?_ rfl | (refine W1 rfl ?_; try refine Wp.norm (L' := [_, _, _, _]) rfl ?_) | ((first | change (_ → _) ∧ (_ → _) | change vp_in _ _ ∧ _ | change ¬ _ ∧ _); simp (disch := omega) only [nI_clamp, nI_leI, nI_ltI, nI_eq, nI_1, nI_add, nI_not_neg, nI_is_pos, nI_m1, nI_z]) | refine brT (by first | assumption | decide | omega) ?_ | refine brF (by first | assumption | decide | omega) ?_ | refine brTn (by first | assumption | decide | omega) ?_ | refine brFn (by first | assumption | decide | omega) ?_ | refine And.intro (vp_in_nI (by omega) (by decide)) ?_ | refine And.intro (vp_lit (by decide)) ?_ | refine divJ (by decide) ?_ | refine divI (by decide) ?_)
  try change _ ∧ _
  first | rfl | (simp (disch := omega) only [nI_1, nI_add, nI_clamp] <;> first | done | rfl)
theorem lev_le {p : Nat} (o : OK s) (hp : p < zP s) (hh : hd p ≤ 200) (ht : t ≤ 200) (ha : a ≤ 720720) : ((lN (hd p) + 1) * 720720 - (lN t + 1) * lN (sh s p) ≤ lN a) ↔ elg s a hd t p = true := by
  have hs := sh_bd o hp
  unfold elg
  rw [decide_eq_true_eq, lN_1, lN_1, show (720720 : Int64) = lN 720720 from rfl, lN_mul, lN_mul, Int64.le_iff_toInt_le]
  have h1 : (hd p + 1) * 720720 ≤ 201 * 720720 := Nat.mul_le_mul_right _ (by omega)
  have h2 : (t + 1) * sh s p ≤ 201 * 720720 := Nat.mul_le_mul (by omega) hs.2
  obtain ⟨x, hx⟩ : ∃ x, x = (hd p + 1) * 720720 := ⟨_, rfl⟩
  obtain ⟨y, hy⟩ : ∃ y, y = (t + 1) * sh s p := ⟨_, rfl⟩
  rw [← hx] at h1 ⊢
  rw [← hy] at h2 ⊢
  clear hx hy
  rw [i64_sub (by rw [pk_lT (by omega), pk_lT (by omega)]; omega) (by rw [pk_lT (by omega), pk_lT (by omega)]; omega), pk_lT (by omega), pk_lT (by omega), pk_lT (by omega)]
  omega
theorem r_Evener_soonest (R : RC s c v h) (o : OK s) (hm : musC s n b hd h) (hh : hadC s hd h) (hd2 : ∀ p, p < zP s → hd p ≤ 200) (hn : n ≤ 200) (ht : t ≤ 200) (ha : a ≤ 720720) : Run 1 j_Evener_soonest [.ref 50, .int (nI t), .int (nI a)] h (some (.int (oV (snF s n a b hd t (zP s))))) h := by
  have hT := o.T; have hP := o.P; have hK := o.K; have hD := o.D; have hO := o.O; have hQ := o.Q; have hL := o.L
  have lp : ∀ i, i ≤ zP s → ∀ x5, Wp 1 j_Evener_soonest 5 [.ref 50, .int (nI t), .int (nI a), .int (oV (snF s n a b hd t i)), .int (nI i), x5, .null] [] h (fun v' h2 => v' = some (.int (oV (snF s n a b hd t (zP s)))) ∧ h2 = h) := by
    refine up_ind ?_ (fun i hi ih => ?_)
    · intro x5
      repeat (first | (refine W1 rfl ?_; try refine Wp.norm (L' := [_, _, _, _, _, _, _]) rfl ?_) | ((first | change (_ → _) ∧ (_ → _) | change vp_in _ _ ∧ _ | change ¬ _ ∧ _); simp (disch := omega) only [nI_clamp, nI_leI, nI_ltI, nI_eq, nI_1, nI_add, nI_not_neg, nI_is_pos, nI_m1, nI_z, R.P]) | refine brT (by first | assumption | decide | omega) ?_ | refine brF (by first | assumption | decide | omega) ?_ | refine brTn (by first | assumption | decide | omega) ?_ | refine brFn (by first | assumption | decide | omega) ?_ | refine And.intro (vp_in_nI (by omega) (by decide)) ?_ | refine And.intro (vp_lit (by decide)) ?_ | refine divJ (by decide) ?_ | refine divI (by decide) ?_)
      try change _ ∧ _
      try first | exact ⟨rfl, rfl⟩ | exact ⟨Or.inr rfl, rfl, rfl⟩ | exact ⟨Or.inl rfl, rfl, rfl⟩ | exact ⟨trivial, trivial⟩ | exact ⟨rfl, trivial⟩ | exact ⟨Or.inr rfl, rfl, trivial⟩ | exact ⟨Or.inl rfl, rfl, trivial⟩
    · intro x5
      have hi1 := hh i hi
      have hi2 := hm i hi
      have hi3 := hd2 i hi
      have hby : ∀ q, byN s n b hd q ≤ n := fun q => Nat.min_le_left _ _
      have hs := sh_bd o hi
      repeat (first | (refine W1 rfl ?_; try refine Wp.norm (L' := [_, _, _, _, _, _, _]) rfl ?_) | ((first | change (_ → _) ∧ (_ → _) | change vp_in _ _ ∧ _ | change ¬ _ ∧ _); simp (disch := omega) only [nI_clamp, nI_leI, nI_ltI, nI_eq, nI_1, nI_add, nI_not_neg, nI_is_pos, nI_m1, nI_z, R.P, hi1]) | refine brT (by first | assumption | decide | omega) ?_ | refine brF (by first | assumption | decide | omega) ?_ | refine brTn (by first | assumption | decide | omega) ?_ | refine brFn (by first | assumption | decide | omega) ?_ | refine And.intro (vp_in_nI (by omega) (by decide)) ?_ | refine And.intro (vp_lit (by decide)) ?_ | refine divJ (by decide) ?_ | refine divI (by decide) ?_)
      try change _ ∧ _
      refine Cl.of (r_Evener_shareOf R o hi) (by decide) ?_
      repeat (first | (refine W1 rfl ?_; try refine Wp.norm (L' := [_, _, _, _, _, _, _]) rfl ?_) | ((first | change (_ → _) ∧ (_ → _) | change vp_in _ _ ∧ _ | change ¬ _ ∧ _); simp (disch := omega) only [nI_clamp, nI_leI, nI_ltI, nI_eq, nI_1, nI_add, nI_not_neg, nI_is_pos, nI_m1, nI_z]) | refine brT (by first | assumption | decide | omega) ?_ | refine brF (by first | assumption | decide | omega) ?_ | refine brTn (by first | assumption | decide | omega) ?_ | refine brFn (by first | assumption | decide | omega) ?_ | refine And.intro (vp_in_nI (by omega) (by decide)) ?_ | refine And.intro (vp_lit (by decide)) ?_ | refine divJ (by decide) ?_ | refine divI (by decide) ?_)
      try change _ ∧ _
      rw [nI_l (show hd i < 2 ^ 31 by omega), nI_l (show t < 2 ^ 31 by omega), nI_l (show sh s i < 2 ^ 31 by omega), nI_l (show a < 2 ^ 31 by omega), lgc_gt]
      have hle := lev_le (hd := hd) (t := t) (a := a) o hi hi3 ht ha
      generalize hlv : (lN (hd i) + 1) * 720720 - (lN t + 1) * lN (sh s i) = lev at *
      have e : snF s n a b hd t (i + 1) = match snF s n a b hd t i with
        | none => if elg s a hd t i = true then some i else none
        | some q => if elg s a hd t i = true ∧ byN s n b hd i < byN s n b hd q then some i else some q := rfl
      rw [e] at ih
      cases hf : snF s n a b hd t i with
      | none =>
        rw [hf] at ih
        dsimp only at ih
        refine ⟨fun q => ?_, fun q => ?_⟩
        · have hne : ¬ elg s a hd t i = true := fun z => absurd (hle.mpr z) (Int64.not_le.mpr q)
          have ih := ih (.long lev)
          rw [if_neg hne] at ih
          repeat (first | refine Wp.at ih rfl rfl ?_ rfl | (refine W1 rfl ?_; try refine Wp.norm (L' := [_, _, _, _, _, _, _]) rfl ?_) | ((first | change (_ → _) ∧ (_ → _) | change vp_in _ _ ∧ _ | change ¬ _ ∧ _); simp (disch := omega) only [nI_clamp, nI_leI, nI_ltI, nI_eq, nI_1, nI_add, nI_not_neg, nI_is_pos, nI_m1, nI_z]) | refine brT (by first | assumption | decide | omega) ?_ | refine brF (by first | assumption | decide | omega) ?_ | refine brTn (by first | assumption | decide | omega) ?_ | refine brFn (by first | assumption | decide | omega) ?_ | refine And.intro (vp_in_nI (by omega) (by decide)) ?_ | refine And.intro (vp_lit (by decide)) ?_ | refine divJ (by decide) ?_ | refine divI (by decide) ?_)
          try change _ ∧ _
          first | rfl | (simp (disch := omega) only [nI_1, nI_add, nI_clamp] <;> first | done | rfl)
        · have hy : elg s a hd t i = true := hle.mp (Int64.not_lt.mp q)
          have ih := ih (.long lev)
          rw [if_pos hy] at ih
          repeat (first | refine Wp.at ih rfl rfl ?_ rfl | (refine W1 rfl ?_; try refine Wp.norm (L' := [_, _, _, _, _, _, _]) rfl ?_) | ((first | change (_ → _) ∧ (_ → _) | change vp_in _ _ ∧ _ | change ¬ _ ∧ _); simp (disch := omega) only [nI_clamp, nI_leI, nI_ltI, nI_eq, nI_1, nI_add, nI_not_neg, nI_is_pos, nI_m1, nI_z]) | refine brT (by first | assumption | decide | omega) ?_ | refine brF (by first | assumption | decide | omega) ?_ | refine brTn (by first | assumption | decide | omega) ?_ | refine brFn (by first | assumption | decide | omega) ?_ | refine And.intro (vp_in_nI (by omega) (by decide)) ?_ | refine And.intro (vp_lit (by decide)) ?_ | refine divJ (by decide) ?_ | refine divI (by decide) ?_)
          try change _ ∧ _
          first | rfl | (simp (disch := omega) only [nI_1, nI_add, nI_clamp] <;> first | done | rfl)
      | some q0 =>
        have hq0 := snF_lt i q0 hf
        have hq1 := hm q0 (by omega)
        have hbi := hby i
        have hbq := hby q0
        rw [hf] at ih
        dsimp only at ih
        generalize byN s n b hd i = bi at *
        generalize byN s n b hd q0 = bq at *
        refine ⟨fun q => ?_, fun q => ?_⟩
        · have hne : ¬ elg s a hd t i = true := fun z => absurd (hle.mpr z) (Int64.not_le.mpr q)
          have ih := ih (.long lev)
          rw [if_neg (fun z => hne z.1)] at ih
          repeat (first | refine Wp.at ih rfl rfl ?_ rfl | (refine W1 rfl ?_; try refine Wp.norm (L' := [_, _, _, _, _, _, _]) rfl ?_) | ((first | change (_ → _) ∧ (_ → _) | change vp_in _ _ ∧ _ | change ¬ _ ∧ _); simp (disch := omega) only [nI_clamp, nI_leI, nI_ltI, nI_eq, nI_1, nI_add, nI_not_neg, nI_is_pos, nI_m1, nI_z]) | refine brT (by first | assumption | decide | omega) ?_ | refine brF (by first | assumption | decide | omega) ?_ | refine brTn (by first | assumption | decide | omega) ?_ | refine brFn (by first | assumption | decide | omega) ?_ | refine And.intro (vp_in_nI (by omega) (by decide)) ?_ | refine And.intro (vp_lit (by decide)) ?_ | refine divJ (by decide) ?_ | refine divI (by decide) ?_)
          try change _ ∧ _
          first | rfl | (simp (disch := omega) only [nI_1, nI_add, nI_clamp] <;> first | done | rfl)
        · have hy : elg s a hd t i = true := hle.mp (Int64.not_lt.mp q)
          repeat (first | (refine W1 rfl ?_; try refine Wp.norm (L' := [_, _, _, _, _, _, _]) rfl ?_) | ((first | change (_ → _) ∧ (_ → _) | change vp_in _ _ ∧ _ | change ¬ _ ∧ _); simp (disch := omega) only [nI_clamp, nI_leI, nI_ltI, nI_eq, nI_1, nI_add, nI_not_neg, nI_is_pos, nI_m1, nI_z, show oV (some q0) = nI q0 from rfl, hi2, hq1]) | refine brT (by first | assumption | decide | omega) ?_ | refine brF (by first | assumption | decide | omega) ?_ | refine brTn (by first | assumption | decide | omega) ?_ | refine brFn (by first | assumption | decide | omega) ?_ | refine And.intro (vp_in_nI (by omega) (by decide)) ?_ | refine And.intro (vp_lit (by decide)) ?_ | refine divJ (by decide) ?_ | refine divI (by decide) ?_)
          try change _ ∧ _
          refine ⟨fun w => ?_, fun w => ?_⟩
          · have ih := ih (.long lev)
            rw [if_neg (fun z => by omega)] at ih
            repeat (first | refine Wp.at ih rfl rfl ?_ rfl | (refine W1 rfl ?_; try refine Wp.norm (L' := [_, _, _, _, _, _, _]) rfl ?_) | ((first | change (_ → _) ∧ (_ → _) | change vp_in _ _ ∧ _ | change ¬ _ ∧ _); simp (disch := omega) only [nI_clamp, nI_leI, nI_ltI, nI_eq, nI_1, nI_add, nI_not_neg, nI_is_pos, nI_m1, nI_z]) | refine brT (by first | assumption | decide | omega) ?_ | refine brF (by first | assumption | decide | omega) ?_ | refine brTn (by first | assumption | decide | omega) ?_ | refine brFn (by first | assumption | decide | omega) ?_ | refine And.intro (vp_in_nI (by omega) (by decide)) ?_ | refine And.intro (vp_lit (by decide)) ?_ | refine divJ (by decide) ?_ | refine divI (by decide) ?_)
            try change _ ∧ _
            first | rfl | (simp (disch := omega) only [nI_1, nI_add, nI_clamp] <;> first | done | rfl)
          · have ih := ih (.long lev)
            rw [if_pos ⟨hy, by omega⟩] at ih
            repeat (first | refine Wp.at ih rfl rfl ?_ rfl | (refine W1 rfl ?_; try refine Wp.norm (L' := [_, _, _, _, _, _, _]) rfl ?_) | ((first | change (_ → _) ∧ (_ → _) | change vp_in _ _ ∧ _ | change ¬ _ ∧ _); simp (disch := omega) only [nI_clamp, nI_leI, nI_ltI, nI_eq, nI_1, nI_add, nI_not_neg, nI_is_pos, nI_m1, nI_z]) | refine brT (by first | assumption | decide | omega) ?_ | refine brF (by first | assumption | decide | omega) ?_ | refine brTn (by first | assumption | decide | omega) ?_ | refine brFn (by first | assumption | decide | omega) ?_ | refine And.intro (vp_in_nI (by omega) (by decide)) ?_ | refine And.intro (vp_lit (by decide)) ?_ | refine divJ (by decide) ?_ | refine divI (by decide) ?_)
            try change _ ∧ _
            first | rfl | (simp (disch := omega) only [nI_1, nI_add, nI_clamp] <;> first | done | rfl)
  refine Run.of rfl ?_
  refine Wp.norm (L' := [_, _, _, _, _, _, _]) rfl ?_
  have ih := lp 0 (Nat.zero_le _) .null
  repeat (first | refine Wp.at ih rfl rfl ?_ rfl | (refine W1 rfl ?_; try refine Wp.norm (L' := [_, _, _, _, _, _, _]) rfl ?_) | ((first | change (_ → _) ∧ (_ → _) | change vp_in _ _ ∧ _ | change ¬ _ ∧ _); simp (disch := omega) only [nI_clamp, nI_leI, nI_ltI, nI_eq, nI_1, nI_add, nI_not_neg, nI_is_pos, nI_m1, nI_z]) | refine brT (by first | assumption | decide | omega) ?_ | refine brF (by first | assumption | decide | omega) ?_ | refine brTn (by first | assumption | decide | omega) ?_ | refine brFn (by first | assumption | decide | omega) ?_ | refine And.intro (vp_in_nI (by omega) (by decide)) ?_ | refine And.intro (vp_lit (by decide)) ?_ | refine divJ (by decide) ?_ | refine divI (by decide) ?_)
  try change _ ∧ _
  first | rfl | (simp (disch := omega) only [nI_1, nI_add, nI_clamp] <;> first | done | rfl)
end EVEN1
