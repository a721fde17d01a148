/-! ===== LEVELS AND GAPS ===== -/
theorem Wp.norm {d j pc : Nat} {L L' S : List Value} {h : HP} {Q : QT} (hL : L = L') (hw : Wp d j pc L' S h Q) : Wp d j pc L S h Q := by
  subst hL
  exact hw
theorem brT {a A B : Prop} (h : a) (x : A) : (a → A) ∧ (¬ a → B) := ⟨fun _ => x, fun z => absurd h z⟩
theorem brF {a A B : Prop} (h : ¬ a) (x : B) : (a → A) ∧ (¬ a → B) := ⟨fun z => absurd z h, fun _ => x⟩
theorem brTn {a A B : Prop} (h : ¬ a) (x : A) : (¬ a → A) ∧ (a → B) := ⟨fun _ => x, fun z => absurd z h⟩
theorem brFn {a A B : Prop} (h : a) (x : B) : (¬ a → A) ∧ (a → B) := ⟨fun z => absurd h z, fun _ => x⟩
theorem Wp.at {d j pc pc' : Nat} {L L' S' : List Value} {h h' : HP} {Q : QT} (hw : Wp d j pc L [] h Q) (hpc : Nat.beq pc pc' = true) (hS : S' = []) (hL : L = L') (hh : h = h') : Wp d j pc' L' S' h' Q := by
  subst hL
  subst hh
  subst hS
  rw [← Nat.eq_of_beq_eq_true hpc]
  exact hw
def kV : Option Nat → Int32
  | none => -1
  | some k => nI k
def kOK (s : ST) (k : Option Nat) : Prop := ∀ k', k = some k' → k' < zK s
def isO (s : ST) (k : Option Nat) (t : Nat) : Bool := match k with
  | none => true
  | some k => decide (tK s t = k)
def tA (s : ST) (k : Option Nat) (n : Nat) : Nat := match k with
  | none => n
  | some k => tB s (kF s k + n)
def cO (s : ST) (k : Option Nat) (n : Nat) : Nat := cnt (fun u => isO s k u = true) n
theorem cnt_surj {p : Nat → Prop} [DecidablePred p] : ∀ {m n : Nat}, n < cnt p m → ∃ t, t < m ∧ p t ∧ cnt p t = n
  | 0, n, h => absurd h (Nat.not_lt_zero _)
  | m + 1, n, h => by
    by_cases hn : n < cnt p m
    · obtain ⟨t, h1, h2, h3⟩ := cnt_surj hn
      exact ⟨t, by omega, h2, h3⟩
    · unfold cnt at h
      by_cases hp : p m
      · rw [if_pos hp] at h
        exact ⟨m, by omega, hp, by omega⟩
      · rw [if_neg hp] at h
        omega
theorem cnt_mono (p : Nat → Prop) [DecidablePred p] : ∀ {n m : Nat}, n ≤ m → cnt p n ≤ cnt p m := by
  intro n m h
  obtain ⟨k, rfl⟩ : ∃ k, m = n + k := ⟨m - n, by omega⟩
  induction k with
  | zero => exact Nat.le_refl _
  | succ k ih =>
    have := ih (by omega)
    have e : cnt p (n + (k + 1)) = cnt p (n + k) + (if p (n + k) then 1 else 0) := rfl
    omega
theorem cO_none (s : ST) : ∀ n, cO s none n = n
  | 0 => rfl
  | n + 1 => by
    unfold cO cnt
    have := cO_none s n
    unfold cO at this
    rw [this]
    rfl
theorem cO_some (s : ST) (k n : Nat) : cO s (some k) n = cnt (fun u => tK s u = k) n := cnt_congr (fun i _ => by unfold isO; exact decide_eq_true_iff)
theorem cO_le (s : ST) (k : Option Nat) (n : Nat) : cO s k n ≤ n := cnt_le _ n
theorem cO_succ (s : ST) (k : Option Nat) (n : Nat) : cO s k (n + 1) = cO s k n + (if isO s k n = true then 1 else 0) := rfl
section LEV
variable {s : ST} {c v : RT} {h : HP} {k : Option Nat}
theorem tA_of (o : OK s) {t : Nat} (ht : t < zT s) (hi : isO s k t = true) : tA s k (cO s k t) = t := by
  cases k with
  | none => exact cO_none s t
  | some k =>
    have hk : tK s t = k := by simpa [isO] using hi
    subst hk
    rw [cO_some, ← o.num ht]
    exact o.byk ht
theorem tA_spec (o : OK s) {n : Nat} (hn : n < cO s k (zT s)) : ∃ t, t < zT s ∧ isO s k t = true ∧ cO s k t = n ∧ tA s k n = t := by
  obtain ⟨t, h1, h2, h3⟩ := cnt_surj hn
  refine ⟨t, h1, h2, h3, ?_⟩
  rw [← tA_of o h1 h2]
  exact congrArg (tA s k) h3.symm
theorem tA_lt (o : OK s) {n : Nat} (hn : n < cO s k (zT s)) : tA s k n < zT s := by
  obtain ⟨t, h1, _, _, h4⟩ := tA_spec o hn
  omega
theorem r_Calendar_countOf (R : RC s c v h) (o : OK s) (hk : kOK s k) : Run 0 j_Calendar_countOf [.ref 36, .int (kV k)] h (some (.int (nI (cO s k (zT s))))) h := by
  have hT := o.T; have hP := o.P; have hK := o.K; have hD := o.D; have hO := o.O; have hQ := o.Q; have hL := o.L
  cases k with
  | none =>
    refine Run.of rfl ?_
    refine Wp.norm (L' := [_, _]) rfl ?_
    repeat (first | (refine W1 rfl ?_; try refine Wp.norm (L' := [_, _]) rfl ?_) | refine brT (by decide) ?_ | refine brF (by decide) ?_ | refine brTn (by decide) ?_ | refine brFn (by decide) ?_)
    try change _ ∧ _
    rw [R.T, cO_none]
    exact ⟨rfl, rfl⟩
  | some k =>
    have hk := hk k rfl
    refine Run.of rfl ?_
    refine Wp.norm (L' := [_, _]) rfl ?_
    repeat (first | (refine W1 rfl ?_; try refine Wp.norm (L' := [_, _]) rfl ?_) | refine brT (by decide) ?_ | refine brF (by decide) ?_ | refine brTn (by decide) ?_ | refine brFn (by decide) ?_)
    try change _ ∧ _
    refine ⟨fun _ => ?_, fun z => absurd z (fun z => (nI_m1 (by omega)).mp z)⟩
    repeat (first | (refine W1 rfl ?_; try refine Wp.norm (L' := [_, _]) rfl ?_) | refine brT (by decide) ?_ | refine brF (by decide) ?_ | refine brTn (by decide) ?_ | refine brFn (by decide) ?_)
    try change _ ∧ _
    rw [show kV (some k) = nI k from rfl, nI_1]
    refine ⟨vp_in_nI (by omega) (by decide), ?_⟩
    repeat (first | (refine W1 rfl ?_; try refine Wp.norm (L' := [_, _]) rfl ?_) | refine brT (by decide) ?_ | refine brF (by decide) ?_ | refine brTn (by decide) ?_ | refine brFn (by decide) ?_)
    try change _ ∧ _
    refine ⟨vp_in_nI (by omega) (by decide), ?_⟩
    repeat (first | (refine W1 rfl ?_; try refine Wp.norm (L' := [_, _]) rfl ?_) | refine brT (by decide) ?_ | refine brF (by decide) ?_ | refine brTn (by decide) ?_ | refine brFn (by decide) ?_)
    try change _ ∧ _
    rw [nI_clamp (by omega), nI_clamp (by omega), R.kfs (by omega), R.kfs (by omega), cO_some, ← o.kfs hk]
    refine ⟨?_, rfl⟩
    rw [pk_sub (by omega)]
    congr 3
    omega
theorem r_Calendar_turnAt (R : RC s c v h) (o : OK s) (hk : kOK s k) {n : Nat} (hn : n < cO s k (zT s)) : Run 0 j_Calendar_turnAt [.ref 36, .int (kV k), .int (nI n)] h (some (.int (nI (tA s k n)))) h := by
  have hT := o.T; have hP := o.P; have hK := o.K; have hD := o.D; have hO := o.O; have hQ := o.Q; have hL := o.L
  cases k with
  | none =>
    refine Run.of rfl ?_
    refine Wp.norm (L' := [_, _, _]) rfl ?_
    repeat (first | (refine W1 rfl ?_; try refine Wp.norm (L' := [_, _, _]) rfl ?_) | refine brT (by decide) ?_ | refine brF (by decide) ?_ | refine brTn (by decide) ?_ | refine brFn (by decide) ?_)
    try change _ ∧ _
    exact ⟨rfl, rfl⟩
  | some k =>
    have hk := hk k rfl
    have h1 := o.kfs hk
    have h2 := o.kfl hk
    rw [cO_some] at hn
    refine Run.of rfl ?_
    refine Wp.norm (L' := [_, _, _]) rfl ?_
    repeat (first | (refine W1 rfl ?_; try refine Wp.norm (L' := [_, _, _]) rfl ?_) | refine brT (by decide) ?_ | refine brF (by decide) ?_ | refine brTn (by decide) ?_ | refine brFn (by decide) ?_)
    try change _ ∧ _
    refine ⟨fun _ => ?_, fun z => absurd z (fun z => (nI_m1 (by omega)).mp z)⟩
    repeat (first | (refine W1 rfl ?_; try refine Wp.norm (L' := [_, _, _]) rfl ?_) | refine brT (by decide) ?_ | refine brF (by decide) ?_ | refine brTn (by decide) ?_ | refine brFn (by decide) ?_)
    try change _ ∧ _
    rw [show kV (some k) = nI k from rfl]
    refine ⟨vp_in_nI (by omega) (by decide), ?_⟩
    repeat (first | (refine W1 rfl ?_; try refine Wp.norm (L' := [_, _, _]) rfl ?_) | refine brT (by decide) ?_ | refine brF (by decide) ?_ | refine brTn (by decide) ?_ | refine brFn (by decide) ?_)
    try change _ ∧ _
    rw [nI_clamp (by omega), R.kfs (by omega), nI_add]
    refine ⟨vp_in_nI (by omega) (by decide), ?_⟩
    repeat (first | (refine W1 rfl ?_; try refine Wp.norm (L' := [_, _, _]) rfl ?_) | refine brT (by decide) ?_ | refine brF (by decide) ?_ | refine brTn (by decide) ?_ | refine brFn (by decide) ?_)
    try change _ ∧ _
    rw [nI_clamp (by omega), R.byk (by omega)]
    exact ⟨rfl, rfl⟩
/-- what a turn does to a level -/
def chg (s : ST) (c : RT) (p : Nat) (k : Option Nat) (t : Nat) : Int64 := match k with
  | none => ((if c t = nI p then (720720 : Int32) else 0) - nI (dueN s p t)).toInt64 * (nI (kW s (tK s t))).toInt64
  | some _ => ((if c t = nI p then (720720 : Int32) else 0) - nI (dueN s p t)).toInt64
theorem r_Levels_changeBy (R : RC s c v h) (o : OK s) (hk : kOK s k) {p n : Nat} (hp : p < zP s) (hn : n < cO s k (zT s)) : Run 1 j_Levels_changeBy [.ref 49, .int (nI p), .int (kV k), .int (nI n)] h (some (.long (chg s c p k (tA s k n)))) h := by
  have hT := o.T; have hP := o.P; have hK := o.K; have hD := o.D; have hO := o.O; have hQ := o.Q; have hL := o.L
  have ht := tA_lt o hn
  have hkn := o.knd ht
  refine Run.of rfl ?_
  refine Wp.norm (L' := [_, _, _, _, _, _, _]) rfl ?_
  repeat (first | (refine W1 rfl ?_; try refine Wp.norm (L' := [_, _, _, _, _, _, _]) rfl ?_) | refine brT (by decide) ?_ | refine brF (by decide) ?_ | refine brTn (by decide) ?_ | refine brFn (by decide) ?_)
  try change _ ∧ _
  refine Cl.of (r_Calendar_turnAt R o hk hn) (by decide) ?_
  repeat (first | (refine W1 rfl ?_; try refine Wp.norm (L' := [_, _, _, _, _, _, _]) rfl ?_) | refine brT (by decide) ?_ | refine brF (by decide) ?_ | refine brTn (by decide) ?_ | refine brFn (by decide) ?_)
  try change _ ∧ _
  refine ⟨vp_in_nI (by omega) (by decide), ?_⟩
  repeat (first | (refine W1 rfl ?_; try refine Wp.norm (L' := [_, _, _, _, _, _, _]) rfl ?_) | refine brT (by decide) ?_ | refine brF (by decide) ?_ | refine brTn (by decide) ?_ | refine brFn (by decide) ?_)
  try change _ ∧ _
  rw [nI_clamp (by omega), R.cts ht]
  have fin : ∀ x : Int32, (x = if c (tA s k n) = nI p then (720720 : Int32) else 0) → Wp 1 j_Levels_changeBy 31 [.ref 49, .int (nI p), .int (kV k), .int (nI n), .int (nI (tA s k n)), .null, .null] [.int x] h (fun v' h2 => v' = some (.long (chg s c p k (tA s k n))) ∧ h2 = h) := by
    intro x hx
    subst hx
    repeat (first | (refine W1 rfl ?_; try refine Wp.norm (L' := [_, _, _, _, _, _, _]) rfl ?_) | refine brT (by decide) ?_ | refine brF (by decide) ?_ | refine brTn (by decide) ?_ | refine brFn (by decide) ?_)
    try change _ ∧ _
    refine Cl.of (r_Calendar_dueOf R o hp ht) (by decide) ?_
    repeat (first | (refine W1 rfl ?_; try refine Wp.norm (L' := [_, _, _, _, _, _, _]) rfl ?_) | refine brT (by decide) ?_ | refine brF (by decide) ?_ | refine brTn (by decide) ?_ | refine brFn (by decide) ?_)
    try change _ ∧ _
    cases k with
    | none =>
      refine ⟨fun z => absurd rfl z, fun _ => ?_⟩
      repeat (first | (refine W1 rfl ?_; try refine Wp.norm (L' := [_, _, _, _, _, _, _]) rfl ?_) | refine brT (by decide) ?_ | refine brF (by decide) ?_ | refine brTn (by decide) ?_ | refine brFn (by decide) ?_)
      try change _ ∧ _
      refine ⟨vp_in_nI (by omega) (by decide), ?_⟩
      repeat (first | (refine W1 rfl ?_; try refine Wp.norm (L' := [_, _, _, _, _, _, _]) rfl ?_) | refine brT (by decide) ?_ | refine brF (by decide) ?_ | refine brTn (by decide) ?_ | refine brFn (by decide) ?_)
      try change _ ∧ _
      rw [nI_clamp (by omega), R.knd ht]
      refine ⟨vp_in_nI (by omega) (by decide), ?_⟩
      repeat (first | (refine W1 rfl ?_; try refine Wp.norm (L' := [_, _, _, _, _, _, _]) rfl ?_) | refine brT (by decide) ?_ | refine brF (by decide) ?_ | refine brTn (by decide) ?_ | refine brFn (by decide) ?_)
      try change _ ∧ _
      rw [nI_clamp (by omega), R.wgt hkn]
      exact ⟨rfl, rfl⟩
    | some k =>
      have hk := hk k rfl
      refine ⟨fun _ => ?_, fun z => absurd z (fun z => (nI_m1 (by omega)).mp z)⟩
      repeat (first | (refine W1 rfl ?_; try refine Wp.norm (L' := [_, _, _, _, _, _, _]) rfl ?_) | refine brT (by decide) ?_ | refine brF (by decide) ?_ | refine brTn (by decide) ?_ | refine brFn (by decide) ?_)
      try change _ ∧ _
      exact ⟨rfl, rfl⟩
  refine ⟨fun hc => ?_, fun hc => ?_⟩
  · iterate 1 (refine W1 rfl ?_; try refine Wp.norm (L' := [_, _, _, _, _, _, _]) rfl ?_)
    exact fin _ (by rw [if_neg hc])
  · iterate 2 (refine W1 rfl ?_; try refine Wp.norm (L' := [_, _, _, _, _, _, _]) rfl ?_)
    exact fin _ (by rw [if_pos hc])
/-! folds over the turns of a kind -/
def fT {σ : Type} (f : σ → Nat → σ) (s : ST) (k : Option Nat) (a : σ) : Nat → σ
  | 0 => a
  | t + 1 => if isO s k t = true then f (fT f s k a t) t else fT f s k a t
def fK {σ : Type} (f : σ → Nat → σ) (s : ST) (k : Option Nat) (a : σ) : Nat → σ
  | 0 => a
  | n + 1 => f (fK f s k a n) (tA s k n)
theorem fK_fT {σ : Type} (f : σ → Nat → σ) (o : OK s) (a : σ) : ∀ t, t ≤ zT s → fK f s k a (cO s k t) = fT f s k a t
  | 0, _ => rfl
  | t + 1, ht => by
    have ih := fK_fT f o a t (by omega)
    rw [cO_succ]
    unfold fT
    by_cases hi : isO s k t = true
    · rw [if_pos hi, if_pos hi, fK, ih, tA_of o (by omega) hi]
    · rw [if_neg hi, if_neg hi]
      exact ih
def lvf (s : ST) (c : RT) (p : Nat) (k : Option Nat) (a : Int64) (t : Nat) : Int64 := a + chg s c p k t
def lvl (s : ST) (c : RT) (p : Nat) (k : Option Nat) (n : Nat) : Int64 := fK (lvf s c p k) s k 0 n
theorem r_Levels_ahead (R : RC s c v h) (o : OK s) (hk : kOK s k) {p n : Nat} (hp : p < zP s) (hn : n ≤ cO s k (zT s)) : Run 2 j_Levels_ahead [.ref 49, .int (nI p), .int (kV k), .int (nI n)] h (some (.long (lvl s c p k n))) h := by
  have hT := o.T; have hP := o.P; have hK := o.K; have hD := o.D; have hO := o.O; have hQ := o.Q; have hL := o.L
  have hc := cO_le s k (zT s)
  refine Run.of rfl ?_
  refine Wp.norm (L' := [_, _, _, _, _, _, _]) rfl ?_
  iterate 4 (refine W1 rfl ?_; try refine Wp.norm (L' := [_, _, _, _, _, _, _]) rfl ?_)
  refine up_ind (n := n) (P := fun i => Wp 2 j_Levels_ahead 6 [.ref 49, .int (nI p), .int (kV k), .int (nI n), .long (lvl s c p k i), .null, .int (nI i)] [] h _) ?_ (fun i hi ih => ?_) 0 (by omega)
  · repeat (first | (refine W1 rfl ?_; try refine Wp.norm (L' := [_, _, _, _, _, _, _]) rfl ?_) | refine brT (by decide) ?_ | refine brF (by decide) ?_ | refine brTn (by decide) ?_ | refine brFn (by decide) ?_)
    try change _ ∧ _
    rw [nI_leI (by omega) (by omega)]
    refine ⟨fun _ => ?_, fun z => absurd (Nat.le_refl _) z⟩
    repeat (first | (refine W1 rfl ?_; try refine Wp.norm (L' := [_, _, _, _, _, _, _]) rfl ?_) | refine brT (by decide) ?_ | refine brF (by decide) ?_ | refine brTn (by decide) ?_ | refine brFn (by decide) ?_)
    try change _ ∧ _
    exact ⟨rfl, rfl⟩
  · repeat (first | (refine W1 rfl ?_; try refine Wp.norm (L' := [_, _, _, _, _, _, _]) rfl ?_) | refine brT (by decide) ?_ | refine brF (by decide) ?_ | refine brTn (by decide) ?_ | refine brFn (by decide) ?_)
    try change _ ∧ _
    rw [nI_leI (by omega) (by omega)]
    refine ⟨fun z => absurd z (by omega), fun _ => ?_⟩
    repeat (first | (refine W1 rfl ?_; try refine Wp.norm (L' := [_, _, _, _, _, _, _]) rfl ?_) | refine brT (by decide) ?_ | refine brF (by decide) ?_ | refine brTn (by decide) ?_ | refine brFn (by decide) ?_)
    try change _ ∧ _
    refine Cl.of (r_Levels_changeBy R o hk hp (by omega)) (by decide) ?_
    repeat (first | refine Wp.at ih rfl rfl ?_ rfl | (refine W1 rfl ?_; try refine Wp.norm (L' := [_, _, _, _, _, _, _]) rfl ?_) | refine brT (by decide) ?_ | refine brF (by decide) ?_ | refine brTn (by decide) ?_ | refine brFn (by decide) ?_)
    try change _ ∧ _
    rw [nI_1]
    rfl
def mxJ (x y : Int64) : Int64 := if x < y then y else x
def mnJ (x y : Int64) : Int64 := if y < x then y else x
theorem r_maxJ (h : HP) (x y : Int64) : Run 0 j_Math_maxJ [.long x, .long y] h (some (.long (mxJ x y))) h := by
  refine Run.of rfl ?_
  refine Wp.norm (L' := [_, _, _, _]) rfl ?_
  repeat (first | (refine W1 rfl ?_; try refine Wp.norm (L' := [_, _, _, _]) rfl ?_) | refine brT (by decide) ?_ | refine brF (by decide) ?_ | refine brTn (by decide) ?_ | refine brFn (by decide) ?_)
  try change _ ∧ _
  rw [lgc_lt]
  refine ⟨fun hc => ?_, fun hc => ?_⟩
  · repeat (first | (refine W1 rfl ?_; try refine Wp.norm (L' := [_, _, _, _]) rfl ?_) | refine brT (by decide) ?_ | refine brF (by decide) ?_ | refine brTn (by decide) ?_ | refine brFn (by decide) ?_)
    try change _ ∧ _
    exact ⟨by rw [mxJ, if_pos hc], rfl⟩
  · repeat (first | (refine W1 rfl ?_; try refine Wp.norm (L' := [_, _, _, _]) rfl ?_) | refine brT (by decide) ?_ | refine brF (by decide) ?_ | refine brTn (by decide) ?_ | refine brFn (by decide) ?_)
    try change _ ∧ _
    exact ⟨by rw [mxJ, if_neg hc], rfl⟩
theorem r_minJ (h : HP) (x y : Int64) : Run 0 j_Math_minJ [.long x, .long y] h (some (.long (mnJ x y))) h := by
  refine Run.of rfl ?_
  refine Wp.norm (L' := [_, _, _, _]) rfl ?_
  repeat (first | (refine W1 rfl ?_; try refine Wp.norm (L' := [_, _, _, _]) rfl ?_) | refine brT (by decide) ?_ | refine brF (by decide) ?_ | refine brTn (by decide) ?_ | refine brFn (by decide) ?_)
  try change _ ∧ _
  rw [lgc_gt]
  refine ⟨fun hc => ?_, fun hc => ?_⟩
  · repeat (first | (refine W1 rfl ?_; try refine Wp.norm (L' := [_, _, _, _]) rfl ?_) | refine brT (by decide) ?_ | refine brF (by decide) ?_ | refine brTn (by decide) ?_ | refine brFn (by decide) ?_)
    try change _ ∧ _
    exact ⟨by rw [mnJ, if_pos hc], rfl⟩
  · repeat (first | (refine W1 rfl ?_; try refine Wp.norm (L' := [_, _, _, _]) rfl ?_) | refine brT (by decide) ?_ | refine brF (by decide) ?_ | refine brTn (by decide) ?_ | refine brFn (by decide) ?_)
    try change _ ∧ _
    exact ⟨by rw [mnJ, if_neg hc], rfl⟩
/-- level, most, least -/
def gpf (s : ST) (c : RT) (p : Nat) (k : Option Nat) (a : Int64 × Int64 × Int64) (t : Nat) : Int64 × Int64 × Int64 := (a.1 + chg s c p k t, mxJ a.2.1 (a.1 + chg s c p k t), mnJ a.2.2 (a.1 + chg s c p k t))
def gpK (s : ST) (c : RT) (p : Nat) (k : Option Nat) (n : Nat) : Int64 × Int64 × Int64 := fK (gpf s c p k) s k (0, 0, 0) n
def gpT (s : ST) (c : RT) (p : Nat) (k : Option Nat) (n : Nat) : Int64 × Int64 × Int64 := fT (gpf s c p k) s k (0, 0, 0) n
def gapV (s : ST) (c : RT) (p : Nat) (k : Option Nat) : Int64 := (gpT s c p k (zT s)).2.1 - (gpT s c p k (zT s)).2.2
theorem gpK_gpT (o : OK s) (p : Nat) : gpK s c p k (cO s k (zT s)) = gpT s c p k (zT s) := fK_fT _ o _ _ (Nat.le_refl _)
/-! the model's -/
theorem r_M_isOf (R : RM s c v h) (o : OK s) (hk : kOK s k) {t : Nat} (ht : t < zT s) : Run 0 j_M_isOf [.ref 65, .int (nI t), .int (kV k)] h (some (.int (if isO s k t = true then 1 else 0))) h := by
  have hT := o.T; have hP := o.P; have hK := o.K; have hD := o.D; have hO := o.O; have hQ := o.Q; have hL := o.L
  have hkn := o.knd ht
  cases k with
  | none =>
    refine Run.of rfl ?_
    refine Wp.norm (L' := [_, _, _]) rfl ?_
    repeat (first | (refine W1 rfl ?_; try refine Wp.norm (L' := [_, _, _]) rfl ?_) | refine brT (by decide) ?_ | refine brF (by decide) ?_ | refine brTn (by decide) ?_ | refine brFn (by decide) ?_)
    try change _ ∧ _
    exact ⟨Or.inr rfl, rfl, rfl⟩
  | some k =>
    have hk := hk k rfl
    refine Run.of rfl ?_
    refine Wp.norm (L' := [_, _, _]) rfl ?_
    repeat (first | (refine W1 rfl ?_; try refine Wp.norm (L' := [_, _, _]) rfl ?_) | refine brT (by decide) ?_ | refine brF (by decide) ?_ | refine brTn (by decide) ?_ | refine brFn (by decide) ?_)
    try change _ ∧ _
    refine ⟨fun z => absurd z (fun z => (nI_m1 (by omega)).mp z), fun _ => ?_⟩
    repeat (first | (refine W1 rfl ?_; try refine Wp.norm (L' := [_, _, _]) rfl ?_) | refine brT (by decide) ?_ | refine brF (by decide) ?_ | refine brTn (by decide) ?_ | refine brFn (by decide) ?_)
    try change _ ∧ _
    refine ⟨vp_in_nI (by omega) (by decide), ?_⟩
    repeat (first | (refine W1 rfl ?_; try refine Wp.norm (L' := [_, _, _]) rfl ?_) | refine brT (by decide) ?_ | refine brF (by decide) ?_ | refine brTn (by decide) ?_ | refine brFn (by decide) ?_)
    try change _ ∧ _
    rw [nI_clamp (by omega), R.knd ht, show kV (some k) = nI k from rfl, nI_eq (by omega) (by omega)]
    refine ⟨fun hc => ?_, fun hc => ?_⟩
    · repeat (first | (refine W1 rfl ?_; try refine Wp.norm (L' := [_, _, _]) rfl ?_) | refine brT (by decide) ?_ | refine brF (by decide) ?_ | refine brTn (by decide) ?_ | refine brFn (by decide) ?_)
      try change _ ∧ _
      rw [if_neg (by simpa [isO] using hc)]
      exact ⟨Or.inl rfl, rfl, rfl⟩
    · repeat (first | (refine W1 rfl ?_; try refine Wp.norm (L' := [_, _, _]) rfl ?_) | refine brT (by decide) ?_ | refine brF (by decide) ?_ | refine brTn (by decide) ?_ | refine brFn (by decide) ?_)
      try change _ ∧ _
      rw [if_pos (by simpa [isO] using hc)]
      exact ⟨Or.inr rfl, rfl, rfl⟩
theorem r_M_stepOf (R : RM s c v h) (o : OK s) (hk : kOK s k) {p t : Nat} (hp : p < zP s) (ht : t < zT s) : Run 2 j_M_stepOf [.ref 65, .int (nI p), .int (kV k), .int (nI t)] h (some (.long (chg s c p k t))) h := by
  have hT := o.T; have hP := o.P; have hK := o.K; have hD := o.D; have hO := o.O; have hQ := o.Q; have hL := o.L
  have hkn := o.knd ht
  refine Run.of rfl ?_
  refine Wp.norm (L' := [_, _, _, _, _, _]) rfl ?_
  repeat (first | (refine W1 rfl ?_; try refine Wp.norm (L' := [_, _, _, _, _, _]) rfl ?_) | refine brT (by decide) ?_ | refine brF (by decide) ?_ | refine brTn (by decide) ?_ | refine brFn (by decide) ?_)
  try change _ ∧ _
  refine ⟨vp_in_nI (by omega) (by decide), ?_⟩
  repeat (first | (refine W1 rfl ?_; try refine Wp.norm (L' := [_, _, _, _, _, _]) rfl ?_) | refine brT (by decide) ?_ | refine brF (by decide) ?_ | refine brTn (by decide) ?_ | refine brFn (by decide) ?_)
  try change _ ∧ _
  rw [nI_clamp (by omega), R.cts ht]
  have fin : ∀ x : Int32, (x = if c t = nI p then (720720 : Int32) else 0) → Wp 2 j_M_stepOf 17 [.ref 65, .int (nI p), .int (kV k), .int (nI t), .null, .null] [.int x] h (fun v' h2 => v' = some (.long (chg s c p k t)) ∧ h2 = h) := by
    intro x hx
    subst hx
    repeat (first | (refine W1 rfl ?_; try refine Wp.norm (L' := [_, _, _, _, _, _]) rfl ?_) | refine brT (by decide) ?_ | refine brF (by decide) ?_ | refine brTn (by decide) ?_ | refine brFn (by decide) ?_)
    try change _ ∧ _
    refine Cl.of (r_M_dueOf R o hp ht) (by decide) ?_
    repeat (first | (refine W1 rfl ?_; try refine Wp.norm (L' := [_, _, _, _, _, _]) rfl ?_) | refine brT (by decide) ?_ | refine brF (by decide) ?_ | refine brTn (by decide) ?_ | refine brFn (by decide) ?_)
    try change _ ∧ _
    cases k with
    | none =>
      refine ⟨fun z => absurd rfl z, fun _ => ?_⟩
      repeat (first | (refine W1 rfl ?_; try refine Wp.norm (L' := [_, _, _, _, _, _]) rfl ?_) | refine brT (by decide) ?_ | refine brF (by decide) ?_ | refine brTn (by decide) ?_ | refine brFn (by decide) ?_)
      try change _ ∧ _
      refine ⟨vp_in_nI (by omega) (by decide), ?_⟩
      repeat (first | (refine W1 rfl ?_; try refine Wp.norm (L' := [_, _, _, _, _, _]) rfl ?_) | refine brT (by decide) ?_ | refine brF (by decide) ?_ | refine brTn (by decide) ?_ | refine brFn (by decide) ?_)
      try change _ ∧ _
      rw [nI_clamp (by omega), R.knd ht, show (6 : Int32) = nI 6 from rfl, nI_add]
      refine ⟨vp_in_nI (by omega) (by decide), ?_⟩
      repeat (first | (refine W1 rfl ?_; try refine Wp.norm (L' := [_, _, _, _, _, _]) rfl ?_) | refine brT (by decide) ?_ | refine brF (by decide) ?_ | refine brTn (by decide) ?_ | refine brFn (by decide) ?_)
      try change _ ∧ _
      rw [nI_clamp (by omega), R.wgt hkn]
      exact ⟨rfl, rfl⟩
    | some k =>
      have hk := hk k rfl
      refine ⟨fun _ => ?_, fun z => absurd z (fun z => (nI_m1 (by omega)).mp z)⟩
      repeat (first | (refine W1 rfl ?_; try refine Wp.norm (L' := [_, _, _, _, _, _]) rfl ?_) | refine brT (by decide) ?_ | refine brF (by decide) ?_ | refine brTn (by decide) ?_ | refine brFn (by decide) ?_)
      try change _ ∧ _
      exact ⟨rfl, rfl⟩
  refine ⟨fun hc => ?_, fun hc => ?_⟩
  · iterate 1 (refine W1 rfl ?_; try refine Wp.norm (L' := [_, _, _, _, _, _]) rfl ?_)
    exact fin _ (by rw [if_neg hc])
  · iterate 2 (refine W1 rfl ?_; try refine Wp.norm (L' := [_, _, _, _, _, _]) rfl ?_)
    exact fin _ (by rw [if_pos hc])
end LEV
