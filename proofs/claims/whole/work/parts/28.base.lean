/-! ===== THE HOUSE AS NUMBERS; how class and model hold it ===== -/
theorem up_ind {n : Nat} {P : Nat → Prop} (hn : P n) (hs : ∀ i, i < n → P (i + 1) → P i) : ∀ i, i ≤ n → P i := by
  have key : ∀ k i, i + k = n → P i := by
    intro k
    induction k with
    | zero => intro i hi; rw [show i = n by omega]; exact hn
    | succ k ih => intro i hi; exact hs i (by omega) (ih (i + 1) (by omega))
  intro i hi
  exact key (n - i) i (by omega)
theorem Wp.to {d j pc : Nat} {L L' S : List Value} {h h' : HP} {Q : QT} (hw : Wp d j pc L S h Q) (hL : L = L') (hh : h = h') : Wp d j pc L' S h' Q := by
  subst hL
  subst hh
  exact hw
theorem Wp.toQ {d j pc : Nat} {L L' S S' : List Value} {h h' : HP} {Q : QT} (hw : Wp d j pc L S h Q) (hL : L = L') (hS : S = S') (hh : h = h') : Wp d j pc L' S' h' Q := by
  subst hL
  subst hh
  subst hS
  exact hw
theorem vp_inI {n N : Nat} (h : n < 2 ^ 31) : vp_in (nI n) N ↔ n < N := by
  rw [vp_in_iff, nI_toInt h]
  omega
theorem nI_not_neg {n : Nat} (h : n < 2 ^ 31) : (nI n < 0) ↔ False := ⟨fun z => nI_pos h z, False.elim⟩
theorem nI_is_pos {n : Nat} (h : n < 2 ^ 31) : (0 ≤ nI n) ↔ True := ⟨fun _ => trivial, fun _ => nI_pos' h⟩
theorem nI_m1 {n : Nat} (h : n < 2 ^ 31) : (nI n = -1) ↔ False := by
  refine ⟨fun z => ?_, False.elim⟩
  have := congrArg Int32.toInt z
  rw [nI_toInt h] at this
  have e : (-1 : Int32).toInt = -1 := rfl
  rw [e] at this
  omega
theorem nI_m1' {n : Nat} (h : n < 2 ^ 31) : ((-1 : Int32) = nI n) ↔ False := by rw [eq_comm]; exact nI_m1 h
theorem nI_z {n : Nat} (h : n < 2 ^ 31) : (nI n = 0) ↔ n = 0 := by rw [show (0 : Int32) = nI 0 from rfl, nI_eq h (by decide)]
theorem nI_one {n : Nat} (h : n < 2 ^ 31) : (nI n = 1) ↔ n = 1 := by rw [show (1 : Int32) = nI 1 from rfl, nI_eq h (by decide)]
theorem tern {c : Prop} [Decidable c] {α : Type} {x y : α} : (c → x = y) → (¬ c → x = y) → x = y := fun a b => if h : c then a h else b h
/-- how many below n -/
def cnt (p : Nat → Prop) [DecidablePred p] : Nat → Nat
  | 0 => 0
  | n + 1 => cnt p n + (if p n then 1 else 0)
theorem cnt_le (p : Nat → Prop) [DecidablePred p] : ∀ n, cnt p n ≤ n
  | 0 => Nat.le_refl 0
  | n + 1 => by
    have := cnt_le p n
    unfold cnt
    split <;> omega
theorem cnt_congr {p q : Nat → Prop} [DecidablePred p] [DecidablePred q] : ∀ {n : Nat}, (∀ i, i < n → (p i ↔ q i)) → cnt p n = cnt q n
  | 0, _ => rfl
  | n + 1, h => by
    unfold cnt
    rw [cnt_congr (fun i hi => h i (by omega))]
    simp only [h n (by omega)]
/-- a sum below n -/
def sm (f : Nat → Nat) : Nat → Nat
  | 0 => 0
  | n + 1 => sm f n + f n
theorem sm_congr {f g : Nat → Nat} : ∀ {n : Nat}, (∀ i, i < n → f i = g i) → sm f n = sm g n
  | 0, _ => rfl
  | n + 1, h => by
    unfold sm
    rw [sm_congr (fun i hi => h i (by omega)), h n (by omega)]
theorem sm_le {f g : Nat → Nat} : ∀ {n : Nat}, (∀ i, i < n → f i ≤ g i) → sm f n ≤ sm g n
  | 0, _ => Nat.le_refl 0
  | n + 1, h => by
    unfold sm
    have h1 := sm_le (n := n) (fun i hi => h i (by omega))
    have h2 := h n (by omega)
    omega
theorem sm_mono (f : Nat → Nat) : ∀ {n m : Nat}, n ≤ m → sm f n ≤ sm f m := by
  intro n m h
  obtain ⟨k, rfl⟩ : ∃ k, m = n + k := ⟨m - n, by omega⟩
  induction k with
  | zero => exact Nat.le_refl _
  | succ k ih =>
    have := ih (by omega)
    have e : sm f (n + (k + 1)) = sm f (n + k) + f (n + k) := rfl
    omega
abbrev ST : Type := Nat → Nat → Nat
abbrev RT : Type := Nat → Int32
abbrev zT (s : ST) : Nat := s 0 0
abbrev zP (s : ST) : Nat := s 0 1
abbrev zK (s : ST) : Nat := s 0 2
abbrev zD (s : ST) : Nat := s 0 3
abbrev zO (s : ST) : Nat := s 0 4
abbrev zQ (s : ST) : Nat := s 0 5
abbrev zL (s : ST) : Nat := s 0 6
abbrev tD (s : ST) (t : Nat) : Nat := s 1 t
abbrev tK (s : ST) (t : Nat) : Nat := s 2 t
abbrev tN (s : ST) (t : Nat) : Nat := s 3 t
abbrev tM (s : ST) (t : Nat) : Nat := s 4 t
abbrev pS (s : ST) (p : Nat) : Nat := s 5 p
abbrev kW (s : ST) (k : Nat) : Nat := s 8 k
abbrev kR (s : ST) (i : Nat) : Nat := s 9 i
abbrev pA (s : ST) (p : Nat) : Nat := s 10 p
abbrev pB (s : ST) (p : Nat) : Nat := s 11 p
abbrev oS (s : ST) (r : Nat) : Nat := s 12 r
abbrev oA (s : ST) (r : Nat) : Nat := s 13 r
abbrev oB (s : ST) (r : Nat) : Nat := s 14 r
abbrev oC (s : ST) (r : Nat) : Nat := s 15 r
abbrev kF (s : ST) (k : Nat) : Nat := s 16 k
abbrev tB (s : ST) (i : Nat) : Nat := s 17 i
abbrev dF (s : ST) (d : Nat) : Nat := s 18 d
abbrev tU (s : ST) (t : Nat) : Nat := s 19 t
abbrev pN (s : ST) (p : Nat) : Nat := s 20 p
abbrev pC (s : ST) (p : Nat) : Nat := s 21 p
abbrev kN (s : ST) (k : Nat) : Nat := s 22 k
abbrev kC (s : ST) (k : Nat) : Nat := s 23 k
/-- the parts of those in a mask -/
def mS (s : ST) (m : Nat) (n : Nat) : Nat := sm (fun p => if m.testBit p then pS s p else 0) n
/-- names: letters 1 .. 26, at most six -/
def e27 : List Nat → Nat → Nat
  | [], a => a
  | x :: w, a => e27 w (27 * a + x)
def e32 : List Nat → Nat
  | [] => 0
  | x :: w => x + 32 * e32 w
def isW (w : List Nat) : Prop := 1 ≤ w.length ∧ w.length ≤ 6 ∧ ∀ x, x ∈ w → 1 ≤ x ∧ x ≤ 26
/-- the own words -/
def owL : List (List Nat) := [[4, 1, 25, 19], [16, 5, 18, 19, 15, 14], [16, 1, 18, 20], [6, 18, 15, 13], [20, 15], [11, 9, 14, 4], [23, 5, 9, 7, 8, 19], [20, 21, 18, 14], [15, 14], [14, 5, 22, 5, 18], [18, 5, 19, 20], [1, 16, 1, 18, 20], [2, 5, 19, 9, 4, 5], [15, 18], [1, 14, 4], [14, 15, 20], [1, 12, 12], [4, 1, 25], [23, 5, 5, 11], [23, 5, 5, 11, 4, 1, 25]]
def nmR (a b : Nat) : Prop := ∃ w, isW w ∧ a = e27 w 0 ∧ b = e32 w
/-- the class's cells -/
def RC (s : ST) (c v : RT) (h : HP) : Prop :=
  (h.1 36 1 = nI (zT s) ∧ h.1 7 1 = nI (zP s) ∧ h.1 7 2 = nI (zK s) ∧ h.1 7 0 = nI (zD s) ∧ h.1 7 3 = nI (zQ s) ∧ h.1 7 4 = nI (zL s)) ∧
  (∀ t, t < zT s → h.1 37 t = nI (tD s t) ∧ h.1 38 t = nI (tK s t) ∧ h.1 41 t = nI (tN s t) ∧ h.1 39 t = nI (tM s t) ∧ h.1 40 t = nI (tU s t) ∧ h.1 42 t = nI (tB s t) ∧ h.1 46 t = c t ∧ h.1 47 t = v t) ∧
  (∀ p, p < zP s → h.1 9 p = nI (pS s p) ∧ h.1 12 p = nI (pA s p) ∧ h.1 13 p = nI (pB s p) ∧ h.1 8 p = nI (pC s p)) ∧
  (∀ k, k < zK s → h.1 15 k = nI (kW s k) ∧ h.1 14 k = nI (kC s k)) ∧
  (∀ i, i < 36 → h.1 16 i = nI (kR s i)) ∧ (∀ k, k < 7 → h.1 43 k = nI (kF s k)) ∧ (∀ d, d < 201 → h.1 44 d = nI (dF s d))
/-- the model's -/
def RM (s : ST) (c v : RT) (h : HP) : Prop :=
  (h.1 65 55 = nI (zT s) ∧ h.1 88 1 = nI (zP s) ∧ h.1 89 1 = nI (zK s) ∧ h.1 87 1 = nI (zD s) ∧ h.1 90 1 = nI (zO s)) ∧
  (∀ t, t < zT s → h.1 106 t = nI (tD s t) ∧ h.1 107 t = nI (tK s t) ∧ h.1 108 t = nI (tN s t) ∧ h.1 109 t = nI (tM s t) ∧ h.1 110 t = c t ∧ h.1 111 t = v t) ∧
  (∀ p, p < zP s → h.1 92 (16 + p) = nI (pS s p) ∧ h.2 91 (16 + p) = lN (pN s p)) ∧
  (∀ k, k < zK s → h.1 96 (6 + k) = nI (kW s k) ∧ h.2 95 (6 + k) = lN (kN s k)) ∧
  (∀ r, r < zO s → h.1 97 (60 + r) = nI (oS s r) ∧ h.1 98 (60 + r) = nI (oA s r) ∧ (oS s r ≠ 1 → h.1 99 (60 + r) = nI (oB s r)) ∧ (oS s r = 3 → h.1 100 (60 + r) = nI (oC s r)))
/-- what a house is -/
def OK (s : ST) : Prop :=
  (zT s ≤ 200 ∧ zP s ≤ 16 ∧ zK s ≤ 6 ∧ zD s ≤ 200 ∧ zO s ≤ 60 ∧ zQ s ≤ 16 ∧ zL s ≤ 30) ∧
  (∀ t, t < zT s → tD s t < zD s ∧ tK s t < zK s ∧ tM s t < 2 ^ zP s ∧ tN s t = cnt (fun u => tK s u = tK s t) t ∧ tB s (kF s (tK s t) + tN s t) = t ∧ kF s (tK s t) + tN s t < zT s ∧ tU s t = 720720 / mS s (tM s t) (zP s)) ∧
  (∀ t u, t ≤ u → u < zT s → tD s t ≤ tD s u) ∧
  (∀ p, p < zP s → 1 ≤ pS s p ∧ pS s p ≤ 9 ∧ pA s p < 2 ^ zP s ∧ pB s p < 2 ^ zP s ∧ nmR (pN s p) (pC s p)) ∧ zQ s = sm (pS s) (zP s) ∧
  (∀ k, k < zK s → kW s k ≤ 9 ∧ nmR (kN s k) (kC s k) ∧ kF s k + cnt (fun u => tK s u = k) (zT s) = kF s (k + 1) ∧ kF s (k + 1) ≤ zT s) ∧
  (∀ d, d < 201 → dF s d = cnt (fun u => tD s u < d) (zT s)) ∧
  (∀ i, i < 36 → kR s i ≤ zL s) ∧
  (∀ a b f, a < 6 → b < 6 → 1 ≤ f → (f ≤ kR s (a * 6 + b) ↔ ∃ r, r < zO s ∧ oS s r = 3 ∧ oA s r = a ∧ oB s r = b ∧ f ≤ oC s r)) ∧
  (∀ p q, p < zP s → q < zP s → ((pA s p).testBit q = true ↔ ∃ r, r < zO s ∧ oS s r = 4 ∧ ((oA s r = p ∧ oB s r = q) ∨ (oA s r = q ∧ oB s r = p)))) ∧
  (∀ p q, p < zP s → q < zP s → ((pB s p).testBit q = true ↔ ∃ r, r < zO s ∧ oS s r = 5 ∧ ((oA s r = p ∧ oB s r = q) ∨ (oA s r = q ∧ oB s r = p)))) ∧
  (∀ r, r < zO s → oS s r < 6 ∧ oA s r < 16 ∧ oB s r < 16 ∧ oC s r ≤ 30 ∧ (oS s r = 4 ∨ oS s r = 5 → oA s r < zP s ∧ oB s r < zP s ∧ oA s r ≠ oB s r)) ∧
  (∀ p, p < zP s → ∀ w, isW w → pN s p = e27 w 0 → ¬ w ∈ owL)
/-- what a rota is -/
def RO (s : ST) (c v : RT) : Prop := ∀ t, t < zT s → (c t = -1 ∧ v t = -1) ∨ ∃ p q, p < zP s ∧ q < zP s ∧ c t = nI p ∧ v t = nI q
section RCP
variable {s : ST} {c v : RT} {h : HP}
theorem RC.T (R : RC s c v h) : h.1 36 1 = nI (zT s) := R.1.1
theorem RC.P (R : RC s c v h) : h.1 7 1 = nI (zP s) := R.1.2.1
theorem RC.K (R : RC s c v h) : h.1 7 2 = nI (zK s) := R.1.2.2.1
theorem RC.dys (R : RC s c v h) : h.1 7 0 = nI (zD s) := R.1.2.2.2.1
theorem RC.prt (R : RC s c v h) : h.1 7 3 = nI (zQ s) := R.1.2.2.2.2.1
theorem RC.lng (R : RC s c v h) : h.1 7 4 = nI (zL s) := R.1.2.2.2.2.2
theorem RC.day (R : RC s c v h) {t : Nat} (ht : t < zT s) : h.1 37 t = nI (tD s t) := (R.2.1 t ht).1
theorem RC.knd (R : RC s c v h) {t : Nat} (ht : t < zT s) : h.1 38 t = nI (tK s t) := (R.2.1 t ht).2.1
theorem RC.num (R : RC s c v h) {t : Nat} (ht : t < zT s) : h.1 41 t = nI (tN s t) := (R.2.1 t ht).2.2.1
theorem RC.msk (R : RC s c v h) {t : Nat} (ht : t < zT s) : h.1 39 t = nI (tM s t) := (R.2.1 t ht).2.2.2.1
theorem RC.unt (R : RC s c v h) {t : Nat} (ht : t < zT s) : h.1 40 t = nI (tU s t) := (R.2.1 t ht).2.2.2.2.1
theorem RC.byk (R : RC s c v h) {t : Nat} (ht : t < zT s) : h.1 42 t = nI (tB s t) := (R.2.1 t ht).2.2.2.2.2.1
theorem RC.cts (R : RC s c v h) {t : Nat} (ht : t < zT s) : h.1 46 t = c t := (R.2.1 t ht).2.2.2.2.2.2.1
theorem RC.srv (R : RC s c v h) {t : Nat} (ht : t < zT s) : h.1 47 t = v t := (R.2.1 t ht).2.2.2.2.2.2.2
theorem RC.shr (R : RC s c v h) {t : Nat} (ht : t < zP s) : h.1 9 t = nI (pS s t) := (R.2.2.1 t ht).1
theorem RC.apt (R : RC s c v h) {t : Nat} (ht : t < zP s) : h.1 12 t = nI (pA s t) := (R.2.2.1 t ht).2.1
theorem RC.bsd (R : RC s c v h) {t : Nat} (ht : t < zP s) : h.1 13 t = nI (pB s t) := (R.2.2.1 t ht).2.2.1
theorem RC.pnm (R : RC s c v h) {t : Nat} (ht : t < zP s) : h.1 8 t = nI (pC s t) := (R.2.2.1 t ht).2.2.2
theorem RC.wgt (R : RC s c v h) {t : Nat} (ht : t < zK s) : h.1 15 t = nI (kW s t) := (R.2.2.2.1 t ht).1
theorem RC.knm (R : RC s c v h) {t : Nat} (ht : t < zK s) : h.1 14 t = nI (kC s t) := (R.2.2.2.1 t ht).2
theorem RC.rst (R : RC s c v h) {t : Nat} (ht : t < 36) : h.1 16 t = nI (kR s t) := R.2.2.2.2.1 t ht
theorem RC.kfs (R : RC s c v h) {t : Nat} (ht : t < 7) : h.1 43 t = nI (kF s t) := R.2.2.2.2.2.1 t ht
theorem RC.dfs (R : RC s c v h) {t : Nat} (ht : t < 201) : h.1 44 t = nI (dF s t) := R.2.2.2.2.2.2 t ht
theorem RM.T (R : RM s c v h) : h.1 65 55 = nI (zT s) := R.1.1
theorem RM.P (R : RM s c v h) : h.1 88 1 = nI (zP s) := R.1.2.1
theorem RM.K (R : RM s c v h) : h.1 89 1 = nI (zK s) := R.1.2.2.1
theorem RM.dys (R : RM s c v h) : h.1 87 1 = nI (zD s) := R.1.2.2.2.1
theorem RM.oth (R : RM s c v h) : h.1 90 1 = nI (zO s) := R.1.2.2.2.2
theorem RM.day (R : RM s c v h) {t : Nat} (ht : t < zT s) : h.1 106 t = nI (tD s t) := (R.2.1 t ht).1
theorem RM.knd (R : RM s c v h) {t : Nat} (ht : t < zT s) : h.1 107 t = nI (tK s t) := (R.2.1 t ht).2.1
theorem RM.num (R : RM s c v h) {t : Nat} (ht : t < zT s) : h.1 108 t = nI (tN s t) := (R.2.1 t ht).2.2.1
theorem RM.msk (R : RM s c v h) {t : Nat} (ht : t < zT s) : h.1 109 t = nI (tM s t) := (R.2.1 t ht).2.2.2.1
theorem RM.cts (R : RM s c v h) {t : Nat} (ht : t < zT s) : h.1 110 t = c t := (R.2.1 t ht).2.2.2.2.1
theorem RM.srv (R : RM s c v h) {t : Nat} (ht : t < zT s) : h.1 111 t = v t := (R.2.1 t ht).2.2.2.2.2
theorem RM.shr (R : RM s c v h) {t : Nat} (ht : t < zP s) : h.1 92 (16 + t) = nI (pS s t) := (R.2.2.1 t ht).1
theorem RM.pnm (R : RM s c v h) {t : Nat} (ht : t < zP s) : h.2 91 (16 + t) = lN (pN s t) := (R.2.2.1 t ht).2
theorem RM.wgt (R : RM s c v h) {t : Nat} (ht : t < zK s) : h.1 96 (6 + t) = nI (kW s t) := (R.2.2.2.1 t ht).1
theorem RM.knm (R : RM s c v h) {t : Nat} (ht : t < zK s) : h.2 95 (6 + t) = lN (kN s t) := (R.2.2.2.1 t ht).2
theorem RM.osr (R : RM s c v h) {t : Nat} (ht : t < zO s) : h.1 97 (60 + t) = nI (oS s t) := (R.2.2.2.2 t ht).1
theorem RM.oon (R : RM s c v h) {t : Nat} (ht : t < zO s) : h.1 98 (60 + t) = nI (oA s t) := (R.2.2.2.2 t ht).2.1
theorem RM.otw (R : RM s c v h) {t : Nat} (ht : t < zO s) (h1 : oS s t ≠ 1) : h.1 99 (60 + t) = nI (oB s t) := (R.2.2.2.2 t ht).2.2.1 h1
theorem RM.oth3 (R : RM s c v h) {t : Nat} (ht : t < zO s) (h1 : oS s t = 3) : h.1 100 (60 + t) = nI (oC s t) := (R.2.2.2.2 t ht).2.2.2 h1
theorem OK.T (o : OK s) : zT s ≤ 200 := o.1.1
theorem OK.P (o : OK s) : zP s ≤ 16 := o.1.2.1
theorem OK.K (o : OK s) : zK s ≤ 6 := o.1.2.2.1
theorem OK.D (o : OK s) : zD s ≤ 200 := o.1.2.2.2.1
theorem OK.O (o : OK s) : zO s ≤ 60 := o.1.2.2.2.2.1
theorem OK.Q (o : OK s) : zQ s ≤ 16 := o.1.2.2.2.2.2.1
theorem OK.L (o : OK s) : zL s ≤ 30 := o.1.2.2.2.2.2.2
theorem OK.day (o : OK s) {t : Nat} (ht : t < zT s) : tD s t < zD s := (o.2.1 t ht).1
theorem OK.knd (o : OK s) {t : Nat} (ht : t < zT s) : tK s t < zK s := (o.2.1 t ht).2.1
theorem OK.msk (o : OK s) {t : Nat} (ht : t < zT s) : tM s t < 2 ^ zP s := (o.2.1 t ht).2.2.1
theorem OK.num (o : OK s) {t : Nat} (ht : t < zT s) : tN s t = cnt (fun u => tK s u = tK s t) t := (o.2.1 t ht).2.2.2.1
theorem OK.byk (o : OK s) {t : Nat} (ht : t < zT s) : tB s (kF s (tK s t) + tN s t) = t := (o.2.1 t ht).2.2.2.2.1
theorem OK.byk2 (o : OK s) {t : Nat} (ht : t < zT s) : kF s (tK s t) + tN s t < zT s := (o.2.1 t ht).2.2.2.2.2.1
theorem OK.unt (o : OK s) {t : Nat} (ht : t < zT s) : tU s t = 720720 / mS s (tM s t) (zP s) := (o.2.1 t ht).2.2.2.2.2.2
theorem OK.up (o : OK s) {t u : Nat} (h1 : t ≤ u) (h2 : u < zT s) : tD s t ≤ tD s u := o.2.2.1 t u h1 h2
theorem OK.shr1 (o : OK s) {p : Nat} (hp : p < zP s) : 1 ≤ pS s p := (o.2.2.2.1 p hp).1
theorem OK.shr9 (o : OK s) {p : Nat} (hp : p < zP s) : pS s p ≤ 9 := (o.2.2.2.1 p hp).2.1
theorem OK.apt (o : OK s) {p : Nat} (hp : p < zP s) : pA s p < 2 ^ zP s := (o.2.2.2.1 p hp).2.2.1
theorem OK.bsd (o : OK s) {p : Nat} (hp : p < zP s) : pB s p < 2 ^ zP s := (o.2.2.2.1 p hp).2.2.2.1
theorem OK.pnm (o : OK s) {p : Nat} (hp : p < zP s) : nmR (pN s p) (pC s p) := (o.2.2.2.1 p hp).2.2.2.2
theorem OK.prt (o : OK s) : zQ s = sm (pS s) (zP s) := o.2.2.2.2.1
theorem OK.wgt (o : OK s) {k : Nat} (hk : k < zK s) : kW s k ≤ 9 := (o.2.2.2.2.2.1 k hk).1
theorem OK.knm (o : OK s) {k : Nat} (hk : k < zK s) : nmR (kN s k) (kC s k) := (o.2.2.2.2.2.1 k hk).2.1
theorem OK.kfs (o : OK s) {k : Nat} (hk : k < zK s) : kF s k + cnt (fun u => tK s u = k) (zT s) = kF s (k + 1) := (o.2.2.2.2.2.1 k hk).2.2.1
theorem OK.kfl (o : OK s) {k : Nat} (hk : k < zK s) : kF s (k + 1) ≤ zT s := (o.2.2.2.2.2.1 k hk).2.2.2
theorem OK.dfs (o : OK s) {d : Nat} (hd : d < 201) : dF s d = cnt (fun u => tD s u < d) (zT s) := o.2.2.2.2.2.2.1 d hd
theorem OK.rsl (o : OK s) {i : Nat} (hi : i < 36) : kR s i ≤ zL s := o.2.2.2.2.2.2.2.1 i hi
theorem OK.rst (o : OK s) {a b f : Nat} (ha : a < 6) (hb : b < 6) (hf : 1 ≤ f) : f ≤ kR s (a * 6 + b) ↔ ∃ r, r < zO s ∧ oS s r = 3 ∧ oA s r = a ∧ oB s r = b ∧ f ≤ oC s r := o.2.2.2.2.2.2.2.2.1 a b f ha hb hf
theorem OK.aps (o : OK s) {p q : Nat} (hp : p < zP s) (hq : q < zP s) : (pA s p).testBit q = true ↔ ∃ r, r < zO s ∧ oS s r = 4 ∧ ((oA s r = p ∧ oB s r = q) ∨ (oA s r = q ∧ oB s r = p)) := o.2.2.2.2.2.2.2.2.2.1 p q hp hq
theorem OK.bss (o : OK s) {p q : Nat} (hp : p < zP s) (hq : q < zP s) : (pB s p).testBit q = true ↔ ∃ r, r < zO s ∧ oS s r = 5 ∧ ((oA s r = p ∧ oB s r = q) ∨ (oA s r = q ∧ oB s r = p)) := o.2.2.2.2.2.2.2.2.2.2.1 p q hp hq
theorem OK.oth (o : OK s) {r : Nat} (hr : r < zO s) : oS s r < 6 ∧ oA s r < 16 ∧ oB s r < 16 ∧ oC s r ≤ 30 ∧ (oS s r = 4 ∨ oS s r = 5 → oA s r < zP s ∧ oB s r < zP s ∧ oA s r ≠ oB s r) := o.2.2.2.2.2.2.2.2.2.2.2.1 r hr
theorem OK.own (o : OK s) {p : Nat} (hp : p < zP s) {w : List Nat} (hw : isW w) (e : pN s p = e27 w 0) : ¬ w ∈ owL := o.2.2.2.2.2.2.2.2.2.2.2.2 p hp w hw e
theorem OK.mS16 (o : OK s) (m : Nat) : mS s m (zP s) ≤ 16 := by
  have h1 : mS s m (zP s) ≤ sm (pS s) (zP s) := sm_le (fun i _ => by split <;> omega)
  rw [← o.prt] at h1
  have := o.Q
  omega
theorem OK.msk16 (o : OK s) {t : Nat} (ht : t < zT s) : tM s t < 65536 := Nat.lt_of_lt_of_le (o.msk ht) (Nat.pow_le_pow_right (by decide) o.P : 2 ^ zP s ≤ 2 ^ 16)
end RCP
