/-! ===== A TEXT: its words, numbers and signs ===== -/
/-- the first place from a on, n at most, where P fails -/
def reN (P : Nat → Bool) (n : Nat) : Nat → Nat → Nat
  | 0, a => a
  | f + 1, a => if a < n ∧ P a = true then reN P n f (a + 1) else a
def re (P : Nat → Bool) (n a : Nat) : Nat := reN P n (n - a) a
section RE
variable {P : Nat → Bool} {n : Nat}
theorem reN_p : ∀ f a, a ≤ n → n ≤ a + f → a ≤ reN P n f a ∧ reN P n f a ≤ n ∧ (∀ k, a ≤ k → k < reN P n f a → P k = true) ∧ (reN P n f a < n → P (reN P n f a) = false)
  | 0, a, h1, h2 => by
    unfold reN
    exact ⟨Nat.le_refl _, h1, fun k z1 z2 => absurd z2 (by omega), fun z => absurd z (by omega)⟩
  | f + 1, a, h1, h2 => by
    unfold reN
    by_cases c : a < n ∧ P a = true
    · rw [if_pos c]
      obtain ⟨i1, i2, i3, i4⟩ := reN_p f (a + 1) (by omega) (by omega)
      refine ⟨by omega, i2, fun k z1 z2 => ?_, i4⟩
      by_cases e : k = a
      · rw [e]; exact c.2
      · exact i3 k (by omega) z2
    · rw [if_neg c]
      refine ⟨Nat.le_refl _, h1, fun k z1 z2 => absurd z2 (by omega), fun z => ?_⟩
      cases e : P a with
      | false => rfl
      | true => exact absurd ⟨z, e⟩ c
theorem re_ge {a : Nat} (h : a ≤ n) : a ≤ re P n a := (reN_p (n - a) a h (by omega)).1
theorem re_le {a : Nat} (h : a ≤ n) : re P n a ≤ n := (reN_p (n - a) a h (by omega)).2.1
theorem re_in {a k : Nat} (h : a ≤ n) (h1 : a ≤ k) (h2 : k < re P n a) : P k = true := (reN_p (n - a) a h (by omega)).2.2.1 k h1 h2
theorem re_out {a : Nat} (h : a ≤ n) (h2 : re P n a < n) : P (re P n a) = false := (reN_p (n - a) a h (by omega)).2.2.2 h2
theorem re_uq {a e : Nat} (h : a ≤ e) (he : e ≤ n) (h1 : ∀ k, a ≤ k → k < e → P k = true) (h2 : e < n → P e = false) : re P n a = e := by
  have a1 := re_ge (P := P) (show a ≤ n by omega)
  have a2 := re_le (P := P) (show a ≤ n by omega)
  rcases Nat.lt_trichotomy (re P n a) e with z | z | z
  · have := re_out (P := P) (show a ≤ n by omega) (by omega)
    rw [h1 _ a1 z] at this; cases this
  · exact z
  · have := re_in (P := P) (show a ≤ n by omega) h z
    rw [h2 (by omega)] at this; cases this
theorem re_self {a : Nat} (h : a ≤ n) (h2 : a < n → P a = false) : re P n a = a := re_uq (Nat.le_refl _) h (fun k z1 z2 => absurd z2 (by omega)) h2
theorem re_step {a : Nat} (h : a < n) (h2 : P a = true) : re P n a = re P n (a + 1) := by
  have h3 : a + 1 ≤ n := h
  have a1 := re_ge (P := P) h3
  refine re_uq (by omega) (re_le h3) (fun k z1 z2 => ?_) (fun z => re_out h3 z)
  by_cases e : k = a
  · rw [e]; exact h2
  · exact re_in h3 (by omega) z2
theorem re_n : re P n n = n := re_self (Nat.le_refl _) (fun z => absurd z (by omega))
theorem re_mid {a k : Nat} (h : a ≤ n) (h1 : a ≤ k) (h2 : k ≤ re P n a) : re P n k = re P n a := re_uq h2 (re_le h) (fun q z1 z2 => re_in h (by omega) z2) (fun z => re_out h z)
end RE
def ltB (b : Nat → Nat) (k : Nat) : Bool := decide (97 ≤ b k) && decide (b k ≤ 122)
def dgB (b : Nat → Nat) (k : Nat) : Bool := decide (48 ≤ b k) && decide (b k ≤ 57)
def blB (b : Nat → Nat) (k : Nat) : Bool := decide (b k = 10) || decide (b k = 32)
def sk (b : Nat → Nat) (n a : Nat) : Nat := re (blB b) n a
/-- the end of what begins at p -/
def te (b : Nat → Nat) (n p : Nat) : Nat := if ltB b p = true then re (ltB b) n p else if dgB b p = true then re (dgB b) n p else p + 1
/-- the places of words, numbers, signs -/
def ps (b : Nat → Nat) (n : Nat) : Nat → Nat
  | 0 => sk b n 0
  | i + 1 => if ps b n i < n then sk b n (te b n (ps b n i)) else n
def wnB (b : Nat → Nat) (k : Nat) : Bool := ltB b k || dgB b k
/-- whether a blank lacks ahead of it -/
def jn (b : Nat → Nat) (n : Nat) : Nat → Bool
  | 0 => false
  | i + 1 => decide (ps b n i < n) && wnB b (ps b n i) && decide (ps b n (i + 1) = te b n (ps b n i))
def wd (b : Nat → Nat) (p k : Nat) : List Nat := (List.range k).map (fun j => b (p + j) - 96)
def ow (k : Nat) : List Nat := owL.getD k []
/-- which own word it is, 20 if none -/
def ox (w : List Nat) : Nat := re (fun k => !decide (w = ow k)) 20 0
def dc (b : Nat → Nat) (p : Nat) : Nat → Nat
  | 0 => 0
  | k + 1 => 10 * dc b p k + (b (p + k) - 48)
/-- how long what begins at p is -/
def tl (b : Nat → Nat) (n p : Nat) : Nat := te b n p - p
def sP (b : Nat → Nat) (n p : Nat) (j : Bool) : Nat := if n ≤ p then 0 else if ltB b p = true then (if j = true then 7 else if ox (wd b p (tl b n p)) < 20 then 3 else if 6 < tl b n p then 2 else 1) else if dgB b p = true then (if j = true then 7 else if 4 < tl b n p then 5 else 4) else 6
def vP (b : Nat → Nat) (n p : Nat) (j : Bool) : Nat := if n ≤ p then 0 else if ltB b p = true then (if j = true then 0 else if ox (wd b p (tl b n p)) < 20 then ox (wd b p (tl b n p)) else if 6 < tl b n p then 0 else e32 (wd b p (tl b n p))) else if dgB b p = true then (if j = true then 0 else if 4 < tl b n p then 0 else dc b p (tl b n p)) else b p
def tS (b : Nat → Nat) (n i : Nat) : Nat := sP b n (ps b n i) (jn b n i)
def tV (b : Nat → Nat) (n i : Nat) : Nat := vP b n (ps b n i) (jn b n i)
section TXT
variable {b : Nat → Nat} {n : Nat}
theorem ltB_i {k : Nat} : ltB b k = true ↔ 97 ≤ b k ∧ b k ≤ 122 := by unfold ltB; simp
theorem dgB_i {k : Nat} : dgB b k = true ↔ 48 ≤ b k ∧ b k ≤ 57 := by unfold dgB; simp
theorem blB_i {k : Nat} : blB b k = true ↔ b k = 10 ∨ b k = 32 := by unfold blB; simp
theorem lt_dg {k : Nat} (h : ltB b k = true) : dgB b k = false := by
  cases e : dgB b k with
  | false => rfl
  | true => rw [ltB_i] at h; rw [dgB_i] at e; omega
theorem lt_bl {k : Nat} (h : ltB b k = true) : blB b k = false := by
  cases e : blB b k with
  | false => rfl
  | true => rw [ltB_i] at h; rw [blB_i] at e; omega
theorem dg_bl {k : Nat} (h : dgB b k = true) : blB b k = false := by
  cases e : blB b k with
  | false => rfl
  | true => rw [dgB_i] at h; rw [blB_i] at e; omega
theorem te_gt {p : Nat} (h : p < n) : p < te b n p := by
  unfold te
  split
  · rename_i z; rw [re_step h z]; exact re_ge h
  · split
    · rename_i z; rw [re_step h z]; exact re_ge h
    · omega
theorem te_le {p : Nat} (h : p < n) : te b n p ≤ n := by
  unfold te
  split
  · exact re_le (Nat.le_of_lt h)
  · split
    · exact re_le (Nat.le_of_lt h)
    · exact h
theorem sk_le {a : Nat} (h : a ≤ n) : sk b n a ≤ n := re_le h
theorem sk_ge {a : Nat} (h : a ≤ n) : a ≤ sk b n a := re_ge h
theorem ps_le : ∀ i, ps b n i ≤ n
  | 0 => sk_le (Nat.zero_le _)
  | i + 1 => by
    unfold ps
    split
    · rename_i z; exact sk_le (te_le z)
    · exact Nat.le_refl _
theorem ps_s {i : Nat} (h : ps b n i < n) : ps b n (i + 1) = sk b n (te b n (ps b n i)) := by
  show (if ps b n i < n then _ else _) = _
  rw [if_pos h]
theorem ps_end {i : Nat} (h : ps b n i = n) : ∀ k, ps b n (i + k) = n
  | 0 => h
  | k + 1 => by
    show (if ps b n (i + k) < n then _ else _) = _
    rw [ps_end h k, if_neg (Nat.lt_irrefl _)]
theorem ps_mono {i : Nat} (h : ps b n i < n) : ps b n i < ps b n (i + 1) := by
  rw [ps_s h]
  exact Nat.lt_of_lt_of_le (te_gt h) (sk_ge (te_le h))
theorem ps_nb {i : Nat} (h : ps b n i < n) : blB b (ps b n i) = false := by
  cases i with
  | zero => exact re_out (Nat.zero_le _) h
  | succ i =>
    have h' := h
    unfold ps at h'
    by_cases c : ps b n i < n
    · rw [ps_s c] at h ⊢
      exact re_out (te_le c) h
    · rw [if_neg c] at h'; omega
theorem ps_i : ∀ i, (∀ k, k < i → ps b n k < n) → i ≤ ps b n i
  | 0, _ => Nat.zero_le _
  | i + 1, h => by
    have h1 := ps_i i (fun k hk => h k (by omega))
    have h2 := ps_mono (h i (by omega))
    omega
theorem sk_ps (i : Nat) : sk b n (ps b n i) = ps b n i := re_self (ps_le i) (fun z => ps_nb z)
theorem wd_len (p k : Nat) : (wd b p k).length = k := by unfold wd; simp
theorem wd_s (p k : Nat) : wd b p (k + 1) = wd b p k ++ [b (p + k) - 96] := by
  unfold wd
  rw [List.range_succ, List.map_append]
  rfl
theorem wd_get {p k j : Nat} (h : j < k) : (wd b p k).getD j 0 = b (p + j) - 96 := by
  unfold wd
  rw [List.getD_eq_getElem?_getD, List.getElem?_map, List.getElem?_range h]
  rfl
theorem e27_sn : ∀ (l : List Nat) (x a : Nat), e27 (l ++ [x]) a = 27 * e27 l a + x
  | [], x, a => rfl
  | y :: l, x, a => e27_sn l x (27 * a + y)
theorem e32_sn : ∀ (l : List Nat) (x : Nat), e32 (l ++ [x]) = e32 l + x * 32 ^ l.length
  | [], x => by show x + 32 * 0 = 0 + x * 1; omega
  | y :: l, x => by
    show y + 32 * e32 (l ++ [x]) = y + 32 * e32 l + x * 32 ^ (l.length + 1)
    rw [e32_sn l x, Nat.mul_add, Nat.pow_succ, Nat.mul_comm (32 ^ l.length) 32, ← Nat.mul_assoc x, Nat.mul_comm x 32, Nat.mul_assoc, Nat.add_assoc]
theorem wd_isW {p k : Nat} (h1 : 1 ≤ k) (h6 : k ≤ 6) (h : ∀ j, j < k → ltB b (p + j) = true) : isW (wd b p k) := by
  refine ⟨by rw [wd_len]; exact h1, by rw [wd_len]; exact h6, fun x hx => ?_⟩
  unfold wd at hx
  rw [List.mem_map] at hx
  obtain ⟨j, hj, rfl⟩ := hx
  have := h j (List.mem_range.mp hj)
  rw [ltB_i] at this
  omega
theorem lt_te {p : Nat} (hp : p < n) (h : ltB b p = true) : te b n p = re (ltB b) n p := by unfold te; rw [if_pos h]
theorem dg_te {p : Nat} (h : dgB b p = true) : te b n p = re (dgB b) n p := by
  unfold te
  rw [if_neg (by intro z; rw [lt_dg z] at h; cases h), if_pos h]
theorem sg_te {p : Nat} (h : wnB b p = false) : te b n p = p + 1 := by
  unfold wnB at h
  rw [Bool.or_eq_false_iff] at h
  unfold te
  rw [if_neg (by rw [h.1]; decide), if_neg (by rw [h.2]; decide)]
/-- letters of a word -/
theorem lt_all {p : Nat} (hp : p < n) (h : ltB b p = true) {j : Nat} (hj : j < tl b n p) : ltB b (p + j) = true := by
  unfold tl at hj
  rw [lt_te hp h] at hj
  exact re_in (Nat.le_of_lt hp) (by omega) (by omega)
theorem dg_all {p : Nat} (hp : p < n) (h : dgB b p = true) {j : Nat} (hj : j < tl b n p) : dgB b (p + j) = true := by
  unfold tl at hj
  rw [dg_te h] at hj
  exact re_in (Nat.le_of_lt hp) (by omega) (by omega)
theorem tl_pos {p : Nat} (h : p < n) : 1 ≤ tl b n p := by have := te_gt (b := b) h; unfold tl; omega
theorem ox_le (w : List Nat) : ox w ≤ 20 := re_le (by decide)
theorem ox_ne {w : List Nat} {k : Nat} (h : k < ox w) : w ≠ ow k := by
  have := re_in (P := fun k => !decide (w = ow k)) (n := 20) (a := 0) (by decide) (Nat.zero_le k) h
  simpa using this
theorem ox_eq {w : List Nat} (h : ox w < 20) : w = ow (ox w) := by
  have := re_out (P := fun k => !decide (w = ow k)) (n := 20) (a := 0) (by decide) h
  have z : (!decide (w = ow (ox w))) = false := this
  simpa using z
theorem ox_uq {w : List Nat} {k : Nat} (hk : k ≤ 20) (h1 : ∀ q, q < k → w ≠ ow q) (h2 : k < 20 → w = ow k) : ox w = k := re_uq (Nat.zero_le _) hk (fun q _ hq => by simpa using h1 q hq) (fun z => by simpa using h2 z)
theorem ow_dist : ∀ k, k < 20 → ∀ j, j < 20 → ow k = ow j → k = j := by decide
theorem ox_ow {k : Nat} (hk : k < 20) : ox (ow k) = k := ox_uq (by omega) (fun q hq e => by have := ow_dist k hk q (by omega) e; omega) (fun _ => rfl)
theorem ow_mem {w : List Nat} (h : w ∈ owL) : ox w < 20 := by
  obtain ⟨i, hi, e⟩ := List.getElem_of_mem h
  have hi' : i < 20 := hi
  have : ow i = w := by unfold ow; rw [List.getD_eq_getElem?_getD, List.getElem?_eq_getElem hi]; exact e
  rw [← this, ox_ow hi']
  exact hi'
theorem ow_in : ∀ k, k < 20 → ow k ∈ owL := by decide
theorem ox_mem {w : List Nat} (h : ox w < 20) : w ∈ owL := by rw [ox_eq h]; exact ow_in _ h
/-- a name's two numbers tell the same -/
theorem e32_inj : ∀ (l m : List Nat), (∀ x, x ∈ l → 1 ≤ x ∧ x ≤ 26) → (∀ x, x ∈ m → 1 ≤ x ∧ x ≤ 26) → e32 l = e32 m → l = m
  | [], [], _, _, _ => rfl
  | [], y :: m, _, h2, e => by
    have := h2 y (by simp)
    have e : 0 = y + 32 * e32 m := e
    omega
  | x :: l, [], h1, _, e => by
    have := h1 x (by simp)
    have e : x + 32 * e32 l = 0 := e
    omega
  | x :: l, y :: m, h1, h2, e => by
    have a1 := h1 x (by simp)
    have a2 := h2 y (by simp)
    have e : x + 32 * e32 l = y + 32 * e32 m := e
    have e1 : x = y := by omega
    have e2 : e32 l = e32 m := by omega
    rw [e1, e32_inj l m (fun z hz => h1 z (by simp [hz])) (fun z hz => h2 z (by simp [hz])) e2]
theorem lsn (l : List Nat) : l = [] ∨ ∃ l' x, l = l' ++ [x] := by
  rcases List.eq_nil_or_concat l with h | ⟨l', x, h⟩
  · exact Or.inl h
  · exact Or.inr ⟨l', x, by rw [h, List.concat_eq_append]⟩
theorem e27_inj : ∀ (f : Nat) (l m : List Nat), l.length ≤ f → (∀ x, x ∈ l → 1 ≤ x ∧ x ≤ 26) → (∀ x, x ∈ m → 1 ≤ x ∧ x ≤ 26) → e27 l 0 = e27 m 0 → l = m := by
  intro f
  induction f with
  | zero =>
    intro l m hl h1 h2 e
    have : l = [] := List.length_eq_zero_iff.mp (by omega)
    subst this
    rcases lsn m with rfl | ⟨m', y, rfl⟩
    · rfl
    · rw [e27_sn] at e
      have := h2 y (by simp)
      have e : 0 = 27 * e27 m' 0 + y := e
      omega
  | succ f ih =>
    intro l m hl h1 h2 e
    rcases lsn l with rfl | ⟨l', x, rfl⟩
    · rcases lsn m with rfl | ⟨m', y, rfl⟩
      · rfl
      · rw [e27_sn] at e
        have := h2 y (by simp)
        have e : 0 = 27 * e27 m' 0 + y := e
        omega
    · rcases lsn m with rfl | ⟨m', y, rfl⟩
      · rw [e27_sn] at e
        have := h1 x (by simp)
        have e : 27 * e27 l' 0 + x = 0 := e
        omega
      · rw [e27_sn, e27_sn] at e
        have a1 := h1 x (by simp)
        have a2 := h2 y (by simp)
        have e1 : x = y := by omega
        have e2 : e27 l' 0 = e27 m' 0 := by omega
        rw [e1, ih l' m' (by simp at hl; omega) (fun z hz => h1 z (by simp [hz])) (fun z hz => h2 z (by simp [hz])) e2]
theorem nm_eq {w : List Nat} (hw : isW w) {a c : Nat} (h : nmR a c) : a = e27 w 0 ↔ c = e32 w := by
  obtain ⟨u, hu, rfl, rfl⟩ := h
  constructor
  · intro e; rw [e27_inj u.length u w (Nat.le_refl _) hu.2.2 hw.2.2 e]
  · intro e; rw [e32_inj u w hu.2.2 hw.2.2 e]
theorem dc_lt {p : Nat} : ∀ k, (∀ j, j < k → dgB b (p + j) = true) → dc b p k < 10 ^ k
  | 0, _ => by show 0 < 1; decide
  | k + 1, h => by
    have ih := dc_lt k (fun j hj => h j (by omega))
    have := h k (by omega)
    rw [dgB_i] at this
    show 10 * dc b p k + _ < 10 ^ (k + 1)
    rw [Nat.pow_succ]
    omega
end TXT
