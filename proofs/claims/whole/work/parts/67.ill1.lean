/-! ===== ILL: choosing for turns one behind another ===== -/
def brd (s : ST) (u t q p : Nat) : Bool := if tD s u = tD s t then decide (p = q) || (pA s q).testBit p else asks s u t && decide (p = q)
def asg (tt : Nat → Nat) (f : RT) (ch : Nat → Nat) : Nat → RT
  | 0 => f
  | k + 1 => upd (asg tt f ch k) (tt k) (nI (ch k))
section ILL1
variable {s : ST} {v : RT} {u t p q : Nat}
theorem bIf_zero (t p : Nat) : bIf s v t p = 0 ↔ (tM s t).testBit p = true ∧ oth s v p t = false ∧ rsB s v p t = false ∧ apB s v p t = false := by
  constructor
  · intro h
    cases h1 : (tM s t).testBit p with
    | false => rw [bIf_2 h1] at h; cases h
    | true =>
      cases h2 : oth s v p t with
      | true => rw [bIf_3 h1 h2] at h; cases h
      | false =>
        cases h3 : rsB s v p t with
        | true => rw [bIf_4 h1 h2 h3] at h; cases h
        | false =>
          cases h4 : apB s v p t with
          | true => rw [bIf_5 h1 h2 h3 h4] at h; cases h
          | false => exact ⟨rfl, rfl, rfl, rfl⟩
  · rintro ⟨h1, h2, h3, h4⟩; exact bIf_0 h1 h2 h3 h4
/-- one open turn ahead gets somebody -/
theorem bif_upd (o : OK s) (hu : u < zT s) (ht : t < zT s) (hut : u < t) (hv : v u = -1) (hp : p < zP s) (hq : q < zP s) : bIf s (upd v u (nI q)) t p = 0 ↔ bIf s v t p = 0 ∧ brd s u t q p = false := by
  have hP := o.P
  have hT := o.T
  have hd := o.up (Nat.le_of_lt hut) ht
  have eo : ∀ r, r < zP s → (oth s (upd v u (nI q)) r t = true ↔ oth s v r t = true ∨ (tD s u = tD s t ∧ q = r)) := by
    intro r hr
    rw [svo_iff, svo_iff]
    constructor
    · rintro ⟨w, a1, a2, a3, a4⟩
      by_cases e : w = u
      · subst e
        rw [pk_us, nI_eq (by omega) (by omega)] at a4
        exact Or.inr ⟨a3, a4⟩
      · rw [pk_un e] at a4
        exact Or.inl ⟨w, a1, a2, a3, a4⟩
    · rintro (⟨w, a1, a2, a3, a4⟩ | ⟨a1, a2⟩)
      · refine ⟨w, a1, a2, a3, ?_⟩
        by_cases e : w = u
        · subst e
          rw [hv] at a4
          exact absurd a4 (fun z => (nI_m1' (by omega)).mp z)
        · rw [pk_un e]; exact a4
      · exact ⟨u, hu, by rw [nI_eq (by omega) (by omega)]; omega, a1, by rw [pk_us, a2]⟩
  have er : rsB s (upd v u (nI q)) p t = true ↔ rsB s v p t = true ∨ (tD s u < tD s t ∧ q = p ∧ asks s u t = true) := by
    unfold rsB
    rw [anyB_iff, anyB_iff]
    simp only [Bool.and_eq_true, decide_eq_true_eq]
    constructor
    · rintro ⟨w, a1, ⟨a2, a3⟩, a4⟩
      by_cases e : w = u
      · subst e
        rw [pk_us, nI_eq (by omega) (by omega)] at a3
        exact Or.inr ⟨a2, a3, a4⟩
      · rw [pk_un e] at a3
        exact Or.inl ⟨w, a1, ⟨a2, a3⟩, a4⟩
    · rintro (⟨w, a1, ⟨a2, a3⟩, a4⟩ | ⟨a1, a2, a3⟩)
      · refine ⟨w, a1, ⟨a2, ?_⟩, a4⟩
        by_cases e : w = u
        · subst e
          rw [hv] at a3
          exact absurd a3 (fun z => (nI_m1' (by omega)).mp z)
        · rw [pk_un e]; exact a3
      · exact ⟨u, hu, ⟨a1, by rw [pk_us, a2]⟩, a3⟩
  have ea : apB s (upd v u (nI q)) p t = true ↔ apB s v p t = true ∨ (tD s u = tD s t ∧ (pA s q).testBit p = true) := by
    unfold apB
    rw [anyB_iff, anyB_iff]
    simp only [Bool.and_eq_true]
    constructor
    · rintro ⟨r, a1, a2, a3⟩
      rcases (eo r a1).mp a3 with z | ⟨z1, z2⟩
      · exact Or.inl ⟨r, a1, a2, z⟩
      · rw [← z2] at a2
        exact Or.inr ⟨z1, by rw [pA_symm o hq hp]; exact a2⟩
    · rintro (⟨r, a1, a2, a3⟩ | ⟨a1, a2⟩)
      · exact ⟨r, a1, a2, (eo r a1).mpr (Or.inl a3)⟩
      · exact ⟨q, hq, by rw [pA_symm o hp hq]; exact a2, (eo q hq).mpr (Or.inr ⟨a1, rfl⟩)⟩
  rw [bIf_zero, bIf_zero]
  have f1 : ∀ b : Bool, b = false ↔ ¬ b = true := fun b => by cases b <;> simp
  rw [f1 (oth s (upd v u (nI q)) p t), f1 (rsB s (upd v u (nI q)) p t), f1 (apB s (upd v u (nI q)) p t), eo p hp, er, ea, f1 (oth s v p t), f1 (rsB s v p t), f1 (apB s v p t), f1 (brd s u t q p)]
  have hb : brd s u t q p = true ↔ (tD s u = tD s t ∧ q = p) ∨ (tD s u < tD s t ∧ q = p ∧ asks s u t = true) ∨ (tD s u = tD s t ∧ (pA s q).testBit p = true) := by
    unfold brd
    by_cases e : tD s u = tD s t
    · rw [if_pos e, Bool.or_eq_true, decide_eq_true_eq]
      constructor
      · rintro (z | z)
        · exact Or.inl ⟨e, z.symm⟩
        · exact Or.inr (Or.inr ⟨e, z⟩)
      · rintro (⟨_, z⟩ | ⟨z, _⟩ | ⟨_, z⟩)
        · exact Or.inl z.symm
        · omega
        · exact Or.inr z
    · rw [if_neg e, Bool.and_eq_true, decide_eq_true_eq]
      constructor
      · rintro ⟨z1, z2⟩; exact Or.inr (Or.inl ⟨by omega, z2.symm, z1⟩)
      · rintro (⟨z, _⟩ | ⟨_, z1, z2⟩ | ⟨z, _⟩)
        · exact absurd z e
        · exact ⟨z2, z1.symm⟩
        · exact absurd z e
  rw [hb]
  constructor
  · rintro ⟨h1, h2, h3, h4⟩
    exact ⟨⟨h1, fun z => h2 (Or.inl z), fun z => h3 (Or.inl z), fun z => h4 (Or.inl z)⟩, fun z => z.elim (fun w => h2 (Or.inr w)) (fun w => w.elim (fun y => h3 (Or.inr y)) (fun y => h4 (Or.inr y)))⟩
  · rintro ⟨⟨h1, h2, h3, h4⟩, h5⟩
    exact ⟨h1, fun z => z.elim h2 (fun w => h5 (Or.inl w)), fun z => z.elim h3 (fun w => h5 (Or.inr (Or.inl w))), fun z => z.elim h4 (fun w => h5 (Or.inr (Or.inr w)))⟩
end ILL1
/-! the turns of the ill one: m of them, tt 0 .. tt (m - 1), open in c, v -/
section ILL2
variable {s : ST} {c v : RT} {tt : Nat → Nat} {m x : Nat}
def tOK (s : ST) (tt : Nat → Nat) (m : Nat) (v : RT) : Prop := m ≤ 6 ∧ (∀ n, n < m → tt n < zT s ∧ v (tt n) = -1) ∧ ∀ a b, a < b → b < m → tt a < tt b
theorem asg_o (f : RT) (ch : Nat → Nat) : ∀ k t, (∀ d, d < k → t ≠ tt d) → asg tt f ch k t = f t
  | 0, _, _ => rfl
  | k + 1, t, h => by
    show upd _ _ _ t = _
    rw [pk_un (h k (by omega)), asg_o f ch k t (fun d hd => h d (by omega))]
theorem asg_at (T : tOK s tt m v) (f : RT) (ch : Nat → Nat) : ∀ k d, d < k → k ≤ m → asg tt f ch k (tt d) = nI (ch d)
  | 0, d, h, _ => absurd h (by omega)
  | k + 1, d, h, hk => by
    show upd _ _ _ _ = _
    by_cases e : d = k
    · subst e; exact pk_us
    · have := T.2.2 d k (by omega) (by omega)
      rw [pk_un (by omega), asg_at T f ch k d (by omega) (by omega)]
theorem asg_congr (f : RT) {ch ch' : Nat → Nat} : ∀ k, (∀ d, d < k → ch d = ch' d) → asg tt f ch k = asg tt f ch' k
  | 0, _ => rfl
  | k + 1, h => by
    show upd _ _ _ = upd _ _ _
    rw [asg_congr f k (fun d hd => h d (by omega)), h k (by omega)]
/-- who is left for turn n once k are chosen -/
def lft (s : ST) (v : RT) (tt : Nat → Nat) (x : Nat) (ch : Nat → Nat) (k n p : Nat) : Bool := ablB s v (tt n) p && decide (p ≠ x) && !anyB (fun d => brd s (tt d) (tt n) (ch d) p) k
theorem bif_asg (o : OK s) (T : tOK s tt m v) {ch : Nat → Nat} {p : Nat} (hp : p < zP s) : ∀ k n, k ≤ n → n < m → (∀ d, d < k → ch d < zP s) → (bIf s (asg tt v ch k) (tt n) p = 0 ↔ bIf s v (tt n) p = 0 ∧ anyB (fun d => brd s (tt d) (tt n) (ch d) p) k = false)
  | 0, n, _, _, _ => by
    show bIf s v (tt n) p = 0 ↔ bIf s v (tt n) p = 0 ∧ false = false
    simp
  | k + 1, n, h1, h2, h3 => by
    have ih := bif_asg o T (ch := ch) hp k n (by omega) h2 (fun d hd => h3 d (by omega))
    have hk := T.2.1 k (by omega)
    have hn := T.2.1 n h2
    have ho : asg tt v ch k (tt k) = -1 := by
      rw [asg_o v ch k (tt k) (fun d hd => by have := T.2.2 d k hd (by omega); omega)]
      exact hk.2
    show bIf s (upd (asg tt v ch k) (tt k) (nI (ch k))) (tt n) p = 0 ↔ _
    rw [bif_upd o hk.1 hn.1 (T.2.2 k n (by omega) h2) ho hp (h3 k (by omega)), ih]
    show _ ↔ _ ∧ (anyB _ k || _) = false
    rw [Bool.or_eq_false_iff, and_assoc]
/-- a candidate for turn k -/
def cnd (s : ST) (v : RT) (tt : Nat → Nat) (x : Nat) (ch : Nat → Nat) (k p : Nat) : Bool := decide (p < zP s) && decide (p ≠ x) && decide (bIf s (asg tt v ch k) (tt k) p = 0)
theorem cnd_lft (o : OK s) (T : tOK s tt m v) {ch : Nat → Nat} {k : Nat} (hk : k < m) (hc : ∀ d, d < k → ch d < zP s) (p : Nat) : cnd s v tt x ch k p = lft s v tt x ch k k p := by
  unfold cnd lft ablB
  by_cases hp : p < zP s
  · have := bif_asg o T (ch := ch) hp k k (Nat.le_refl _) hk hc
    apply Bool.eq_iff_iff.mpr
    simp only [Bool.and_eq_true, decide_eq_true_eq, Bool.not_eq_true', this]
    constructor
    · rintro ⟨⟨h1, h2⟩, h3, h4⟩; exact ⟨⟨⟨h1, h3⟩, h2⟩, h4⟩
    · rintro ⟨⟨⟨h1, h3⟩, h2⟩, h4⟩; exact ⟨⟨h1, h2⟩, h3, h4⟩
  · simp [hp]
/-! the search -/
abbrev RS : Type := Option (Nat → Nat) × Nat
def upN (ch : Nat → Nat) (k p : Nat) : Nat → Nat := fun i => if i = k then p else ch i
def fitB (s : ST) (c : RT) (tt : Nat → Nat) (m : Nat) (bd : Int64) (ch : Nat → Nat) : Bool := decide (¬ bd < (wsk s (asg tt c ch m) (zK s)).1)
def goL (cn : Nat → Bool) (nx : Nat → Nat → RS) : Nat → Nat → Nat → RS
  | 0, _, w => (none, w)
  | f + 1, p, w => if 2000 ≤ w then (none, w) else if cn p = true then (if (nx p w).1 = none then goL cn nx f (p + 1) (nx p w).2 else nx p w) else goL cn nx f (p + 1) w
end ILL2
