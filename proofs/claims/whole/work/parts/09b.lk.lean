/-! ===== THE TABLES ARE BORNE OUT ===== -/
def chkR (f : Nat → ENT → Bool) : Nat → List (Option ENT) → Bool
  | _, [] => true
  | p, none :: r => chkR f (p + 1) r
  | p, some e :: r => f p e && chkR f (p + 1) r
def chkL (f : Nat → ENT → Bool) : Nat → List (List (Option ENT)) → Bool
  | _, [] => true
  | p, r :: l => chkR f p r && chkL f (p + 16) l
theorem chkR_get {f : Nat → ENT → Bool} : ∀ {r : List (Option ENT)} {p b : Nat} {e : ENT}, chkR f p r = true → r[b]? = some (some e) → f (p + b) e = true
  | [], _, _, _, _, h2 => by simp at h2
  | none :: r, p, 0, e, _, h2 => by simp at h2
  | none :: r, p, b + 1, e, h1, h2 => by
    have := chkR_get (r := r) (p := p + 1) (b := b) h1 h2
    rwa [show p + (b + 1) = p + 1 + b by omega]
  | some x :: r, p, 0, e, h1, h2 => by
    have hx : x = e := by simpa using h2
    subst hx
    exact (Bool.and_eq_true _ _ ▸ h1).1
  | some x :: r, p, b + 1, e, h1, h2 => by
    have := chkR_get (r := r) (p := p + 1) (b := b) (Bool.and_eq_true _ _ ▸ h1).2 h2
    rwa [show p + (b + 1) = p + 1 + b by omega]
theorem chkL_get {f : Nat → ENT → Bool} : ∀ {l : List (List (Option ENT))} {p a : Nat} {r : List (Option ENT)}, chkL f p l = true → l[a]? = some r → chkR f (p + 16 * a) r = true
  | [], _, _, _, _, h2 => by simp at h2
  | x :: l, p, 0, r, h1, h2 => by
    have hx : x = r := by simpa using h2
    subst hx
    exact (Bool.and_eq_true _ _ ▸ h1).1
  | x :: l, p, a + 1, r, h1, h2 => by
    have := chkL_get (l := l) (p := p + 16) (a := a) (Bool.and_eq_true _ _ ▸ h1).2 h2
    rwa [show p + 16 * (a + 1) = p + 16 + 16 * a by omega]
theorem lk_chk {f : Nat → ENT → Bool} {l : List (List (Option ENT))} {pc : Nat} {e : ENT} (h : chkL f 0 l = true) (hl : lk l pc = some e) : f pc e = true := by
  unfold lk at hl
  cases h1 : l[pc / 16]? with
  | none => rw [h1] at hl; cases hl
  | some r =>
    rw [h1] at hl
    dsimp only at hl
    cases h2 : r[pc % 16]? with
    | none => rw [h2] at hl; cases hl
    | some x =>
      rw [h2] at hl
      dsimp only at hl
      subst hl
      have := chkR_get (chkL_get h h1) h2
      rwa [Nat.zero_add, Nat.div_add_mod] at this
