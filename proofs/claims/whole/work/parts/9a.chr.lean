/-! ===== NO RUN CHANGES A ROW OF CHARS ===== -/
def SCh (sh : Nat → SH) (h h' : HP) : Prop := ∀ k n, sh k = .inl (2, n) → h'.1 k = h.1 k
section CHR
variable {sh : Nat → SH} {pc : Nat} {L S : List Value} {h : HP} {K K' : KT} {C C' : CT} {Q Q' : QT}
theorem SCh.rfl (sh : Nat → SH) (h : HP) : SCh sh h h := fun _ _ _ => Eq.refl _
theorem SCh.trans {a b c : HP} (h1 : SCh sh a b) (h2 : SCh sh b c) : SCh sh a c := fun k n e => (h2 k n e).trans (h1 k n e)
theorem SCh.r {k i : Nat} {x : Int32} {q : Nat × List Nat} (e : sh k = .inr q) : SCh sh h (wI h k i x) := fun k' n e' => by
  refine wI_ne h i x (fun z => ?_)
  rw [z, e] at e'
  cases e'
theorem SCh.i {k i m : Nat} {x : Int32} (e : sh k = .inl (0, m)) : SCh sh h (wI h k i x) := fun k' n e' => by
  refine wI_ne h i x (fun z => ?_)
  rw [z, e] at e'
  cases e'
theorem SCh.b {k i m : Nat} {x : Int32} (e : sh k = .inl (3, m)) : SCh sh h (wI h k i x) := fun k' n e' => by
  refine wI_ne h i x (fun z => ?_)
  rw [z, e] at e'
  cases e'
theorem SCh.j {k i : Nat} {x : Int64} : SCh sh h (wJ h k i x) := fun _ _ _ => Eq.refl _
theorem SCh.c {k k2 a d m q : Nat} (e : sh k2 = .inl (0, q)) : SCh sh h (wC h k k2 a d m) := fun k' n e' => by
  have z : k' ≠ k2 := fun z => by rw [z, e] at e'; cases e'
  simp [wC, va_up, z]
set_option maxHeartbeats 4000000 in
theorem st1_chr (E : ENT) (hK : ∀ a b c d, SCh sh h d → K a b c d → K' a b c d) (hC : ∀ j as k k', (∀ v h', SCh sh h h' → k v h' → k' v h') → C j as h k → C' j as h k') (hQ : ∀ v, Q v h → Q' v h) (hs : st1 sh E pc L S h K C Q) : st1 sh E pc L S h K' C' Q' := by
  obtain ⟨ins, len, a, b, c, q, vi, vl⟩ := E
  unfold st1 at hs ⊢
  revert hs
  have k0 : ∀ a b c, K a b c h → K' a b c h := fun a b c => hK a b c h (SCh.rfl sh h)
  cases ins
  case ifCond cond off => cases cond <;> dsimp only <;> (split <;> first | exact fun hs => ⟨fun z => k0 _ _ _ (hs.1 z), fun z => k0 _ _ _ (hs.2 z)⟩ | exact fun hs => hs)
  case if_icmp cond off => cases cond <;> dsimp only <;> (split <;> first | exact fun hs => ⟨fun z => k0 _ _ _ (hs.1 z), fun z => k0 _ _ _ (hs.2 z)⟩ | exact fun hs => hs)
  case getfield i => dsimp only; (repeat' (first | exact fun hs => hs | exact fun hs => k0 _ _ _ hs | refine bif_mono ?_ ?_ | split))
  case putfield i => dsimp only; (repeat' (first | exact fun hs => hs | exact fun hs => hK _ _ _ _ SCh.j hs | exact fun hs => hK _ _ _ _ (SCh.r (by assumption)) hs | refine bif_mono ?_ ?_ | split))
  case iastore => dsimp only; (repeat' (first | exact fun hs => hs | exact fun hs => ⟨hs.1, hK _ _ _ _ (SCh.i (by assumption)) hs.2⟩ | split))
  case bastore => dsimp only; (repeat' (first | exact fun hs => hs | exact fun hs => ⟨hs.1, hK _ _ _ _ (SCh.b (by assumption)) hs.2⟩ | split))
  case lastore => dsimp only; (repeat' (first | exact fun hs => hs | exact fun hs => ⟨hs.1, hK _ _ _ _ SCh.j hs.2⟩ | split))
  case invokevirtual i =>
    dsimp only
    refine bif_mono ?_ ?_
    · split
      · refine bif_mono (fun hs => ⟨hs.1, bif_mono (k0 _ _ _) id hs.2⟩) id
      · exact id
    · split
      · split
        · exact bif_mono (bif_mono (hC _ _ _ _ (fun v h' z => hK _ _ _ _ z)) id) id
        · exact id
      · exact id
  case invokestatic i =>
    dsimp only
    refine bif_mono ?_ ?_
    · split
      · split
        · exact fun hs => ⟨hs.1, bif_mono (hK _ _ _ _ (SCh.c (by assumption))) id hs.2⟩
        · exact id
      · exact id
    · exact bif_mono (bif_mono (hC _ _ _ _ (fun v h' z => hK _ _ _ _ z)) id) id
  case ireturn => dsimp only; (split; exact bif_mono (fun hs => ⟨hs.1, hQ _ hs.2⟩) (hQ _); exact id)
  case ldc i => dsimp only; exact bif_mono (k0 _ _ _) (k0 _ _ _)
  all_goals dsimp only
  all_goals first
    | exact fun hs => k0 _ _ _ hs
    | exact fun hs => hs
    | (split <;> first | exact fun hs => k0 _ _ _ hs | exact fun hs => hs | exact fun hs => ⟨hs.1, k0 _ _ _ hs.2⟩ | exact fun hs => ⟨fun z => k0 _ _ _ (hs.1 z), fun z y => k0 _ _ _ (hs.2 z y)⟩ | exact fun hs => hQ _ hs | (split <;> first | exact fun hs => hs | exact fun hs => ⟨hs.1, k0 _ _ _ hs.2⟩ | exact fun hs => k0 _ _ _ hs))
end CHR
theorem wp_chr {sh : Nat → SH} {cd : Nat → Nat → Option ENT} {mL : Nat → Nat} : ∀ {n d j pc : Nat} {L S : List Value} {h : HP} {Q : QT}, wp sh cd mL n d j pc L S h Q → wp sh cd mL n d j pc L S h (fun v h' => Q v h' ∧ SCh sh h h') := by
  intro n
  induction n with
  | zero => intro d j pc L S h Q hw; exact False.elim hw
  | succ n ih =>
    intro d j pc L S h Q hw
    unfold wp at hw ⊢
    cases hc : cd j pc with
    | none => rw [hc] at hw; exact False.elim hw
    | some E =>
      rw [hc] at hw
      dsimp only at hw ⊢
      refine st1_chr E (fun a b c e hs hk => wp_mono (Nat.le_refl n) (Nat.le_refl d) (fun v h' z => ⟨z.1, hs.trans z.2⟩) (ih hk)) (fun j as k k' hk hc => ?_) (fun v z => ⟨z, SCh.rfl sh h⟩) hw
      cases d with
      | zero => exact False.elim hc
      | succ d =>
        unfold wpc at hc ⊢
        dsimp only at hc ⊢
        exact bif_mono (fun z => wp_mono (Nat.le_refl n) (Nat.le_refl d) (fun v h' y => hk v h' y.2 y.1) (ih z)) id hc
theorem Run.chr {d j : Nat} {as : List Value} {h h' : HP} {v : Option Value} (r : Run d j as h v h') : SCh shP h h' := by
  obtain ⟨n, hb, hw⟩ := r
  obtain ⟨v2, h2, h3, _⟩ := wp_det (wp_chr hw)
  rw [← h3.1.2]
  exact h3.2
/-- the own words, as the model holds them -/
def WC (h : HP) : Prop := ∀ q, q < 20 → ∀ j, j < (ow q).length → h.1 (67 + q) j = nI (96 + (ow q).getD j 0)
theorem sh_w : ∀ q, q < 20 → shP (67 + q) = .inl (2, (ow q).length) := by decide +kernel
theorem WC.ch {h h' : HP} (w : WC h) (S : SCh shP h h') : WC h' := fun q hq j hj => by
  rw [S (67 + q) _ (sh_w q hq)]
  exact w q hq j hj
theorem wc_ini : WC hIni := by
  unfold WC
  decide +kernel
