/-! ===== A RUN HAS ONE END: runs out of walks with any post ===== -/
section EXG
variable {ι : Type} {sh : Nat → SH} {pc : Nat} {L S : List Value} {h : HP} {P : ι → KT} {Q : QT} {Q' : ι → QT} {R : Nat → List Value → HP → Option Value → HP → Prop}
theorem bif_exG {b : Bool} {X Y : Prop} {X' Y' : ι → Prop} (h1 : X → ∃ n, X' n) (h2 : Y → ∃ n, Y' n) : (bif b then X else Y) → ∃ n, (bif b then X' n else Y' n) := by cases b <;> assumption
theorem br_exG {a : Prop} {X Y : ι → Prop} (hs : (a → ∃ n, X n) ∧ (¬ a → ∃ n, Y n)) : ∃ n, (a → X n) ∧ (¬ a → Y n) := by
  by_cases h : a
  · obtain ⟨n, hn⟩ := hs.1 h
    exact ⟨n, fun _ => hn, fun z => absurd h z⟩
  · obtain ⟨n, hn⟩ := hs.2 h
    exact ⟨n, fun z => absurd z h, fun _ => hn⟩
theorem br_exG' {a : Prop} {X Y : ι → Prop} (hs : (¬ a → ∃ n, X n) ∧ (a → ∃ n, Y n)) : ∃ n, (¬ a → X n) ∧ (a → Y n) := by
  obtain ⟨n, h1, h2⟩ := br_exG ⟨hs.2, hs.1⟩
  exact ⟨n, h2, h1⟩
set_option maxHeartbeats 4000000 in
theorem st1_exG (E : ENT) (hQ : ∀ v h, Q v h → ∃ i, Q' i v h) (hs : st1 sh E pc L S h (fun a b c d => ∃ n, P n a b c d) (fun j as h k => ∃ v h2, R j as h v h2 ∧ k v h2) Q) : ∃ n, st1 sh E pc L S h (P n) (fun j as h k => ∃ v h2, R j as h v h2 ∧ k v h2) (Q' n) := by
  obtain ⟨ins, len, a, b, c, q, vi, vl⟩ := E
  unfold st1 at hs ⊢
  revert hs
  have z : False → ∃ _ : ι, False := fun z => z.elim
  cases ins
  case ifCond cond off => cases cond <;> dsimp only <;> (split <;> first | exact br_exG | exact br_exG' | exact z)
  case if_icmp cond off => cases cond <;> dsimp only <;> (split <;> first | exact br_exG | exact br_exG' | exact z)
  case getfield i => dsimp only; (repeat' (first | exact id | exact z | exact fun hs => hs | refine bif_exG ?_ ?_ | split))
  case putfield i => dsimp only; (repeat' (first | exact id | exact z | refine bif_exG ?_ ?_ | split))
  case invokevirtual i =>
    dsimp only
    refine bif_exG ?_ ?_
    · split
      · refine bif_exG (fun hs => ?_) z
        obtain ⟨n, hn⟩ := bif_exG (X' := fun n => P n _ _ _ _) (Y' := fun _ => False) id z hs.2
        exact ⟨n, hs.1, hn⟩
      · exact z
    · split
      · split
        · exact bif_exG (bif_exG (fun ⟨v, h2, h3, n, h4⟩ => ⟨n, v, h2, h3, h4⟩) z) z
        · exact z
      · exact z
  case invokestatic i =>
    dsimp only
    refine bif_exG ?_ ?_
    · split
      · split
        · intro hs
          obtain ⟨n, hn⟩ := bif_exG (X' := fun n => P n _ _ _ _) (Y' := fun _ => False) id z hs.2
          exact ⟨n, hs.1, hn⟩
        · exact z
      · exact z
    · exact bif_exG (bif_exG (fun ⟨v, h2, h3, n, h4⟩ => ⟨n, v, h2, h3, h4⟩) z) z
  case ldc i => dsimp only; exact bif_exG id id
  case tableswitch d lo hi offs =>
    dsimp only
    split
    · rename_i x r
      intro hs
      by_cases hx : x.toInt < lo ∨ hi < x.toInt
      · obtain ⟨n, hn⟩ := hs.1 hx
        exact ⟨n, fun _ => hn, fun z1 z2 => by rcases hx with q | q <;> contradiction⟩
      · obtain ⟨n, hn⟩ := hs.2 (fun z => hx (Or.inl z)) (fun z => hx (Or.inr z))
        exact ⟨n, fun q => absurd q hx, fun _ _ => hn⟩
    · exact z
  case ireturn =>
    dsimp only
    split
    · refine bif_exG (fun hs => ?_) (hQ _ _)
      obtain ⟨n, hn⟩ := hQ _ _ hs.2
      exact ⟨n, hs.1, hn⟩
    · exact z
  case lreturn => dsimp only; (split; exact hQ _ _; exact z)
  case return_ => dsimp only; (split; exact hQ _ _; exact z)
  all_goals dsimp only
  all_goals first
    | exact id
    | exact z
    | (split <;> first | exact id | exact z | exact fun hs => ⟨hs.2.choose, hs.1, hs.2.choose_spec⟩ | (split <;> first | exact id | exact z | exact fun hs => ⟨hs.2.choose, hs.1, hs.2.choose_spec⟩))
end EXG
section DET
variable {sh : Nat → SH} {cd : Nat → Nat → Option ENT} {mL : Nat → Nat}
theorem wp_det : ∀ {n d j pc : Nat} {L S : List Value} {h : HP} {Q : QT}, wp sh cd mL n d j pc L S h Q → ∃ (v : Option Value) (h' : HP), Q v h' ∧ wp sh cd mL n d j pc L S h (fun v' h2 => v' = v ∧ h2 = h') := by
  intro n
  induction n with
  | zero => intro d j pc L S h Q hw; exact False.elim hw
  | succ n ih =>
    intro d j pc L S h Q hw
    unfold wp at hw
    cases hc : cd j pc with
    | none => rw [hc] at hw; exact False.elim hw
    | some E =>
      rw [hc] at hw
      dsimp only at hw
      have h1 := st1_mono (K' := fun pc' L' S' h' => ∃ r : { r : Option Value × HP // Q r.1 r.2 }, wp sh cd mL n d j pc' L' S' h' (fun v' h2 => v' = r.1.1 ∧ h2 = r.1.2))
        (C' := fun j' as h' k => ∃ v h2, wpc d (Nat.ble (largs as).length (mL j')) (fun d' => wp sh cd mL n d' j' 0 (lent (mL j') as) [] h' (fun v' h3 => v' = v ∧ h3 = h2)) ∧ k v h2) (Q' := Q) E
        (fun a b c e hk => by obtain ⟨v, h', h1, h2⟩ := ih hk; exact ⟨⟨(v, h'), h1⟩, h2⟩)
        (fun j' as h' k k' hk hc => by
          cases d with
          | zero => exact False.elim hc
          | succ d =>
            unfold wpc at hc ⊢
            dsimp only at hc ⊢
            cases hb : Nat.ble (largs as).length (mL j') with
            | false => rw [hb] at hc; exact False.elim hc
            | true =>
              rw [hb] at hc
              have hc : wp sh cd mL n d j' 0 (lent (mL j') as) [] h' k := hc
              obtain ⟨v, h2, h3, h4⟩ := ih hc
              exact ⟨v, h2, h4, hk _ _ h3⟩)
        (fun _ _ q => q) hw
      obtain ⟨⟨⟨v, h'⟩, hq⟩, h2⟩ := st1_exG (ι := { r : Option Value × HP // Q r.1 r.2 }) (Q' := fun r v' h2 => v' = r.1.1 ∧ h2 = r.1.2) E (fun v h hv => ⟨⟨(v, h), hv⟩, rfl, rfl⟩) h1
      refine ⟨v, h', hq, ?_⟩
      unfold wp
      rw [hc]
      refine st1_mono E (fun _ _ _ _ q => q) (fun j' as h1 k k' hk hc => ?_) (fun _ _ q => q) h2
      obtain ⟨v1, h3, h4, h5⟩ := hc
      cases d with
      | zero => exact False.elim h4
      | succ d =>
        unfold wpc at h4 ⊢
        dsimp only at h4 ⊢
        exact bif_mono (wp_mono (Nat.le_refl n) (Nat.le_refl d) (fun v' h2' q => by rw [q.1, q.2]; exact hk _ _ h5)) id h4
end DET
/-- a run out of a walk with any post -/
theorem Run.ofP {d j : Nat} {as : List Value} {h : HP} {P : QT} (hb : Nat.ble (largs as).length (mLP j) = true) (hw : Wp d j 0 (lent (mLP j) as) [] h P) : ∃ v h', Run d j as h v h' ∧ P v h' := by
  obtain ⟨n, hn⟩ := hw
  obtain ⟨v, h', h1, h2⟩ := wp_det hn
  exact ⟨v, h', ⟨n, hb, h2⟩, h1⟩
theorem Wp.mono {d j pc : Nat} {L S : List Value} {h : HP} {Q Q' : QT} (hq : ∀ v h, Q v h → Q' v h) (hw : Wp d j pc L S h Q) : Wp d j pc L S h Q' := by
  obtain ⟨n, hn⟩ := hw
  exact ⟨n, wp_mono (Nat.le_refl n) (Nat.le_refl d) hq hn⟩
/-! reading what was written -/
theorem wI_1 (h : HP) (k i : Nat) (x : Int32) (k' : Nat) : (wI h k i x).1 k' = if k' = k then upd (h.1 k) i x else h.1 k' := by
  unfold wI va_up
  rfl
theorem wI_2 (h : HP) (k i : Nat) (x : Int32) : (wI h k i x).2 = h.2 := rfl
theorem wJ_1 (h : HP) (k i : Nat) (x : Int64) : (wJ h k i x).1 = h.1 := rfl
theorem wJ_2 (h : HP) (k i : Nat) (x : Int64) (k' : Nat) : (wJ h k i x).2 k' = if k' = k then vp_updL (h.2 k) i x else h.2 k' := by
  unfold wJ va_up
  rfl
theorem wI_same (h : HP) (k i : Nat) (x : Int32) : (wI h k i x).1 k i = x := by simp [wI, va_up, upd]
theorem wI_ne (h : HP) {k k' : Nat} (i : Nat) (x : Int32) (hk : k' ≠ k) : (wI h k i x).1 k' = h.1 k' := by simp [wI, va_up, hk]
theorem wI_ne2 (h : HP) {k i i' : Nat} (x : Int32) (hi : i' ≠ i) : (wI h k i x).1 k i' = h.1 k i' := by simp [wI, va_up, upd, hi]
