/-! ===== RUNS OF THE PROGRAM ON THE ABSTRACT MACHINE ===== -/
section MONO
variable {sh : Nat → SH} {pc : Nat} {L S : List Value} {h : HP} {K K' : KT} {C C' : CT} {Q Q' : QT}
theorem bif_mono {b : Bool} {X Y X' Y' : Prop} (h1 : X → X') (h2 : Y → Y') : (bif b then X else Y) → (bif b then X' else Y') := by cases b <;> assumption
set_option maxHeartbeats 4000000 in
theorem st1_mono (E : ENT) (hK : ∀ a b c d, K a b c d → K' a b c d) (hC : ∀ j as h k k', (∀ v h, k v h → k' v h) → C j as h k → C' j as h k') (hQ : ∀ v h, Q v h → Q' v h) (hs : st1 sh E pc L S h K C Q) : st1 sh E pc L S h K' C' Q' := by
  obtain ⟨ins, len, a, b, c, q, vi, vl⟩ := E
  unfold st1 at hs ⊢
  revert hs
  cases ins
  case ifCond cond off => cases cond <;> dsimp only <;> (split <;> first | exact fun hs => ⟨fun z => hK _ _ _ _ (hs.1 z), fun z => hK _ _ _ _ (hs.2 z)⟩ | exact fun hs => hs)
  case if_icmp cond off => cases cond <;> dsimp only <;> (split <;> first | exact fun hs => ⟨fun z => hK _ _ _ _ (hs.1 z), fun z => hK _ _ _ _ (hs.2 z)⟩ | exact fun hs => hs)
  case getfield i => dsimp only; (repeat' (first | exact fun hs => hs | exact fun hs => hK _ _ _ _ hs | exact fun hs => ⟨hs.1, hK _ _ _ _ hs.2⟩ | refine bif_mono ?_ ?_ | split))
  case putfield i => dsimp only; (repeat' (first | exact fun hs => hs | exact fun hs => hK _ _ _ _ hs | exact fun hs => ⟨hs.1, hK _ _ _ _ hs.2⟩ | refine bif_mono ?_ ?_ | split))
  case invokevirtual i =>
    dsimp only
    refine bif_mono ?_ ?_
    · split
      · refine bif_mono (fun hs => ⟨hs.1, bif_mono (hK _ _ _ _) id hs.2⟩) id
      · exact id
    · split
      · split
        · exact bif_mono (bif_mono (hC _ _ _ _ _ (fun v h' => hK _ _ _ _)) id) id
        · exact id
      · exact id
  case invokestatic i =>
    dsimp only
    refine bif_mono ?_ ?_
    · split
      · split
        · exact fun hs => ⟨hs.1, bif_mono (hK _ _ _ _) id hs.2⟩
        · exact id
      · exact id
    · exact bif_mono (bif_mono (hC _ _ _ _ _ (fun v h' => hK _ _ _ _)) id) id
  case ireturn => dsimp only; (split; exact bif_mono (fun hs => ⟨hs.1, hQ _ _ hs.2⟩) (hQ _ _); exact id)
  case ldc i => dsimp only; exact bif_mono (hK _ _ _ _) (hK _ _ _ _)
  all_goals dsimp only
  all_goals first
    | exact fun hs => hK _ _ _ _ hs
    | exact fun hs => hs
    | (split <;> first | exact fun hs => hK _ _ _ _ hs | exact fun hs => hs | exact fun hs => ⟨hs.1, hK _ _ _ _ hs.2⟩ | exact fun hs => ⟨fun z => hK _ _ _ _ (hs.1 z), fun z y => hK _ _ _ _ (hs.2 z y)⟩ | exact fun hs => hQ _ _ hs | (split <;> first | exact fun hs => hs | exact fun hs => ⟨hs.1, hK _ _ _ _ hs.2⟩ | exact fun hs => hK _ _ _ _ hs))
end MONO
section WPM
variable {sh : Nat → SH} {cd : Nat → Nat → Option ENT} {mL : Nat → Nat}
theorem wp_mono : ∀ {n n' d d' j pc : Nat} {L S : List Value} {h : HP} {Q Q' : QT}, n ≤ n' → d ≤ d' → (∀ v h, Q v h → Q' v h) → wp sh cd mL n d j pc L S h Q → wp sh cd mL n' d' j pc L S h Q' := by
  intro n
  induction n with
  | zero => intro n' d d' j pc L S h Q Q' _ _ _ hw; exact False.elim hw
  | succ n ih =>
    intro n' d d' j pc L S h Q Q' hn hd hQ hw
    obtain ⟨n', rfl⟩ : ∃ m, n' = m + 1 := ⟨n' - 1, by omega⟩
    unfold wp at hw ⊢
    cases hc : cd j pc with
    | none => rw [hc] at hw; exact False.elim hw
    | some E =>
      rw [hc] at hw
      dsimp only at hw ⊢
      refine st1_mono E (fun a b c e => ih (by omega) hd hQ) (fun j as h k k' hk hc => ?_) hQ hw
      cases d with
      | zero => exact False.elim hc
      | succ d =>
        obtain ⟨d', rfl⟩ : ∃ m, d' = m + 1 := ⟨d' - 1, by omega⟩
        unfold wpc at hc ⊢
        dsimp only at hc ⊢
        exact bif_mono (ih (by omega) (by omega) hk) id hc
end WPM
