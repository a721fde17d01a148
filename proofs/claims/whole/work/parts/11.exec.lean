/-! ===== STEPS AND RUNS ===== -/
theorem bif_ex {b : Bool} {X Y : Prop} {X' Y' : Nat → Prop} (h1 : X → ∃ n, X' n) (h2 : Y → ∃ n, Y' n) : (bif b then X else Y) → ∃ n, (bif b then X' n else Y' n) := by cases b <;> assumption
theorem br_ex {a : Prop} {X Y : Nat → Prop} (hs : (a → ∃ n, X n) ∧ (¬ a → ∃ n, Y n)) : ∃ n, (a → X n) ∧ (¬ a → Y n) := by
  by_cases h : a
  · obtain ⟨n, hn⟩ := hs.1 h
    exact ⟨n, fun _ => hn, fun z => absurd h z⟩
  · obtain ⟨n, hn⟩ := hs.2 h
    exact ⟨n, fun z => absurd z h, fun _ => hn⟩
theorem br_ex' {a : Prop} {X Y : Nat → Prop} (hs : (¬ a → ∃ n, X n) ∧ (a → ∃ n, Y n)) : ∃ n, (¬ a → X n) ∧ (a → Y n) := by
  obtain ⟨n, h1, h2⟩ := br_ex ⟨hs.2, hs.1⟩
  exact ⟨n, h2, h1⟩
section EXS
variable {sh : Nat → SH} {pc : Nat} {L S : List Value} {h : HP} {P : Nat → KT} {Q : QT} {R : Nat → List Value → HP → Option Value → HP → Prop}
set_option maxHeartbeats 4000000 in
theorem st1_ex (E : ENT) (hs : st1 sh E pc L S h (fun a b c d => ∃ n, P n a b c d) (fun j as h k => ∃ v h2, R j as h v h2 ∧ k v h2) Q) : ∃ n, st1 sh E pc L S h (P n) (fun j as h k => ∃ v h2, R j as h v h2 ∧ k v h2) Q := by
  obtain ⟨ins, len, a, b, c, q, vi, vl⟩ := E
  unfold st1 at hs ⊢
  revert hs
  have z : False → ∃ _ : Nat, False := fun z => z.elim
  cases ins
  case ifCond cond off => cases cond <;> dsimp only <;> (split <;> first | exact br_ex | exact br_ex' | exact z)
  case if_icmp cond off => cases cond <;> dsimp only <;> (split <;> first | exact br_ex | exact br_ex' | exact z)
  case getfield i => dsimp only; (repeat' (first | exact id | exact z | exact fun hs => hs | refine bif_ex ?_ ?_ | split))
  case putfield i => dsimp only; (repeat' (first | exact id | exact z | refine bif_ex ?_ ?_ | split))
  case invokevirtual i =>
    dsimp only
    refine bif_ex ?_ ?_
    · split
      · refine bif_ex (fun hs => ?_) z
        obtain ⟨n, hn⟩ := bif_ex (X' := fun n => P n _ _ _ _) (Y' := fun _ => False) id z hs.2
        exact ⟨n, hs.1, hn⟩
      · exact z
    · split
      · split
        · exact bif_ex (bif_ex (fun ⟨v, h2, h3, n, h4⟩ => ⟨n, v, h2, h3, h4⟩) z) z
        · exact z
      · exact z
  case invokestatic i =>
    dsimp only
    refine bif_ex ?_ ?_
    · split
      · split
        · intro hs
          obtain ⟨n, hn⟩ := bif_ex (X' := fun n => P n _ _ _ _) (Y' := fun _ => False) id z hs.2
          exact ⟨n, hs.1, hn⟩
        · exact z
      · exact z
    · exact bif_ex (bif_ex (fun ⟨v, h2, h3, n, h4⟩ => ⟨n, v, h2, h3, h4⟩) z) z
  case ldc i => dsimp only; exact bif_ex id id
  case tableswitch d lo hi offs =>
    dsimp only
    split
    · rename_i x r
      intro hs
      by_cases hx : x.toInt < lo ∨ hi < x.toInt
      · obtain ⟨n, hn⟩ := hs.1 hx
        exact ⟨n, fun _ => hn, fun z1 z2 => by rcases hx with q | q <;> contradiction⟩
      · obtain ⟨n, hn⟩ := hs.2 (fun z => hx (Or.inl z)) (fun z => hx (Or.inr z))
        exact ⟨n, fun q => absurd q hx, fun _ _ => hn⟩
    · exact z
  case ireturn => exact fun hs => ⟨0, hs⟩
  case lreturn => exact fun hs => ⟨0, hs⟩
  case return_ => exact fun hs => ⟨0, hs⟩
  all_goals dsimp only
  all_goals first
    | exact id
    | exact z
    | (split <;> first | exact id | exact z | exact fun hs => ⟨hs.2.choose, hs.1, hs.2.choose_spec⟩ | (split <;> first | exact id | exact z | exact fun hs => ⟨hs.2.choose, hs.1, hs.2.choose_spec⟩))
end EXS
section CALLS
variable {sh : Nat → SH} {pc : Nat} {L S : List Value} {h : HP} {K : KT} {Q : QT} {R : Nat → List Value → HP → Option Value → HP → Prop}
set_option maxHeartbeats 4000000 in
theorem st1_call (E : ENT) (hs : st1 sh E pc L S h K (fun j as h k => ∃ v h2, R j as h v h2 ∧ k v h2) Q) : (∃ j as h' v h2, R j as h' v h2 ∧ st1 sh E pc L S h K (fun j1 as1 h1 k => (j1 = j ∧ as1 = as ∧ h1 = h') ∧ k v h2) Q) ∨ st1 sh E pc L S h K (fun _ _ _ _ => False) Q := by
  obtain ⟨ins, len, a, b, c, q, vi, vl⟩ := E
  cases ins
  case invokevirtual i =>
    unfold st1 at hs ⊢
    dsimp only at hs ⊢
    cases h1 : Nat.beq c 77 with
    | true => rw [h1] at hs; exact Or.inr hs
    | false =>
      rw [h1] at hs
      dsimp only [cond] at hs ⊢
      split at hs
      · split at hs
        · rename_i k hS ci fl hk
          cases h2 : Nat.beq ci c with
          | false => rw [h2] at hs; exact hs.elim
          | true =>
            rw [h2] at hs
            dsimp only at hs
            cases h3 : Nat.ble (lcat (S.drop (b + 1))) 8 with
            | false => rw [h3] at hs; exact hs.elim
            | true =>
              rw [h3] at hs
              obtain ⟨v, h2', h4, h5⟩ := hs
              exact Or.inl ⟨_, _, _, v, h2', h4, ⟨rfl, rfl, rfl⟩, h5⟩
        · exact hs.elim
      · exact hs.elim
  case invokestatic i =>
    unfold st1 at hs ⊢
    dsimp only at hs ⊢
    cases h1 : Nat.beq c 1 with
    | true => rw [h1] at hs; exact Or.inr hs
    | false =>
      rw [h1] at hs
      dsimp only [cond] at hs ⊢
      cases h2 : Nat.ble b S.length with
      | false => rw [h2] at hs; exact hs.elim
      | true =>
        rw [h2] at hs
        dsimp only at hs
        cases h3 : Nat.ble (lcat (S.drop b)) 8 with
        | false => rw [h3] at hs; exact hs.elim
        | true =>
          rw [h3] at hs
          obtain ⟨v, h2', h4, h5⟩ := hs
          exact Or.inl ⟨_, _, _, v, h2', h4, ⟨rfl, rfl, rfl⟩, h5⟩
  case ifCond cond off => cases cond <;> exact Or.inr hs
  case if_icmp cond off => cases cond <;> exact Or.inr hs
  all_goals exact Or.inr hs
end CALLS
def Wp (d j pc : Nat) (L S : List Value) (h : HP) (Q : QT) : Prop := ∃ n, wp shP cdP mLP n d j pc L S h Q
def Run (d j : Nat) (as : List Value) (h : HP) (v : Option Value) (h' : HP) : Prop := ∃ n, Nat.ble (largs as).length (mLP j) = true ∧ wp shP cdP mLP n d j 0 (lent (mLP j) as) [] h (fun v' h2 => v' = v ∧ h2 = h')
/-- a call whose run is known -/
def Cl (d j : Nat) (as : List Value) (h : HP) (k : QT) : Prop := ∃ v h2, (∃ d', d = d' + 1 ∧ Run d' j as h v h2) ∧ k v h2
theorem W1 {d j pc : Nat} {L S : List Value} {h : HP} {Q : QT} {E : ENT} (he : cdP j pc = some E) (hs : st1 shP E pc L S h (fun pc' L' S' h' => Wp d j pc' L' S' h' Q) (Cl d) Q) : Wp d j pc L S h Q := by
  obtain ⟨n, hn⟩ := st1_ex (P := fun n pc' L' S' h' => wp shP cdP mLP n d j pc' L' S' h' Q) (R := fun j as h v h2 => ∃ d', d = d' + 1 ∧ Run d' j as h v h2) E hs
  rcases st1_call E hn with ⟨j', as, h', v, h2, ⟨d', rfl, m, hb, hm⟩, hst⟩ | hst
  · refine ⟨max n m + 1, ?_⟩
    unfold wp
    rw [he]
    refine st1_mono E (fun a b c e => wp_mono (Nat.le_max_left n m) (Nat.le_refl _) (fun _ _ q => q)) (fun j1 as1 h1 k k' hk hc => ?_) (fun _ _ q => q) hst
    obtain ⟨⟨rfl, rfl, rfl⟩, h4⟩ := hc
    unfold wpc
    dsimp only
    rw [hb]
    exact wp_mono (Nat.le_max_right n m) (Nat.le_refl _) (fun v' h2' q => by rw [q.1, q.2]; exact hk _ _ h4) hm
  · refine ⟨n + 1, ?_⟩
    unfold wp
    rw [he]
    exact st1_mono E (fun _ _ _ _ q => q) (fun _ _ _ _ _ _ q => q.elim) (fun _ _ q => q) hst
/-- a run out of its method's walk -/
theorem Run.of {d j : Nat} {as : List Value} {h h' : HP} {v : Option Value} (hb : Nat.ble (largs as).length (mLP j) = true) (hw : Wp d j 0 (lent (mLP j) as) [] h (fun v' h2 => v' = v ∧ h2 = h')) : Run d j as h v h' := by
  obtain ⟨n, hn⟩ := hw
  exact ⟨n, hb, hn⟩
theorem Run.mono {d d' j : Nat} {as : List Value} {h h' : HP} {v : Option Value} (hd : d ≤ d') (hr : Run d j as h v h') : Run d' j as h v h' := by
  obtain ⟨n, hb, hn⟩ := hr
  exact ⟨n, hb, wp_mono (Nat.le_refl n) hd (fun _ _ q => q) hn⟩
theorem Cl.of {d d' j : Nat} {as : List Value} {h h2 : HP} {v : Option Value} {k : QT} (hr : Run d' j as h v h2) (hd : d' < d) (hk : k v h2) : Cl d j as h k := ⟨v, h2, ⟨d - 1, by omega, hr.mono (by omega)⟩, hk⟩
theorem Wp.ret {d j pc : Nat} {L S : List Value} {h : HP} {Q : QT} (hw : Wp d j pc L S h Q) : Wp d j pc L S h Q := hw
