/-! ===== SWAPS: is it better ===== -/
section SW3
variable {s : ST} {c v : RT} {h : HP} {i j t : Nat}
def enD (s : ST) (j : Nat) : Nat := dF s (min 199 (tD s j + zL s) + 1)
def cA (s : ST) (w v : RT) (i j : Nat) (n : Nat) : Nat := cnt (fun t => dF s (tD s i) ≤ t ∧ mcB s v i j t = true ∧ beB s w t = true) n
theorem r_min (h : HP) (x y : Int32) : Run 0 j_Math_min [.int x, .int y] h (some (.int (if y < x then y else x))) h := by
  refine Run.of rfl ?_
  refine Wp.norm (L' := [_, _]) rfl ?_
  repeat (first | (refine W1 rfl ?_; try refine Wp.norm (L' := [_, _]) rfl ?_) | ((first | change (_ → _) ∧ (_ → _) | change vp_in _ _ ∧ _ | change ¬ _ ∧ _); simp (disch := omega) only [nI_clamp, nI_leI, nI_ltI, nI_eq, nI_1, nI_add, nI_not_neg, nI_is_pos, nI_m1, nI_z]) | refine brT (by first | assumption | decide | omega) ?_ | refine brF (by first | assumption | decide | omega) ?_ | refine brTn (by first | assumption | decide | omega) ?_ | refine brFn (by first | assumption | decide | omega) ?_ | refine And.intro (vp_in_nI (by omega) (by decide)) ?_ | refine And.intro (vp_lit (by decide)) ?_ | refine divJ (by decide) ?_ | refine divI (by decide) ?_)
  try change _ ∧ _
  refine ⟨fun q => ?_, fun q => ?_⟩
  · repeat (first | (refine W1 rfl ?_; try refine Wp.norm (L' := [_, _]) rfl ?_) | ((first | change (_ → _) ∧ (_ → _) | change vp_in _ _ ∧ _ | change ¬ _ ∧ _); simp (disch := omega) only [nI_clamp, nI_leI, nI_ltI, nI_eq, nI_1, nI_add, nI_not_neg, nI_is_pos, nI_m1, nI_z]) | refine brT (by first | assumption | decide | omega) ?_ | refine brF (by first | assumption | decide | omega) ?_ | refine brTn (by first | assumption | decide | omega) ?_ | refine brFn (by first | assumption | decide | omega) ?_ | refine And.intro (vp_in_nI (by omega) (by decide)) ?_ | refine And.intro (vp_lit (by decide)) ?_ | refine divJ (by decide) ?_ | refine divI (by decide) ?_)
    try change _ ∧ _
    rw [if_pos q]
    try first | exact ⟨rfl, rfl⟩ | exact ⟨Or.inr rfl, rfl, rfl⟩ | exact ⟨Or.inl rfl, rfl, rfl⟩ | exact ⟨trivial, trivial⟩ | exact ⟨rfl, trivial⟩ | exact ⟨Or.inr rfl, rfl, trivial⟩ | exact ⟨Or.inl rfl, rfl, trivial⟩
  · repeat (first | (refine W1 rfl ?_; try refine Wp.norm (L' := [_, _]) rfl ?_) | ((first | change (_ → _) ∧ (_ → _) | change vp_in _ _ ∧ _ | change ¬ _ ∧ _); simp (disch := omega) only [nI_clamp, nI_leI, nI_ltI, nI_eq, nI_1, nI_add, nI_not_neg, nI_is_pos, nI_m1, nI_z]) | refine brT (by first | assumption | decide | omega) ?_ | refine brF (by first | assumption | decide | omega) ?_ | refine brTn (by first | assumption | decide | omega) ?_ | refine brFn (by first | assumption | decide | omega) ?_ | refine And.intro (vp_in_nI (by omega) (by decide)) ?_ | refine And.intro (vp_lit (by decide)) ?_ | refine divJ (by decide) ?_ | refine divI (by decide) ?_)
    try change _ ∧ _
    rw [if_neg q]
    try first | exact ⟨rfl, rfl⟩ | exact ⟨Or.inr rfl, rfl, rfl⟩ | exact ⟨Or.inl rfl, rfl, rfl⟩ | exact ⟨trivial, trivial⟩ | exact ⟨rfl, trivial⟩ | exact ⟨Or.inr rfl, rfl, trivial⟩ | exact ⟨Or.inl rfl, rfl, trivial⟩
/-- v is the rota now, w the one that was measured -/
theorem r_moreBarred {w : RT} (R : RC s c v h) (o : OK s) (ro : RO s c v) (hi : i < zT s) (hj : j < zT s) (hm : ∀ t, t < zT s → h.1 55 t = bI (beB s w t)) : Run 3 j_Swapper_moreBarred [.ref 54, .int (nI i), .int (nI j)] h (some (.int (nI (cA s v v i j (enD s j)) - nI (cA s w v i j (enD s j))))) h := by
  have hT := o.T; have hP := o.P; have hK := o.K; have hD := o.D; have hO := o.O; have hQ := o.Q; have hL := o.L
  have d1 := o.day hi
  have d2 := o.day hj
  have hE := dF_le o (show min 199 (tD s j + zL s) + 1 < 201 by omega)
  have hst := dF_le o (show tD s i < 201 by omega)
  have lp : ∀ u, u ≤ max (dF s (tD s i)) (enD s j) → dF s (tD s i) ≤ u → Wp 3 j_Swapper_moreBarred 51 [.ref 54, .int (nI i), .int (nI j), .int (nI (cA s v v i j u) - nI (cA s w v i j u)), .int (nI (min 199 (tD s j + zL s))), .int (nI (enD s j)), .int (nI u)] [] h (fun v' h2 => v' = some (.int (nI (cA s v v i j (enD s j)) - nI (cA s w v i j (enD s j)))) ∧ h2 = h) := by
    have e0 : ∀ x, enD s j ≤ dF s (tD s i) → cA s x v i j (dF s (tD s i)) = cA s x v i j (enD s j) := by
      intro x hle
      have z : ∀ n, n ≤ dF s (tD s i) → cA s x v i j n = 0 := by
        intro n
        induction n with
        | zero => intro _; rfl
        | succ n ihn =>
          intro hn
          have e : cA s x v i j (n + 1) = cA s x v i j n + (if dF s (tD s i) ≤ n ∧ mcB s v i j n = true ∧ beB s x n = true then 1 else 0) := rfl
          rw [e, ihn (by omega), if_neg (fun q => by omega)]
      rw [z _ (Nat.le_refl _), z _ hle]
    have hEn : enD s j ≤ zT s := hE
    refine up_ind ?_ (fun u hu ih => ?_)
    · intro _
      by_cases hle : enD s j ≤ dF s (tD s i)
      · rw [show max (dF s (tD s i)) (enD s j) = dF s (tD s i) by omega, e0 v hle, e0 w hle]
        repeat (first | (refine W1 rfl ?_; try refine Wp.norm (L' := [_, _, _, _, _, _, _]) rfl ?_) | ((first | change (_ → _) ∧ (_ → _) | change vp_in _ _ ∧ _ | change ¬ _ ∧ _); simp (disch := omega) only [nI_clamp, nI_leI, nI_ltI, nI_eq, nI_1, nI_add, nI_not_neg, nI_is_pos, nI_m1, nI_z]) | refine brT (by first | assumption | decide | omega) ?_ | refine brF (by first | assumption | decide | omega) ?_ | refine brTn (by first | assumption | decide | omega) ?_ | refine brFn (by first | assumption | decide | omega) ?_ | refine And.intro (vp_in_nI (by omega) (by decide)) ?_ | refine And.intro (vp_lit (by decide)) ?_ | refine divJ (by decide) ?_ | refine divI (by decide) ?_)
        try change _ ∧ _
        try first | exact ⟨rfl, rfl⟩ | exact ⟨Or.inr rfl, rfl, rfl⟩ | exact ⟨Or.inl rfl, rfl, rfl⟩ | exact ⟨trivial, trivial⟩ | exact ⟨rfl, trivial⟩ | exact ⟨Or.inr rfl, rfl, trivial⟩ | exact ⟨Or.inl rfl, rfl, trivial⟩
      · rw [show max (dF s (tD s i)) (enD s j) = enD s j by omega]
        repeat (first | (refine W1 rfl ?_; try refine Wp.norm (L' := [_, _, _, _, _, _, _]) rfl ?_) | ((first | change (_ → _) ∧ (_ → _) | change vp_in _ _ ∧ _ | change ¬ _ ∧ _); simp (disch := omega) only [nI_clamp, nI_leI, nI_ltI, nI_eq, nI_1, nI_add, nI_not_neg, nI_is_pos, nI_m1, nI_z]) | refine brT (by first | assumption | decide | omega) ?_ | refine brF (by first | assumption | decide | omega) ?_ | refine brTn (by first | assumption | decide | omega) ?_ | refine brFn (by first | assumption | decide | omega) ?_ | refine And.intro (vp_in_nI (by omega) (by decide)) ?_ | refine And.intro (vp_lit (by decide)) ?_ | refine divJ (by decide) ?_ | refine divI (by decide) ?_)
        try change _ ∧ _
        try first | exact ⟨rfl, rfl⟩ | exact ⟨Or.inr rfl, rfl, rfl⟩ | exact ⟨Or.inl rfl, rfl, rfl⟩ | exact ⟨trivial, trivial⟩ | exact ⟨rfl, trivial⟩ | exact ⟨Or.inr rfl, rfl, trivial⟩ | exact ⟨Or.inl rfl, rfl, trivial⟩
    · intro hlo
      by_cases hue : u < enD s j
      · have huT : u < zT s := by omega
        have hdu : tD s i ≤ tD s u := by
          have := dF_lt o huT (show tD s i < 201 by omega)
          omega
        have ea : ∀ x, cA s x v i j (u + 1) = cA s x v i j u + (if dF s (tD s i) ≤ u ∧ mcB s v i j u = true ∧ beB s x u = true then 1 else 0) := fun _ => rfl
        have ih := ih (by omega)
        rw [ea v, ea w] at ih
        have hb := bOf_le (v := v) o u
        have hmu := hm u huT
        repeat (first | (refine W1 rfl ?_; try refine Wp.norm (L' := [_, _, _, _, _, _, _]) rfl ?_) | ((first | change (_ → _) ∧ (_ → _) | change vp_in _ _ ∧ _ | change ¬ _ ∧ _); simp (disch := omega) only [nI_clamp, nI_leI, nI_ltI, nI_eq, nI_1, nI_add, nI_not_neg, nI_is_pos, nI_m1, nI_z]) | refine brT (by first | assumption | decide | omega) ?_ | refine brF (by first | assumption | decide | omega) ?_ | refine brTn (by first | assumption | decide | omega) ?_ | refine brFn (by first | assumption | decide | omega) ?_ | refine And.intro (vp_in_nI (by omega) (by decide)) ?_ | refine And.intro (vp_lit (by decide)) ?_ | refine divJ (by decide) ?_ | refine divI (by decide) ?_)
        try change _ ∧ _
        refine Cl.of (r_mayChange R o hi hj huT hdu) (by decide) ?_
        cases hmc : mcB s v i j u with
        | false =>
          rw [if_neg (fun z => by rw [hmc] at z; cases z.2.1), if_neg (fun z => by rw [hmc] at z; cases z.2.1)] at ih
          repeat (first | refine Wp.at ih rfl rfl ?_ rfl | (refine W1 rfl ?_; try refine Wp.norm (L' := [_, _, _, _, _, _, _]) rfl ?_) | ((first | change (_ → _) ∧ (_ → _) | change vp_in _ _ ∧ _ | change ¬ _ ∧ _); simp (disch := omega) only [nI_clamp, nI_leI, nI_ltI, nI_eq, nI_1, nI_add, nI_not_neg, nI_is_pos, nI_m1, nI_z]) | refine brT (by first | assumption | decide | omega) ?_ | refine brF (by first | assumption | decide | omega) ?_ | refine brTn (by first | assumption | decide | omega) ?_ | refine brFn (by first | assumption | decide | omega) ?_ | refine And.intro (vp_in_nI (by omega) (by decide)) ?_ | refine And.intro (vp_lit (by decide)) ?_ | refine divJ (by decide) ?_ | refine divI (by decide) ?_)
          try change _ ∧ _
          first | done | rfl | (simp (disch := omega) only [nI_1, nI_add, nI_clamp] <;> first | done | rfl)
        | true =>
          repeat (first | (refine W1 rfl ?_; try refine Wp.norm (L' := [_, _, _, _, _, _, _]) rfl ?_) | ((first | change (_ → _) ∧ (_ → _) | change vp_in _ _ ∧ _ | change ¬ _ ∧ _); simp (disch := omega) only [nI_clamp, nI_leI, nI_ltI, nI_eq, nI_1, nI_add, nI_not_neg, nI_is_pos, nI_m1, nI_z]) | refine brT (by first | assumption | decide | omega) ?_ | refine brF (by first | assumption | decide | omega) ?_ | refine brTn (by first | assumption | decide | omega) ?_ | refine brFn (by first | assumption | decide | omega) ?_ | refine And.intro (vp_in_nI (by omega) (by decide)) ?_ | refine And.intro (vp_lit (by decide)) ?_ | refine divJ (by decide) ?_ | refine divI (by decide) ?_)
          try change _ ∧ _
          refine Cl.of (r_Rota_barOf R o ro huT) (by decide) ?_
          have fin : ∀ (x y : Nat), (x = if beB s v u = true then 1 else 0) → (y = if beB s w u = true then 1 else 0) → Wp 3 j_Swapper_moreBarred 51 [.ref 54, .int (nI i), .int (nI j), .int ((nI (cA s v v i j u) - nI (cA s w v i j u)) + (nI x - nI y)), .int (nI (min 199 (tD s j + zL s))), .int (nI (enD s j)), .int (nI (u + 1))] [] h (fun v' h2 => v' = some (.int (nI (cA s v v i j (enD s j)) - nI (cA s w v i j (enD s j)))) ∧ h2 = h) := by
            intro x y hx hy
            rw [i32_ab]
            have c1 : ∀ z : RT, (if dF s (tD s i) ≤ u ∧ mcB s v i j u = true ∧ beB s z u = true then 1 else 0) = (if beB s z u = true then 1 else 0) := fun z => by
              by_cases e : beB s z u = true
              · rw [if_pos ⟨hlo, hmc, e⟩, if_pos e]
              · rw [if_neg (fun q => e q.2.2), if_neg e]
            rw [c1, c1, ← hx, ← hy] at ih
            exact ih
          have hbv : beB s v u = decide (¬ bOf s v u = 0) := rfl
          generalize bOf s v u = q at *
          by_cases q0 : q = 0
          · subst q0
            have hbf : beB s v u = false := by rw [hbv]; decide
            cases hw : beB s w u with
            | false =>
              rw [hw] at hmu
              have ih := fin 0 0 (by rw [hbf]; rfl) (by rw [hw]; rfl)
              repeat (first | refine Wp.at ih rfl rfl ?_ rfl | (refine W1 rfl ?_; try refine Wp.norm (L' := [_, _, _, _, _, _, _]) rfl ?_) | ((first | change (_ → _) ∧ (_ → _) | change vp_in _ _ ∧ _ | change ¬ _ ∧ _); simp (disch := omega) only [nI_clamp, nI_leI, nI_ltI, nI_eq, nI_1, nI_add, nI_not_neg, nI_is_pos, nI_m1, nI_z, hmu, show bI false = 0 from rfl]) | refine brT (by first | assumption | decide | omega) ?_ | refine brF (by first | assumption | decide | omega) ?_ | refine brTn (by first | assumption | decide | omega) ?_ | refine brFn (by first | assumption | decide | omega) ?_ | refine And.intro (vp_in_nI (by omega) (by decide)) ?_ | refine And.intro (vp_lit (by decide)) ?_ | refine divJ (by decide) ?_ | refine divI (by decide) ?_)
              try change _ ∧ _
              first | done | rfl | (simp (disch := omega) only [nI_1, nI_add, nI_clamp] <;> first | done | rfl)
            | true =>
              rw [hw] at hmu
              have ih := fin 0 1 (by rw [hbf]; rfl) (by rw [hw]; rfl)
              repeat (first | refine Wp.at ih rfl rfl ?_ rfl | (refine W1 rfl ?_; try refine Wp.norm (L' := [_, _, _, _, _, _, _]) rfl ?_) | ((first | change (_ → _) ∧ (_ → _) | change vp_in _ _ ∧ _ | change ¬ _ ∧ _); simp (disch := omega) only [nI_clamp, nI_leI, nI_ltI, nI_eq, nI_1, nI_add, nI_not_neg, nI_is_pos, nI_m1, nI_z, hmu, show bI true = 1 from rfl]) | refine brT (by first | assumption | decide | omega) ?_ | refine brF (by first | assumption | decide | omega) ?_ | refine brTn (by first | assumption | decide | omega) ?_ | refine brFn (by first | assumption | decide | omega) ?_ | refine And.intro (vp_in_nI (by omega) (by decide)) ?_ | refine And.intro (vp_lit (by decide)) ?_ | refine divJ (by decide) ?_ | refine divI (by decide) ?_)
              try change _ ∧ _
              first | done | rfl | (simp (disch := omega) only [nI_1, nI_add, nI_clamp] <;> first | done | rfl)
          · have hbf : beB s v u = true := by rw [hbv]; simpa using q0
            cases hw : beB s w u with
            | false =>
              rw [hw] at hmu
              have ih := fin 1 0 (by rw [hbf]; rfl) (by rw [hw]; rfl)
              repeat (first | refine Wp.at ih rfl rfl ?_ rfl | (refine W1 rfl ?_; try refine Wp.norm (L' := [_, _, _, _, _, _, _]) rfl ?_) | ((first | change (_ → _) ∧ (_ → _) | change vp_in _ _ ∧ _ | change ¬ _ ∧ _); simp (disch := omega) only [nI_clamp, nI_leI, nI_ltI, nI_eq, nI_1, nI_add, nI_not_neg, nI_is_pos, nI_m1, nI_z, hmu, show bI false = 0 from rfl]) | refine brT (by first | assumption | decide | omega) ?_ | refine brF (by first | assumption | decide | omega) ?_ | refine brTn (by first | assumption | decide | omega) ?_ | refine brFn (by first | assumption | decide | omega) ?_ | refine And.intro (vp_in_nI (by omega) (by decide)) ?_ | refine And.intro (vp_lit (by decide)) ?_ | refine divJ (by decide) ?_ | refine divI (by decide) ?_)
              try change _ ∧ _
              first | done | rfl | (simp (disch := omega) only [nI_1, nI_add, nI_clamp] <;> first | done | rfl)
            | true =>
              rw [hw] at hmu
              have ih := fin 1 1 (by rw [hbf]; rfl) (by rw [hw]; rfl)
              repeat (first | refine Wp.at ih rfl rfl ?_ rfl | (refine W1 rfl ?_; try refine Wp.norm (L' := [_, _, _, _, _, _, _]) rfl ?_) | ((first | change (_ → _) ∧ (_ → _) | change vp_in _ _ ∧ _ | change ¬ _ ∧ _); simp (disch := omega) only [nI_clamp, nI_leI, nI_ltI, nI_eq, nI_1, nI_add, nI_not_neg, nI_is_pos, nI_m1, nI_z, hmu, show bI true = 1 from rfl]) | refine brT (by first | assumption | decide | omega) ?_ | refine brF (by first | assumption | decide | omega) ?_ | refine brTn (by first | assumption | decide | omega) ?_ | refine brFn (by first | assumption | decide | omega) ?_ | refine And.intro (vp_in_nI (by omega) (by decide)) ?_ | refine And.intro (vp_lit (by decide)) ?_ | refine divJ (by decide) ?_ | refine divI (by decide) ?_)
              try change _ ∧ _
              first | done | rfl | (simp (disch := omega) only [nI_1, nI_add, nI_clamp] <;> first | done | rfl)
      · exfalso
        omega
  have z0 : ∀ x, cA s x v i j (dF s (tD s i)) = 0 := by
    intro x
    have z : ∀ n, n ≤ dF s (tD s i) → cA s x v i j n = 0 := by
      intro n
      induction n with
      | zero => intro _; rfl
      | succ n ihn =>
        intro hn
        have e : cA s x v i j (n + 1) = cA s x v i j n + (if dF s (tD s i) ≤ n ∧ mcB s v i j n = true ∧ beB s x n = true then 1 else 0) := rfl
        rw [e, ihn (by omega), if_neg (fun q => by omega)]
    exact z _ (Nat.le_refl _)
  have ih := lp (dF s (tD s i)) (by omega) (Nat.le_refl _)
  rw [z0, z0, show nI 0 - nI 0 = (0 : Int32) from by decide] at ih
  have emin : (if nI (tD s j) + nI (zL s) < (199 : Int32) then nI (tD s j) + nI (zL s) else 199) = nI (min 199 (tD s j + zL s)) := by
    rw [nI_add, show (199 : Int32) = nI 199 from rfl]
    by_cases e : tD s j + zL s < 199
    · rw [if_pos ((nI_ltI (by omega) (by omega)).mpr e), show min 199 (tD s j + zL s) = tD s j + zL s by omega]
    · rw [if_neg (fun z => e ((nI_ltI (by omega) (by omega)).mp z)), show min 199 (tD s j + zL s) = 199 by omega]
  refine Run.of rfl ?_
  refine Wp.norm (L' := [_, _, _, _, _, _, _]) rfl ?_
  repeat (first | (refine W1 rfl ?_; try refine Wp.norm (L' := [_, _, _, _, _, _, _]) rfl ?_) | ((first | change (_ → _) ∧ (_ → _) | change vp_in _ _ ∧ _ | change ¬ _ ∧ _); simp (disch := omega) only [nI_clamp, nI_leI, nI_ltI, nI_eq, nI_1, nI_add, nI_not_neg, nI_is_pos, nI_m1, nI_z]) | refine brT (by first | assumption | decide | omega) ?_ | refine brF (by first | assumption | decide | omega) ?_ | refine brTn (by first | assumption | decide | omega) ?_ | refine brFn (by first | assumption | decide | omega) ?_ | refine And.intro (vp_in_nI (by omega) (by decide)) ?_ | refine And.intro (vp_lit (by decide)) ?_ | refine divJ (by decide) ?_ | refine divI (by decide) ?_)
  try change _ ∧ _
  have rm := r_min h 199 (nI (tD s j) + nI (zL s))
  rw [emin] at rm
  refine Cl.ofA rm (by first | done | rfl | (simp (disch := omega) only [nI_1, nI_add, nI_clamp, R.day, R.lng] <;> first | done | rfl)) (by decide) ?_
  generalize min 199 (tD s j + zL s) = m at *
  sorry
end SW3
