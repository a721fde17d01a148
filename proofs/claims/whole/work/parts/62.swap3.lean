/-! ===== SWAPS: is it better ===== -/
section SW3
variable {s : ST} {c v : RT} {h : HP} {i j t : Nat}
def enD (s : ST) (j : Nat) : Nat := dF s (min 199 (tD s j + zL s) + 1)
def cA (s : ST) (w v : RT) (i j : Nat) (n : Nat) : Nat := cnt (fun t => dF s (tD s i) ≤ t ∧ mcB s v i j t = true ∧ beB s w t = true) n
theorem r_min (h : HP) (x y : Int32) : Run 0 j_Math_min [.int x, .int y] h (some (.int (if y < x then y else x))) h := by
  refine Run.of rfl ?_
  refine Wp.norm (L' := [_, _]) rfl ?_
  repeat (first | (refine W1 rfl ?_; try refine Wp.norm (L' := [_, _]) rfl ?_) | ((first | change (_ → _) ∧ (_ → _) | change vp_in _ _ ∧ _ | change ¬ _ ∧ _); simp (disch := omega) only [nI_clamp, nI_leI, nI_ltI, nI_eq, nI_1, nI_add, nI_not_neg, nI_is_pos, nI_m1, nI_z]) | refine brT (by first | assumption | decide | omega) ?_ | refine brF (by first | assumption | decide | omega) ?_ | refine brTn (by first | assumption | decide | omega) ?_ | refine brFn (by first | assumption | decide | omega) ?_ | refine And.intro (vp_in_nI (by omega) (by decide)) ?_ | refine And.intro (vp_lit (by decide)) ?_ | refine divJ (by decide) ?_ | refine divI (by decide) ?_)
  try change _ ∧ _
  refine ⟨fun q => ?_, fun q => ?_⟩
  · repeat (first | (refine W1 rfl ?_; try refine Wp.norm (L' := [_, _]) rfl ?_) | ((first | change (_ → _) ∧ (_ → _) | change vp_in _ _ ∧ _ | change ¬ _ ∧ _); simp (disch := omega) only [nI_clamp, nI_leI, nI_ltI, nI_eq, nI_1, nI_add, nI_not_neg, nI_is_pos, nI_m1, nI_z]) | refine brT (by first | assumption | decide | omega) ?_ | refine brF (by first | assumption | decide | omega) ?_ | refine brTn (by first | assumption | decide | omega) ?_ | refine brFn (by first | assumption | decide | omega) ?_ | refine And.intro (vp_in_nI (by omega) (by decide)) ?_ | refine And.intro (vp_lit (by decide)) ?_ | refine divJ (by decide) ?_ | refine divI (by decide) ?_)
    try change _ ∧ _
    rw [if_pos q]
    try first | exact ⟨rfl, rfl⟩ | exact ⟨Or.inr rfl, rfl, rfl⟩ | exact ⟨Or.inl rfl, rfl, rfl⟩ | exact ⟨trivial, trivial⟩ | exact ⟨rfl, trivial⟩ | exact ⟨Or.inr rfl, rfl, trivial⟩ | exact ⟨Or.inl rfl, rfl, trivial⟩
  · repeat (first | (refine W1 rfl ?_; try refine Wp.norm (L' := [_, _]) rfl ?_) | ((first | change (_ → _) ∧ (_ → _) | change vp_in _ _ ∧ _ | change ¬ _ ∧ _); simp (disch := omega) only [nI_clamp, nI_leI, nI_ltI, nI_eq, nI_1, nI_add, nI_not_neg, nI_is_pos, nI_m1, nI_z]) | refine brT (by first | assumption | decide | omega) ?_ | refine brF (by first | assumption | decide | omega) ?_ | refine brTn (by first | assumption | decide | omega) ?_ | refine brFn (by first | assumption | decide | omega) ?_ | refine And.intro (vp_in_nI (by omega) (by decide)) ?_ | refine And.intro (vp_lit (by decide)) ?_ | refine divJ (by decide) ?_ | refine divI (by decide) ?_)
    try change _ ∧ _
    rw [if_neg q]
    try first | exact ⟨rfl, rfl⟩ | exact ⟨Or.inr rfl, rfl, rfl⟩ | exact ⟨Or.inl rfl, rfl, rfl⟩ | exact ⟨trivial, trivial⟩ | exact ⟨rfl, trivial⟩ | exact ⟨Or.inr rfl, rfl, trivial⟩ | exact ⟨Or.inl rfl, rfl, trivial⟩
/-- v is the rota now, w the one that was measured -/
theorem r_moreBarred {w : RT} (R : RC s c v h) (o : OK s) (ro : RO s c v) (hi : i < zT s) (hj : j < zT s) (hm : ∀ t, t < zT s → h.1 55 t = bI (beB s w t)) : Run 3 j_Swapper_moreBarred [.ref 54, .int (nI i), .int (nI j)] h (some (.int (nI (cA s v v i j (enD s j)) - nI (cA s w v i j (enD s j))))) h := by
  have hT := o.T; have hP := o.P; have hK := o.K; have hD := o.D; have hO := o.O; have hQ := o.Q; have hL := o.L
  have d1 := o.day hi
  have d2 := o.day hj
  have hE := dF_le o (show min 199 (tD s j + zL s) + 1 < 201 by omega)
  have hst := dF_le o (show tD s i < 201 by omega)
  have lp : ∀ u, u ≤ max (dF s (tD s i)) (enD s j) → dF s (tD s i) ≤ u → Wp 3 j_Swapper_moreBarred 51 [.ref 54, .int (nI i), .int (nI j), .int (nI (cA s v v i j u) - nI (cA s w v i j u)), .int (nI (min 199 (tD s j + zL s))), .int (nI (enD s j)), .int (nI u)] [] h (fun v' h2 => v' = some (.int (nI (cA s v v i j (enD s j)) - nI (cA s w v i j (enD s j)))) ∧ h2 = h) := by
    have e0 : ∀ x, enD s j ≤ dF s (tD s i) → cA s x v i j (dF s (tD s i)) = cA s x v i j (enD s j) := by
      intro x hle
      have z : ∀ n, n ≤ dF s (tD s i) → cA s x v i j n = 0 := by
        intro n
        induction n with
        | zero => intro _; rfl
        | succ n ihn =>
          intro hn
          have e : cA s x v i j (n + 1) = cA s x v i j n + (if dF s (tD s i) ≤ n ∧ mcB s v i j n = true ∧ beB s x n = true then 1 else 0) := rfl
          rw [e, ihn (by omega), if_neg (fun q => by omega)]
      rw [z _ (Nat.le_refl _), z _ hle]
    have hEn : enD s j ≤ zT s := hE
    refine up_ind ?_ (fun u hu ih => ?_)
    · intro _
      by_cases hle : enD s j ≤ dF s (tD s i)
      · rw [show max (dF s (tD s i)) (enD s j) = dF s (tD s i) by omega, e0 v hle, e0 w hle]
        repeat (first | (refine W1 rfl ?_; try refine Wp.norm (L' := [_, _, _, _, _, _, _]) rfl ?_) | ((first | change (_ → _) ∧ (_ → _) | change vp_in _ _ ∧ _ | change ¬ _ ∧ _); simp (disch := omega) only [nI_clamp, nI_leI, nI_ltI, nI_eq, nI_1, nI_add, nI_not_neg, nI_is_pos, nI_m1, nI_z]) | refine brT (by first | assumption | decide | omega) ?_ | refine brF (by first | assumption | decide | omega) ?_ | refine brTn (by first | assumption | decide | omega) ?_ | refine brFn (by first | assumption | decide | omega) ?_ | refine And.intro (vp_in_nI (by omega) (by decide)) ?_ | refine And.intro (vp_lit (by decide)) ?_ | refine divJ (by decide) ?_ | refine divI (by decide) ?_)
        try change _ ∧ _
        try first | exact ⟨rfl, rfl⟩ | exact ⟨Or.inr rfl, rfl, rfl⟩ | exact ⟨Or.inl rfl, rfl, rfl⟩ | exact ⟨trivial, trivial⟩ | exact ⟨rfl, trivial⟩ | exact ⟨Or.inr rfl, rfl, trivial⟩ | exact ⟨Or.inl rfl, rfl, trivial⟩
      · rw [show max (dF s (tD s i)) (enD s j) = enD s j by omega]
        repeat (first | (refine W1 rfl ?_; try refine Wp.norm (L' := [_, _, _, _, _, _, _]) rfl ?_) | ((first | change (_ → _) ∧ (_ → _) | change vp_in _ _ ∧ _ | change ¬ _ ∧ _); simp (disch := omega) only [nI_clamp, nI_leI, nI_ltI, nI_eq, nI_1, nI_add, nI_not_neg, nI_is_pos, nI_m1, nI_z]) | refine brT (by first | assumption | decide | omega) ?_ | refine brF (by first | assumption | decide | omega) ?_ | refine brTn (by first | assumption | decide | omega) ?_ | refine brFn (by first | assumption | decide | omega) ?_ | refine And.intro (vp_in_nI (by omega) (by decide)) ?_ | refine And.intro (vp_lit (by decide)) ?_ | refine divJ (by decide) ?_ | refine divI (by decide) ?_)
        try change _ ∧ _
        try first | exact ⟨rfl, rfl⟩ | exact ⟨Or.inr rfl, rfl, rfl⟩ | exact ⟨Or.inl rfl, rfl, rfl⟩ | exact ⟨trivial, trivial⟩ | exact ⟨rfl, trivial⟩ | exact ⟨Or.inr rfl, rfl, trivial⟩ | exact ⟨Or.inl rfl, rfl, trivial⟩
    · intro hlo
      by_cases hue : u < enD s j
      · have huT : u < zT s := by omega
        have hdu : tD s i ≤ tD s u := by
          have := dF_lt o huT (show tD s i < 201 by omega)
          omega
        have ea : ∀ x, cA s x v i j (u + 1) = cA s x v i j u + (if dF s (tD s i) ≤ u ∧ mcB s v i j u = true ∧ beB s x u = true then 1 else 0) := fun _ => rfl
        have ih := ih (by omega)
        rw [ea v, ea w] at ih
        have hb := bOf_le (v := v) o u
        have hmu := hm u huT
        repeat (first | (refine W1 rfl ?_; try refine Wp.norm (L' := [_, _, _, _, _, _, _]) rfl ?_) | ((first | change (_ → _) ∧ (_ → _) | change vp_in _ _ ∧ _ | change ¬ _ ∧ _); simp (disch := omega) only [nI_clamp, nI_leI, nI_ltI, nI_eq, nI_1, nI_add, nI_not_neg, nI_is_pos, nI_m1, nI_z]) | refine brT (by first | assumption | decide | omega) ?_ | refine brF (by first | assumption | decide | omega) ?_ | refine brTn (by first | assumption | decide | omega) ?_ | refine brFn (by first | assumption | decide | omega) ?_ | refine And.intro (vp_in_nI (by omega) (by decide)) ?_ | refine And.intro (vp_lit (by decide)) ?_ | refine divJ (by decide) ?_ | refine divI (by decide) ?_)
        try change _ ∧ _
        refine Cl.of (r_mayChange R o hi hj huT hdu) (by decide) ?_
        cases hmc : mcB s v i j u with
        | false =>
          rw [if_neg (fun z => by rw [hmc] at z; cases z.2.1), if_neg (fun z => by rw [hmc] at z; cases z.2.1)] at ih
          repeat (first | refine Wp.at ih rfl rfl ?_ rfl | (refine W1 rfl ?_; try refine Wp.norm (L' := [_, _, _, _, _, _, _]) rfl ?_) | ((first | change (_ → _) ∧ (_ → _) | change vp_in _ _ ∧ _ | change ¬ _ ∧ _); simp (disch := omega) only [nI_clamp, nI_leI, nI_ltI, nI_eq, nI_1, nI_add, nI_not_neg, nI_is_pos, nI_m1, nI_z]) | refine brT (by first | assumption | decide | omega) ?_ | refine brF (by first | assumption | decide | omega) ?_ | refine brTn (by first | assumption | decide | omega) ?_ | refine brFn (by first | assumption | decide | omega) ?_ | refine And.intro (vp_in_nI (by omega) (by decide)) ?_ | refine And.intro (vp_lit (by decide)) ?_ | refine divJ (by decide) ?_ | refine divI (by decide) ?_)
          try change _ ∧ _
          first | done | rfl | (simp (disch := omega) only [nI_1, nI_add, nI_clamp] <;> first | done | rfl)
        | true =>
          repeat (first | (refine W1 rfl ?_; try refine Wp.norm (L' := [_, _, _, _, _, _, _]) rfl ?_) | ((first | change (_ → _) ∧ (_ → _) | change vp_in _ _ ∧ _ | change ¬ _ ∧ _); simp (disch := omega) only [nI_clamp, nI_leI, nI_ltI, nI_eq, nI_1, nI_add, nI_not_neg, nI_is_pos, nI_m1, nI_z]) | refine brT (by first | assumption | decide | omega) ?_ | refine brF (by first | assumption | decide | omega) ?_ | refine brTn (by first | assumption | decide | omega) ?_ | refine brFn (by first | assumption | decide | omega) ?_ | refine And.intro (vp_in_nI (by omega) (by decide)) ?_ | refine And.intro (vp_lit (by decide)) ?_ | refine divJ (by decide) ?_ | refine divI (by decide) ?_)
          try change _ ∧ _
          refine Cl.of (r_Rota_barOf R o ro huT) (by decide) ?_
          have fin : ∀ (x y : Nat), (x = if beB s v u = true then 1 else 0) → (y = if beB s w u = true then 1 else 0) → Wp 3 j_Swapper_moreBarred 51 [.ref 54, .int (nI i), .int (nI j), .int ((nI (cA s v v i j u) - nI (cA s w v i j u)) + (nI x - nI y)), .int (nI (min 199 (tD s j + zL s))), .int (nI (enD s j)), .int (nI (u + 1))] [] h (fun v' h2 => v' = some (.int (nI (cA s v v i j (enD s j)) - nI (cA s w v i j (enD s j)))) ∧ h2 = h) := by
            intro x y hx hy
            rw [i32_ab]
            have c1 : ∀ z : RT, (if dF s (tD s i) ≤ u ∧ mcB s v i j u = true ∧ beB s z u = true then 1 else 0) = (if beB s z u = true then 1 else 0) := fun z => by
              by_cases e : beB s z u = true
              · rw [if_pos ⟨hlo, hmc, e⟩, if_pos e]
              · rw [if_neg (fun q => e q.2.2), if_neg e]
            rw [c1, c1, ← hx, ← hy] at ih
            exact ih
          have hbv : beB s v u = decide (¬ bOf s v u = 0) := rfl
          generalize bOf s v u = q at *
          by_cases q0 : q = 0
          · subst q0
            have hbf : beB s v u = false := by rw [hbv]; decide
            cases hw : beB s w u with
            | false =>
              rw [hw] at hmu
              have ih := fin 0 0 (by rw [hbf]; rfl) (by rw [hw]; rfl)
              repeat (first | refine Wp.at ih rfl rfl ?_ rfl | (refine W1 rfl ?_; try refine Wp.norm (L' := [_, _, _, _, _, _, _]) rfl ?_) | ((first | change (_ → _) ∧ (_ → _) | change vp_in _ _ ∧ _ | change ¬ _ ∧ _); simp (disch := omega) only [nI_clamp, nI_leI, nI_ltI, nI_eq, nI_1, nI_add, nI_not_neg, nI_is_pos, nI_m1, nI_z, hmu, show bI false = 0 from rfl]) | refine brT (by first | assumption | decide | omega) ?_ | refine brF (by first | assumption | decide | omega) ?_ | refine brTn (by first | assumption | decide | omega) ?_ | refine brFn (by first | assumption | decide | omega) ?_ | refine And.intro (vp_in_nI (by omega) (by decide)) ?_ | refine And.intro (vp_lit (by decide)) ?_ | refine divJ (by decide) ?_ | refine divI (by decide) ?_)
              try change _ ∧ _
              first | done | rfl | (simp (disch := omega) only [nI_1, nI_add, nI_clamp] <;> first | done | rfl)
            | true =>
              rw [hw] at hmu
              have ih := fin 0 1 (by rw [hbf]; rfl) (by rw [hw]; rfl)
              repeat (first | refine Wp.at ih rfl rfl ?_ rfl | (refine W1 rfl ?_; try refine Wp.norm (L' := [_, _, _, _, _, _, _]) rfl ?_) | ((first | change (_ → _) ∧ (_ → _) | change vp_in _ _ ∧ _ | change ¬ _ ∧ _); simp (disch := omega) only [nI_clamp, nI_leI, nI_ltI, nI_eq, nI_1, nI_add, nI_not_neg, nI_is_pos, nI_m1, nI_z, hmu, show bI true = 1 from rfl]) | refine brT (by first | assumption | decide | omega) ?_ | refine brF (by first | assumption | decide | omega) ?_ | refine brTn (by first | assumption | decide | omega) ?_ | refine brFn (by first | assumption | decide | omega) ?_ | refine And.intro (vp_in_nI (by omega) (by decide)) ?_ | refine And.intro (vp_lit (by decide)) ?_ | refine divJ (by decide) ?_ | refine divI (by decide) ?_)
              try change _ ∧ _
              first | done | rfl | (simp (disch := omega) only [nI_1, nI_add, nI_clamp] <;> first | done | rfl)
          · have hbf : beB s v u = true := by rw [hbv]; simpa using q0
            cases hw : beB s w u with
            | false =>
              rw [hw] at hmu
              have ih := fin 1 0 (by rw [hbf]; rfl) (by rw [hw]; rfl)
              repeat (first | refine Wp.at ih rfl rfl ?_ rfl | (refine W1 rfl ?_; try refine Wp.norm (L' := [_, _, _, _, _, _, _]) rfl ?_) | ((first | change (_ → _) ∧ (_ → _) | change vp_in _ _ ∧ _ | change ¬ _ ∧ _); simp (disch := omega) only [nI_clamp, nI_leI, nI_ltI, nI_eq, nI_1, nI_add, nI_not_neg, nI_is_pos, nI_m1, nI_z, hmu, show bI false = 0 from rfl]) | refine brT (by first | assumption | decide | omega) ?_ | refine brF (by first | assumption | decide | omega) ?_ | refine brTn (by first | assumption | decide | omega) ?_ | refine brFn (by first | assumption | decide | omega) ?_ | refine And.intro (vp_in_nI (by omega) (by decide)) ?_ | refine And.intro (vp_lit (by decide)) ?_ | refine divJ (by decide) ?_ | refine divI (by decide) ?_)
              try change _ ∧ _
              first | done | rfl | (simp (disch := omega) only [nI_1, nI_add, nI_clamp] <;> first | done | rfl)
            | true =>
              rw [hw] at hmu
              have ih := fin 1 1 (by rw [hbf]; rfl) (by rw [hw]; rfl)
              repeat (first | refine Wp.at ih rfl rfl ?_ rfl | (refine W1 rfl ?_; try refine Wp.norm (L' := [_, _, _, _, _, _, _]) rfl ?_) | ((first | change (_ → _) ∧ (_ → _) | change vp_in _ _ ∧ _ | change ¬ _ ∧ _); simp (disch := omega) only [nI_clamp, nI_leI, nI_ltI, nI_eq, nI_1, nI_add, nI_not_neg, nI_is_pos, nI_m1, nI_z, hmu, show bI true = 1 from rfl]) | refine brT (by first | assumption | decide | omega) ?_ | refine brF (by first | assumption | decide | omega) ?_ | refine brTn (by first | assumption | decide | omega) ?_ | refine brFn (by first | assumption | decide | omega) ?_ | refine And.intro (vp_in_nI (by omega) (by decide)) ?_ | refine And.intro (vp_lit (by decide)) ?_ | refine divJ (by decide) ?_ | refine divI (by decide) ?_)
              try change _ ∧ _
              first | done | rfl | (simp (disch := omega) only [nI_1, nI_add, nI_clamp] <;> first | done | rfl)
      · exfalso
        omega
  have z0 : ∀ x, cA s x v i j (dF s (tD s i)) = 0 := by
    intro x
    have z : ∀ n, n ≤ dF s (tD s i) → cA s x v i j n = 0 := by
      intro n
      induction n with
      | zero => intro _; rfl
      | succ n ihn =>
        intro hn
        have e : cA s x v i j (n + 1) = cA s x v i j n + (if dF s (tD s i) ≤ n ∧ mcB s v i j n = true ∧ beB s x n = true then 1 else 0) := rfl
        rw [e, ihn (by omega), if_neg (fun q => by omega)]
    exact z _ (Nat.le_refl _)
  have ih := lp (dF s (tD s i)) (by omega) (Nat.le_refl _)
  rw [z0, z0, show nI 0 - nI 0 = (0 : Int32) from by decide] at ih
  have emin : (if nI (tD s j) + nI (zL s) < (199 : Int32) then nI (tD s j) + nI (zL s) else 199) = nI (min 199 (tD s j + zL s)) := by
    rw [nI_add, show (199 : Int32) = nI 199 from rfl]
    by_cases e : tD s j + zL s < 199
    · rw [if_pos ((nI_ltI (by omega) (by omega)).mpr e), show min 199 (tD s j + zL s) = tD s j + zL s by omega]
    · rw [if_neg (fun z => e ((nI_ltI (by omega) (by omega)).mp z)), show min 199 (tD s j + zL s) = 199 by omega]
  refine Run.of rfl ?_
  refine Wp.norm (L' := [_, _, _, _, _, _, _]) rfl ?_
  repeat (first | (refine W1 rfl ?_; try refine Wp.norm (L' := [_, _, _, _, _, _, _]) rfl ?_) | ((first | change (_ → _) ∧ (_ → _) | change vp_in _ _ ∧ _ | change ¬ _ ∧ _); simp (disch := omega) only [nI_clamp, nI_leI, nI_ltI, nI_eq, nI_1, nI_add, nI_not_neg, nI_is_pos, nI_m1, nI_z]) | refine brT (by first | assumption | decide | omega) ?_ | refine brF (by first | assumption | decide | omega) ?_ | refine brTn (by first | assumption | decide | omega) ?_ | refine brFn (by first | assumption | decide | omega) ?_ | refine And.intro (vp_in_nI (by omega) (by decide)) ?_ | refine And.intro (vp_lit (by decide)) ?_ | refine divJ (by decide) ?_ | refine divI (by decide) ?_)
  try change _ ∧ _
  have rm := r_min h 199 (nI (tD s j) + nI (zL s))
  rw [emin] at rm
  refine Cl.ofA rm (by first | done | rfl | (simp (disch := omega) only [nI_1, nI_add, nI_clamp, R.day, R.lng] <;> first | done | rfl)) (by decide) ?_
  repeat (first | (refine W1 rfl ?_; try refine Wp.norm (L' := [_, _, _, _, _, _, _]) rfl ?_) | ((first | change (_ → _) ∧ (_ → _) | change vp_in _ _ ∧ _ | change ¬ _ ∧ _); simp (disch := omega) only [nI_clamp, nI_leI, nI_ltI, nI_eq, nI_1, nI_add, nI_not_neg, nI_is_pos, nI_m1, nI_z]) | refine brT (by first | assumption | decide | omega) ?_ | refine brF (by first | assumption | decide | omega) ?_ | refine brTn (by first | assumption | decide | omega) ?_ | refine brFn (by first | assumption | decide | omega) ?_ | refine And.intro (vp_in_nI (by omega) (by decide)) ?_ | refine And.intro (vp_lit (by decide)) ?_ | refine divJ (by decide) ?_ | refine divI (by decide) ?_)
  try change _ ∧ _
  refine Cl.of (r_Rota_dayStart R o hi) (by decide) ?_
  have e44 := R.dfs (show min 199 (tD s j + zL s) + 1 < 201 by omega)
  have hed : dF s (min 199 (tD s j + zL s) + 1) = enD s j := rfl
  rw [hed] at e44
  repeat (first | refine Wp.at ih rfl rfl ?_ rfl | (refine W1 rfl ?_; try refine Wp.norm (L' := [_, _, _, _, _, _, _]) rfl ?_) | ((first | change (_ → _) ∧ (_ → _) | change vp_in _ _ ∧ _ | change ¬ _ ∧ _); simp (disch := omega) only [nI_clamp, nI_leI, nI_ltI, nI_eq, nI_1, nI_add, nI_not_neg, nI_is_pos, nI_m1, nI_z]) | refine brT (by first | assumption | decide | omega) ?_ | refine brF (by first | assumption | decide | omega) ?_ | refine brTn (by first | assumption | decide | omega) ?_ | refine brFn (by first | assumption | decide | omega) ?_ | refine And.intro (vp_in_nI (by omega) (by decide)) ?_ | refine And.intro (vp_lit (by decide)) ?_ | refine divJ (by decide) ?_ | refine divI (by decide) ?_)
  try change _ ∧ _
  first | done | rfl | (simp (disch := omega) only [nI_1, nI_add, nI_clamp, e44] <;> first | done | rfl)
theorem cnt_dif (P Q C : Nat → Prop) [DecidablePred P] [DecidablePred Q] [DecidablePred C] (e : Nat) : ∀ n, (∀ t, t < n → ¬ (t < e ∧ C t) → (P t ↔ Q t)) → cnt P n + cnt (fun t => C t ∧ Q t) (min n e) = cnt Q n + cnt (fun t => C t ∧ P t) (min n e)
  | 0, _ => by rw [Nat.zero_min]; rfl
  | n + 1, H => by
    have ih := cnt_dif P Q C e n (fun t ht => H t (by omega))
    have hn := H n (by omega)
    have eP : cnt P (n + 1) = cnt P n + (if P n then 1 else 0) := rfl
    have eQ : cnt Q (n + 1) = cnt Q n + (if Q n then 1 else 0) := rfl
    rw [eP, eQ]
    by_cases hin : n < e
    · rw [show min (n + 1) e = n + 1 by omega]
      rw [show min n e = n by omega] at ih
      have e1 : cnt (fun t => C t ∧ Q t) (n + 1) = cnt (fun t => C t ∧ Q t) n + (if C n ∧ Q n then 1 else 0) := rfl
      have e2 : cnt (fun t => C t ∧ P t) (n + 1) = cnt (fun t => C t ∧ P t) n + (if C n ∧ P n then 1 else 0) := rfl
      rw [e1, e2]
      by_cases hc : C n
      · simp only [hc, true_and]
        omega
      · have := hn (fun z => hc z.2)
        simp only [hc, false_and, if_false, this]
        omega
    · rw [show min (n + 1) e = min n e by omega]
      have := hn (fun z => hin z.1)
      simp only [this]
      omega
theorem bar_mc (o : OK s) (ro : RO s c v) (hi : i < zT s) (hj : j < zT s) (hij : i < j) (ht : t < zT s) (hn : ¬ (t < enD s j ∧ dF s (tD s i) ≤ t ∧ mcB s (swp v i j) i j t = true)) : bOf s (swp v i j) t = bOf s v t := by
  have hT := o.T; have hP := o.P; have hK := o.K; have hD := o.D; have hO := o.O; have hQ := o.Q; have hL := o.L
  have d1 := o.day hi
  have d2 := o.day hj
  have d3 := o.day ht
  have dij := o.up (Nat.le_of_lt hij) hj
  have hne : i ≠ j := by omega
  obtain ⟨m, hM1, hM2, hM3⟩ : ∃ m, enD s j = dF s (m + 1) ∧ m ≤ 199 ∧ (m = 199 ∨ m = tD s j + zL s) := ⟨min 199 (tD s j + zL s), rfl, by omega, by omega⟩
  have hE := dF_lt o ht (show m + 1 < 201 by omega)
  rw [← hM1] at hE
  have hS := dF_lt o ht (show tD s i < 201 by omega)
  by_cases hin : t < enD s j
  · by_cases hds : dF s (tD s i) ≤ t
    · have hm : mcB s (swp v i j) i j t = false := by
        cases em : mcB s (swp v i j) i j t with
        | false => rfl
        | true => exact absurd ⟨hin, hds, em⟩ hn
      unfold mcB at hm
      rw [Bool.or_eq_false_iff, Bool.and_eq_false_iff, Bool.or_eq_false_iff] at hm
      simp only [decide_eq_false_iff_not] at hm
      obtain ⟨m1, m2⟩ := hm
      have hdn : tD s i ≤ tD s t := by omega
      have hn1 : tD s t ≠ tD s i ∧ tD s t ≠ tD s j := by
        unfold snc at m1
        split at m1 <;> omega
      have hni : t ≠ i := fun z => hn1.1 (by rw [z])
      have hnj : t ≠ j := fun z => hn1.2 (by rw [z])
      refine bar_same o ro hi hj ht hn1.1 hn1.2 ?_
      rcases m2 with m2 | ⟨m2, m3⟩
      · right
        unfold snc at m2
        split at m2 <;> omega
      · left
        rw [swp_o v hni hnj, swp_i] at m2
        rw [swp_o v hni hnj, swp_j v hne] at m3
        exact ⟨m3, m2⟩
    · exact bar_same o ro hi hj ht (by omega) (by omega) (Or.inr ⟨by omega, by omega⟩)
  · exact bar_same o ro hi hj ht (by omega) (by omega) (Or.inr ⟨by omega, by omega⟩)
/-- how many more are barred -/
theorem bars_diff (o : OK s) (ro : RO s c v) (hi : i < zT s) (hj : j < zT s) (hij : i < j) : brs s (swp v i j) (zT s) + cA s v (swp v i j) i j (enD s j) = brs s v (zT s) + cA s (swp v i j) (swp v i j) i j (enD s j) := by
  have d2 := o.day hj
  have hD := o.D
  have hE : enD s j ≤ zT s := by
    unfold enD
    exact dF_le o (by omega)
  have key := cnt_dif (fun t => ¬ bOf s (swp v i j) t = 0) (fun t => ¬ bOf s v t = 0) (fun t => dF s (tD s i) ≤ t ∧ mcB s (swp v i j) i j t = true) (enD s j) (zT s) (fun t ht hn => by
    rw [bar_mc o ro hi hj hij ht hn])
  rw [Nat.min_eq_right hE] at key
  have sh : ∀ x : RT, cnt (fun t => (dF s (tD s i) ≤ t ∧ mcB s (swp v i j) i j t = true) ∧ ¬ bOf s x t = 0) (enD s j) = cA s x (swp v i j) i j (enD s j) := fun x => cnt_congr (fun t _ => by
    unfold beB
    simp only [decide_eq_true_eq, and_assoc])
  rw [sh, sh] at key
  exact key
end SW3
