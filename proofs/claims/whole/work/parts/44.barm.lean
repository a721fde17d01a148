/-! ===== BARS: the model's side ===== -/
theorem Cl.ofA {d d' j : Nat} {as as' : List Value} {h h2 : HP} {v : Option Value} {k : QT} (hr : Run d' j as h v h2) (ha : as = as') (hd : d' < d) (hk : k v h2) : Cl d j as' h k := by
  subst ha
  exact Cl.of hr hd hk
section BARM
variable {s : ST} {c v : RT} {h : HP}
theorem rs_iff (o : OK s) (p : Nat) {t : Nat} (ht : t < zT s) : rsB s v p t = true ↔ ∃ u, u < t ∧ tD s t - tD s u ≠ 0 ∧ v u = nI p ∧ asks s u t = true := by
  unfold rsB
  rw [anyB_iff]
  simp only [Bool.and_eq_true, decide_eq_true_eq]
  constructor
  · rintro ⟨u, a1, ⟨a2, a3⟩, a4⟩
    refine ⟨u, ?_, by omega, a3, a4⟩
    refine Nat.lt_of_not_le fun z => ?_
    have := o.up z a1
    omega
  · rintro ⟨u, a1, a2, a3, a4⟩
    exact ⟨u, by omega, ⟨by omega, a3⟩, a4⟩
theorem asks_iff (o : OK s) {u t : Nat} (hu : u < zT s) (ht : t < zT s) (hn : tD s t - tD s u ≠ 0) : asks s u t = true ↔ ∃ r, r < zO s ∧ oS s r = 3 ∧ oA s r = tK s u ∧ oB s r = tK s t ∧ tD s t - tD s u ≤ oC s r := by
  have hK := o.K
  have h1 := o.knd hu
  have h2 := o.knd ht
  rw [← o.rst (by omega) (by omega) (by omega)]
  unfold asks
  simp
theorem r_M_isRested (R : RM s c v h) (o : OK s) {p t : Nat} (hp : p < zP s) (ht : t < zT s) : Run 0 j_M_isRested [.ref 65, .int (nI p), .int (nI t)] h (some (.int (if rsB s v p t = true then 0 else 1))) h := by
  have hT := o.T; have hP := o.P; have hK := o.K; have hD := o.D; have hO := o.O; have hQ := o.Q; have hL := o.L
  have hd := o.day ht
  have hk := o.knd ht
  have e60 : (60 : Int32) = nI 60 := rfl
  have lp : ∀ u, u ≤ t → ∀ x4 x5, (¬ ∃ u', u' < u ∧ tD s t - tD s u' ≠ 0 ∧ v u' = nI p ∧ asks s u' t = true) → Wp 0 j_M_isRested 2 [.ref 65, .int (nI p), .int (nI t), .int (nI u), x4, x5] [] h (fun v' h2 => v' = some (.int (if rsB s v p t = true then 0 else 1)) ∧ h2 = h) := by
    refine up_ind ?_ (fun u hu ih => ?_)
    · intro x4 x5 B
      repeat (first | (refine W1 rfl ?_; try refine Wp.norm (L' := [_, _, _, _, _, _]) rfl ?_) | refine brT (by first | assumption | decide | omega) ?_ | refine brF (by first | assumption | decide | omega) ?_ | refine brTn (by first | assumption | decide | omega) ?_ | refine brFn (by first | assumption | decide | omega) ?_ | ((first | change (_ → _) ∧ (_ → _) | change vp_in _ _ ∧ _ | change ¬ _ ∧ _); simp (disch := omega) only [nI_clamp, nI_leI, nI_ltI, nI_eq, nI_1, nI_add, nI_not_neg, nI_is_pos, nI_m1, nI_z]) | refine And.intro (vp_in_nI (by omega) (by decide)) ?_ | refine And.intro (vp_lit (by decide)) ?_)
      try change _ ∧ _
      rw [if_neg (fun z => B ((rs_iff o p ht).mp z))]
      try first | exact ⟨rfl, rfl⟩ | exact ⟨Or.inr rfl, rfl, rfl⟩ | exact ⟨Or.inl rfl, rfl, rfl⟩ | exact ⟨trivial, trivial⟩ | exact ⟨rfl, trivial⟩ | exact ⟨Or.inr rfl, rfl, trivial⟩ | exact ⟨Or.inl rfl, rfl, trivial⟩
    · intro x4 x5 B
      have huT : u < zT s := by omega
      have hut := o.up (Nat.le_of_lt hu) ht
      have hdu := o.day huT
      have hku := o.knd huT
      have next : ¬ (tD s t - tD s u ≠ 0 ∧ v u = nI p ∧ asks s u t = true) → ∀ x5, Wp 0 j_M_isRested 121 [.ref 65, .int (nI p), .int (nI t), .int (nI u), .int (nI (tD s t - tD s u)), x5] [] h (fun v' h2 => v' = some (.int (if rsB s v p t = true then 0 else 1)) ∧ h2 = h) := by
        intro no x5
        have ih := ih (.int (nI (tD s t - tD s u))) x5 (by
          rintro ⟨u', a1, a2⟩
          by_cases e : u' = u
          · subst e; exact no a2
          · exact B ⟨u', by omega, a2⟩)
        repeat (first | refine Wp.at ih rfl rfl ?_ rfl | (refine W1 rfl ?_; try refine Wp.norm (L' := [_, _, _, _, _, _]) rfl ?_) | refine brT (by first | assumption | decide | omega) ?_ | refine brF (by first | assumption | decide | omega) ?_ | refine brTn (by first | assumption | decide | omega) ?_ | refine brFn (by first | assumption | decide | omega) ?_ | ((first | change (_ → _) ∧ (_ → _) | change vp_in _ _ ∧ _ | change ¬ _ ∧ _); simp (disch := omega) only [nI_clamp, nI_leI, nI_ltI, nI_eq, nI_1, nI_add, nI_not_neg, nI_is_pos, nI_m1, nI_z]) | refine And.intro (vp_in_nI (by omega) (by decide)) ?_ | refine And.intro (vp_lit (by decide)) ?_)
        try change _ ∧ _
        first | rfl | (simp (disch := omega) only [nI_1, nI_add, nI_clamp] <;> first | done | rfl)
      repeat (first | (refine W1 rfl ?_; try refine Wp.norm (L' := [_, _, _, _, _, _]) rfl ?_) | refine brT (by first | assumption | decide | omega) ?_ | refine brF (by first | assumption | decide | omega) ?_ | refine brTn (by first | assumption | decide | omega) ?_ | refine brFn (by first | assumption | decide | omega) ?_ | ((first | change (_ → _) ∧ (_ → _) | change vp_in _ _ ∧ _ | change ¬ _ ∧ _); simp (disch := omega) only [nI_clamp, nI_leI, nI_ltI, nI_eq, nI_1, nI_add, nI_not_neg, nI_is_pos, nI_m1, nI_z, R.day, pk_sub, R.srv]) | refine And.intro (vp_in_nI (by omega) (by decide)) ?_ | refine And.intro (vp_lit (by decide)) ?_)
      try change _ ∧ _
      refine ⟨fun q1 => ?_, fun q1 => ?_⟩
      · exact next (fun z => q1 z.2.1) _
      · repeat (first | (refine W1 rfl ?_; try refine Wp.norm (L' := [_, _, _, _, _, _]) rfl ?_) | refine brT (by first | assumption | decide | omega) ?_ | refine brF (by first | assumption | decide | omega) ?_ | refine brTn (by first | assumption | decide | omega) ?_ | refine brFn (by first | assumption | decide | omega) ?_ | ((first | change (_ → _) ∧ (_ → _) | change vp_in _ _ ∧ _ | change ¬ _ ∧ _); simp (disch := omega) only [nI_clamp, nI_leI, nI_ltI, nI_eq, nI_1, nI_add, nI_not_neg, nI_is_pos, nI_m1, nI_z]) | refine And.intro (vp_in_nI (by omega) (by decide)) ?_ | refine And.intro (vp_lit (by decide)) ?_)
        try change _ ∧ _
        refine ⟨fun q2 => ?_, fun q2 => ?_⟩
        · have inner : ∀ r, r ≤ zO s → (¬ ∃ r', r' < r ∧ oS s r' = 3 ∧ oA s r' = tK s u ∧ oB s r' = tK s t ∧ tD s t - tD s u ≤ oC s r') → Wp 0 j_M_isRested 44 [.ref 65, .int (nI p), .int (nI t), .int (nI u), .int (nI (tD s t - tD s u)), .int (nI (60 + r))] [] h (fun v' h2 => v' = some (.int (if rsB s v p t = true then 0 else 1)) ∧ h2 = h) := by
            refine up_ind ?_ (fun r hr ih2 => ?_)
            · intro A
              have ih := next (fun z => A ((asks_iff o huT ht q2).mp z.2.2)) (.int (nI (60 + zO s)))
              (refine W1 rfl ?_; try refine Wp.norm (L' := [_, _, _, _, _, _]) rfl ?_)
              repeat (first | refine Wp.at ih rfl rfl ?_ rfl | (refine W1 rfl ?_; try refine Wp.norm (L' := [_, _, _, _, _, _]) rfl ?_) | refine brT (by first | assumption | decide | omega) ?_ | refine brF (by first | assumption | decide | omega) ?_ | refine brTn (by first | assumption | decide | omega) ?_ | refine brFn (by first | assumption | decide | omega) ?_ | ((first | change (_ → _) ∧ (_ → _) | change vp_in _ _ ∧ _ | change ¬ _ ∧ _); simp (disch := omega) only [nI_clamp, nI_leI, nI_ltI, nI_eq, nI_1, nI_add, nI_not_neg, nI_is_pos, nI_m1, nI_z, show Int32.toNatClampNeg 1 = 1 from rfl, R.oth, e60]) | refine And.intro (vp_in_nI (by omega) (by decide)) ?_ | refine And.intro (vp_lit (by decide)) ?_)
              try change _ ∧ _
              first | rfl | (simp (disch := omega) only [nI_1, nI_add, nI_clamp] <;> first | done | rfl)
            · intro A
              have ho := o.oth hr
              have nxt : ¬ (oS s r = 3 ∧ oA s r = tK s u ∧ oB s r = tK s t ∧ tD s t - tD s u ≤ oC s r) → Wp 0 j_M_isRested 115 [.ref 65, .int (nI p), .int (nI t), .int (nI u), .int (nI (tD s t - tD s u)), .int (nI (60 + r))] [] h (fun v' h2 => v' = some (.int (if rsB s v p t = true then 0 else 1)) ∧ h2 = h) := by
                intro no
                have ih := ih2 (by
                  rintro ⟨r', a1, a2⟩
                  by_cases e : r' = r
                  · subst e; exact no a2
                  · exact A ⟨r', by omega, a2⟩)
                repeat (first | refine Wp.at ih rfl rfl ?_ rfl | (refine W1 rfl ?_; try refine Wp.norm (L' := [_, _, _, _, _, _]) rfl ?_) | refine brT (by first | assumption | decide | omega) ?_ | refine brF (by first | assumption | decide | omega) ?_ | refine brTn (by first | assumption | decide | omega) ?_ | refine brFn (by first | assumption | decide | omega) ?_ | ((first | change (_ → _) ∧ (_ → _) | change vp_in _ _ ∧ _ | change ¬ _ ∧ _); simp (disch := omega) only [nI_clamp, nI_leI, nI_ltI, nI_eq, nI_1, nI_add, nI_not_neg, nI_is_pos, nI_m1, nI_z]) | refine And.intro (vp_in_nI (by omega) (by decide)) ?_ | refine And.intro (vp_lit (by decide)) ?_)
                try change _ ∧ _
                first | rfl | (simp (disch := omega) only [nI_1, nI_add, nI_clamp] <;> first | done | rfl)
              repeat (first | (refine W1 rfl ?_; try refine Wp.norm (L' := [_, _, _, _, _, _]) rfl ?_) | refine brT (by first | assumption | decide | omega) ?_ | refine brF (by first | assumption | decide | omega) ?_ | refine brTn (by first | assumption | decide | omega) ?_ | refine brFn (by first | assumption | decide | omega) ?_ | ((first | change (_ → _) ∧ (_ → _) | change vp_in _ _ ∧ _ | change ¬ _ ∧ _); simp (disch := omega) only [nI_clamp, nI_leI, nI_ltI, nI_eq, nI_1, nI_add, nI_not_neg, nI_is_pos, nI_m1, nI_z, show Int32.toNatClampNeg 1 = 1 from rfl, R.oth, e60, R.osr, show (3 : Int32) = nI 3 from rfl]) | refine And.intro (vp_in_nI (by omega) (by decide)) ?_ | refine And.intro (vp_lit (by decide)) ?_)
              try change _ ∧ _
              refine ⟨fun w1 => nxt (fun z => w1 z.1), fun w1 => ?_⟩
              repeat (first | (refine W1 rfl ?_; try refine Wp.norm (L' := [_, _, _, _, _, _]) rfl ?_) | refine brT (by first | assumption | decide | omega) ?_ | refine brF (by first | assumption | decide | omega) ?_ | refine brTn (by first | assumption | decide | omega) ?_ | refine brFn (by first | assumption | decide | omega) ?_ | ((first | change (_ → _) ∧ (_ → _) | change vp_in _ _ ∧ _ | change ¬ _ ∧ _); simp (disch := omega) only [nI_clamp, nI_leI, nI_ltI, nI_eq, nI_1, nI_add, nI_not_neg, nI_is_pos, nI_m1, nI_z, R.oon, R.knd]) | refine And.intro (vp_in_nI (by omega) (by decide)) ?_ | refine And.intro (vp_lit (by decide)) ?_)
              try change _ ∧ _
              refine ⟨fun w2 => nxt (fun z => w2 z.2.1), fun w2 => ?_⟩
              repeat (first | (refine W1 rfl ?_; try refine Wp.norm (L' := [_, _, _, _, _, _]) rfl ?_) | refine brT (by first | assumption | decide | omega) ?_ | refine brF (by first | assumption | decide | omega) ?_ | refine brTn (by first | assumption | decide | omega) ?_ | refine brFn (by first | assumption | decide | omega) ?_ | ((first | change (_ → _) ∧ (_ → _) | change vp_in _ _ ∧ _ | change ¬ _ ∧ _); simp (disch := omega) only [nI_clamp, nI_leI, nI_ltI, nI_eq, nI_1, nI_add, nI_not_neg, nI_is_pos, nI_m1, nI_z, R.otw, R.knd]) | refine And.intro (vp_in_nI (by omega) (by decide)) ?_ | refine And.intro (vp_lit (by decide)) ?_)
              try change _ ∧ _
              refine ⟨fun w3 => nxt (fun z => w3 z.2.2.1), fun w3 => ?_⟩
              repeat (first | (refine W1 rfl ?_; try refine Wp.norm (L' := [_, _, _, _, _, _]) rfl ?_) | refine brT (by first | assumption | decide | omega) ?_ | refine brF (by first | assumption | decide | omega) ?_ | refine brTn (by first | assumption | decide | omega) ?_ | refine brFn (by first | assumption | decide | omega) ?_ | ((first | change (_ → _) ∧ (_ → _) | change vp_in _ _ ∧ _ | change ¬ _ ∧ _); simp (disch := omega) only [nI_clamp, nI_leI, nI_ltI, nI_eq, nI_1, nI_add, nI_not_neg, nI_is_pos, nI_m1, nI_z, R.oth3]) | refine And.intro (vp_in_nI (by omega) (by decide)) ?_ | refine And.intro (vp_lit (by decide)) ?_)
              try change _ ∧ _
              refine ⟨fun w4 => nxt (fun z => by omega), fun w4 => ?_⟩
              repeat (first | (refine W1 rfl ?_; try refine Wp.norm (L' := [_, _, _, _, _, _]) rfl ?_) | refine brT (by first | assumption | decide | omega) ?_ | refine brF (by first | assumption | decide | omega) ?_ | refine brTn (by first | assumption | decide | omega) ?_ | refine brFn (by first | assumption | decide | omega) ?_ | ((first | change (_ → _) ∧ (_ → _) | change vp_in _ _ ∧ _ | change ¬ _ ∧ _); simp (disch := omega) only [nI_clamp, nI_leI, nI_ltI, nI_eq, nI_1, nI_add, nI_not_neg, nI_is_pos, nI_m1, nI_z]) | refine And.intro (vp_in_nI (by omega) (by decide)) ?_ | refine And.intro (vp_lit (by decide)) ?_)
              try change _ ∧ _
              rw [if_pos ((rs_iff o p ht).mpr ⟨u, hu, q2, q1, (asks_iff o huT ht q2).mpr ⟨r, hr, w1, w2, w3, by omega⟩⟩)]
              try first | exact ⟨rfl, rfl⟩ | exact ⟨Or.inr rfl, rfl, rfl⟩ | exact ⟨Or.inl rfl, rfl, rfl⟩ | exact ⟨trivial, trivial⟩ | exact ⟨rfl, trivial⟩ | exact ⟨Or.inr rfl, rfl, trivial⟩ | exact ⟨Or.inl rfl, rfl, trivial⟩
          have ih := inner 0 (Nat.zero_le _) (by rintro ⟨r', a1, _⟩; omega)
          repeat (first | refine Wp.at ih rfl rfl ?_ rfl | (refine W1 rfl ?_; try refine Wp.norm (L' := [_, _, _, _, _, _]) rfl ?_) | refine brT (by first | assumption | decide | omega) ?_ | refine brF (by first | assumption | decide | omega) ?_ | refine brTn (by first | assumption | decide | omega) ?_ | refine brFn (by first | assumption | decide | omega) ?_ | ((first | change (_ → _) ∧ (_ → _) | change vp_in _ _ ∧ _ | change ¬ _ ∧ _); simp (disch := omega) only [nI_clamp, nI_leI, nI_ltI, nI_eq, nI_1, nI_add, nI_not_neg, nI_is_pos, nI_m1, nI_z]) | refine And.intro (vp_in_nI (by omega) (by decide)) ?_ | refine And.intro (vp_lit (by decide)) ?_)
          try change _ ∧ _
          first | rfl | (simp (disch := omega) only [nI_1, nI_add, nI_clamp] <;> first | done | rfl)
        · have ih := next (fun z => z.1 q2) x5
          repeat (first | refine Wp.at ih rfl rfl ?_ rfl | (refine W1 rfl ?_; try refine Wp.norm (L' := [_, _, _, _, _, _]) rfl ?_) | refine brT (by first | assumption | decide | omega) ?_ | refine brF (by first | assumption | decide | omega) ?_ | refine brTn (by first | assumption | decide | omega) ?_ | refine brFn (by first | assumption | decide | omega) ?_ | ((first | change (_ → _) ∧ (_ → _) | change vp_in _ _ ∧ _ | change ¬ _ ∧ _); simp (disch := omega) only [nI_clamp, nI_leI, nI_ltI, nI_eq, nI_1, nI_add, nI_not_neg, nI_is_pos, nI_m1, nI_z]) | refine And.intro (vp_in_nI (by omega) (by decide)) ?_ | refine And.intro (vp_lit (by decide)) ?_)
          try change _ ∧ _
          first | rfl | (simp (disch := omega) only [nI_1, nI_add, nI_clamp] <;> first | done | rfl)
  refine Run.of rfl ?_
  refine Wp.norm (L' := [_, _, _, _, _, _]) rfl ?_
  have ih := lp 0 (Nat.zero_le _) .null .null (by rintro ⟨u', a1, _⟩; omega)
  repeat (first | refine Wp.at ih rfl rfl ?_ rfl | (refine W1 rfl ?_; try refine Wp.norm (L' := [_, _, _, _, _, _]) rfl ?_) | refine brT (by first | assumption | decide | omega) ?_ | refine brF (by first | assumption | decide | omega) ?_ | refine brTn (by first | assumption | decide | omega) ?_ | refine brFn (by first | assumption | decide | omega) ?_ | ((first | change (_ → _) ∧ (_ → _) | change vp_in _ _ ∧ _ | change ¬ _ ∧ _); simp (disch := omega) only [nI_clamp, nI_leI, nI_ltI, nI_eq, nI_1, nI_add, nI_not_neg, nI_is_pos, nI_m1, nI_z]) | refine And.intro (vp_in_nI (by omega) (by decide)) ?_ | refine And.intro (vp_lit (by decide)) ?_)
  try change _ ∧ _
  first | rfl | (simp (disch := omega) only [nI_1, nI_add, nI_clamp] <;> first | done | rfl)
/-- who else a pair names -/
def pr2 (s : ST) (r p : Nat) : Nat := if oA s r = p then oB s r else oA s r
theorem ap_iff (o : OK s) {p : Nat} (hp : p < zP s) (t : Nat) : apB s v p t = true ↔ ∃ r, r < zO s ∧ oS s r = 4 ∧ (oA s r = p ∨ oB s r = p) ∧ oth s v (pr2 s r p) t = true := by
  unfold apB
  rw [anyB_iff]
  simp only [Bool.and_eq_true]
  constructor
  · rintro ⟨q, a1, a2, a3⟩
    obtain ⟨r, b1, b2, b3⟩ := (o.aps hp a1).mp a2
    have ho := (o.oth b1).2.2.2.2 (Or.inl b2)
    refine ⟨r, b1, b2, ?_, ?_⟩
    · rcases b3 with ⟨e1, _⟩ | ⟨_, e2⟩
      · exact Or.inl e1
      · exact Or.inr e2
    · unfold pr2
      rcases b3 with ⟨e1, e2⟩ | ⟨e1, e2⟩
      · rw [if_pos e1, e2]; exact a3
      · rw [if_neg (by omega), e1]; exact a3
  · rintro ⟨r, b1, b2, b3, b4⟩
    have ho := (o.oth b1).2.2.2.2 (Or.inl b2)
    unfold pr2 at b4
    by_cases e : oA s r = p
    · rw [if_pos e] at b4
      exact ⟨oB s r, ho.2.1, (o.aps hp ho.2.1).mpr ⟨r, b1, b2, Or.inl ⟨e, rfl⟩⟩, b4⟩
    · rw [if_neg e] at b4
      exact ⟨oA s r, ho.1, (o.aps hp ho.1).mpr ⟨r, b1, b2, Or.inr ⟨rfl, b3.resolve_left e⟩⟩, b4⟩
theorem bs_iff (o : OK s) {p : Nat} (hp : p < zP s) (t : Nat) : bsB s v p t = true ↔ ∃ r, r < zO s ∧ oS s r = 5 ∧ (oA s r = p ∨ oB s r = p) ∧ oth s v (pr2 s r p) t = false := by
  unfold bsB
  rw [anyB_iff]
  simp only [Bool.and_eq_true, Bool.not_eq_true']
  constructor
  · rintro ⟨q, a1, a2, a3⟩
    obtain ⟨r, b1, b2, b3⟩ := (o.bss hp a1).mp a2
    have ho := (o.oth b1).2.2.2.2 (Or.inr b2)
    refine ⟨r, b1, b2, ?_, ?_⟩
    · rcases b3 with ⟨e1, _⟩ | ⟨_, e2⟩
      · exact Or.inl e1
      · exact Or.inr e2
    · unfold pr2
      rcases b3 with ⟨e1, e2⟩ | ⟨e1, e2⟩
      · rw [if_pos e1, e2]; exact a3
      · rw [if_neg (by omega), e1]; exact a3
  · rintro ⟨r, b1, b2, b3, b4⟩
    have ho := (o.oth b1).2.2.2.2 (Or.inr b2)
    unfold pr2 at b4
    by_cases e : oA s r = p
    · rw [if_pos e] at b4
      exact ⟨oB s r, ho.2.1, (o.bss hp ho.2.1).mpr ⟨r, b1, b2, Or.inl ⟨e, rfl⟩⟩, b4⟩
    · rw [if_neg e] at b4
      exact ⟨oA s r, ho.1, (o.bss hp ho.1).mpr ⟨r, b1, b2, Or.inr ⟨rfl, b3.resolve_left e⟩⟩, b4⟩
theorem r_M_sOth (R : RM s c v h) (o : OK s) (p : Nat) {t : Nat} (ht : t < zT s) : Run 0 j_M_servesOn [.ref 65, .int (nI p), .int (nI (tD s t)), .int (nI t)] h (some (.int (bI (oth s v p t)))) h := r_M_servesOn R o (nI p) (by have := o.day ht; have := o.D; omega) (nI t)
theorem r_M_barIf (R : RM s c v h) (o : OK s) {p t : Nat} (hp : p < zP s) (ht : t < zT s) : Run 1 j_M_barIf [.ref 65, .int (nI t), .int (nI p)] h (some (.int (nI (bIf s v t p)))) h := by
  have hT := o.T; have hP := o.P; have hK := o.K; have hD := o.D; have hO := o.O; have hQ := o.Q; have hL := o.L
  have hd := o.day ht
  have e60 : (60 : Int32) = nI 60 := rfl
  refine Run.of rfl ?_
  refine Wp.norm (L' := [_, _, _, _]) rfl ?_
  repeat (first | (refine W1 rfl ?_; try refine Wp.norm (L' := [_, _, _, _]) rfl ?_) | refine brT (by first | assumption | decide | omega) ?_ | refine brF (by first | assumption | decide | omega) ?_ | refine brTn (by first | assumption | decide | omega) ?_ | refine brFn (by first | assumption | decide | omega) ?_ | ((first | change (_ → _) ∧ (_ → _) | change vp_in _ _ ∧ _ | change ¬ _ ∧ _); simp (disch := omega) only [nI_clamp, nI_leI, nI_ltI, nI_eq, nI_1, nI_add, nI_not_neg, nI_is_pos, nI_m1, nI_z]) | refine And.intro (vp_in_nI (by omega) (by decide)) ?_ | refine And.intro (vp_lit (by decide)) ?_)
  try change _ ∧ _
  refine Cl.of (r_M_mayH R o (by omega) ht) (by decide) ?_
  cases q1 : (tM s t).testBit p with
  | false =>
    repeat (first | (refine W1 rfl ?_; try refine Wp.norm (L' := [_, _, _, _]) rfl ?_) | refine brT (by first | assumption | decide | omega) ?_ | refine brF (by first | assumption | decide | omega) ?_ | refine brTn (by first | assumption | decide | omega) ?_ | refine brFn (by first | assumption | decide | omega) ?_ | ((first | change (_ → _) ∧ (_ → _) | change vp_in _ _ ∧ _ | change ¬ _ ∧ _); simp (disch := omega) only [nI_clamp, nI_leI, nI_ltI, nI_eq, nI_1, nI_add, nI_not_neg, nI_is_pos, nI_m1, nI_z]) | refine And.intro (vp_in_nI (by omega) (by decide)) ?_ | refine And.intro (vp_lit (by decide)) ?_)
    try change _ ∧ _
    rw [bIf_2 q1]
    try first | exact ⟨rfl, rfl⟩ | exact ⟨Or.inr rfl, rfl, rfl⟩ | exact ⟨Or.inl rfl, rfl, rfl⟩ | exact ⟨trivial, trivial⟩ | exact ⟨rfl, trivial⟩ | exact ⟨Or.inr rfl, rfl, trivial⟩ | exact ⟨Or.inl rfl, rfl, trivial⟩
  | true =>
    repeat (first | (refine W1 rfl ?_; try refine Wp.norm (L' := [_, _, _, _]) rfl ?_) | refine brT (by first | assumption | decide | omega) ?_ | refine brF (by first | assumption | decide | omega) ?_ | refine brTn (by first | assumption | decide | omega) ?_ | refine brFn (by first | assumption | decide | omega) ?_ | ((first | change (_ → _) ∧ (_ → _) | change vp_in _ _ ∧ _ | change ¬ _ ∧ _); simp (disch := omega) only [nI_clamp, nI_leI, nI_ltI, nI_eq, nI_1, nI_add, nI_not_neg, nI_is_pos, nI_m1, nI_z, R.day]) | refine And.intro (vp_in_nI (by omega) (by decide)) ?_ | refine And.intro (vp_lit (by decide)) ?_)
    try change _ ∧ _
    refine Cl.ofA (r_M_sOth R o p ht) (by first | rfl | (simp (disch := omega) only [nI_1, nI_add, nI_clamp, R.day] <;> first | done | rfl)) (by decide) ?_
    cases q2 : oth s v p t with
    | true =>
      repeat (first | (refine W1 rfl ?_; try refine Wp.norm (L' := [_, _, _, _]) rfl ?_) | refine brT (by first | assumption | decide | omega) ?_ | refine brF (by first | assumption | decide | omega) ?_ | refine brTn (by first | assumption | decide | omega) ?_ | refine brFn (by first | assumption | decide | omega) ?_ | ((first | change (_ → _) ∧ (_ → _) | change vp_in _ _ ∧ _ | change ¬ _ ∧ _); simp (disch := omega) only [nI_clamp, nI_leI, nI_ltI, nI_eq, nI_1, nI_add, nI_not_neg, nI_is_pos, nI_m1, nI_z]) | refine And.intro (vp_in_nI (by omega) (by decide)) ?_ | refine And.intro (vp_lit (by decide)) ?_)
      try change _ ∧ _
      rw [bIf_3 q1 q2]
      try first | exact ⟨rfl, rfl⟩ | exact ⟨Or.inr rfl, rfl, rfl⟩ | exact ⟨Or.inl rfl, rfl, rfl⟩ | exact ⟨trivial, trivial⟩ | exact ⟨rfl, trivial⟩ | exact ⟨Or.inr rfl, rfl, trivial⟩ | exact ⟨Or.inl rfl, rfl, trivial⟩
    | false =>
      repeat (first | (refine W1 rfl ?_; try refine Wp.norm (L' := [_, _, _, _]) rfl ?_) | refine brT (by first | assumption | decide | omega) ?_ | refine brF (by first | assumption | decide | omega) ?_ | refine brTn (by first | assumption | decide | omega) ?_ | refine brFn (by first | assumption | decide | omega) ?_ | ((first | change (_ → _) ∧ (_ → _) | change vp_in _ _ ∧ _ | change ¬ _ ∧ _); simp (disch := omega) only [nI_clamp, nI_leI, nI_ltI, nI_eq, nI_1, nI_add, nI_not_neg, nI_is_pos, nI_m1, nI_z]) | refine And.intro (vp_in_nI (by omega) (by decide)) ?_ | refine And.intro (vp_lit (by decide)) ?_)
      try change _ ∧ _
      refine Cl.of (r_M_isRested R o hp ht) (by decide) ?_
      cases q3 : rsB s v p t with
      | true =>
        repeat (first | (refine W1 rfl ?_; try refine Wp.norm (L' := [_, _, _, _]) rfl ?_) | refine brT (by first | assumption | decide | omega) ?_ | refine brF (by first | assumption | decide | omega) ?_ | refine brTn (by first | assumption | decide | omega) ?_ | refine brFn (by first | assumption | decide | omega) ?_ | ((first | change (_ → _) ∧ (_ → _) | change vp_in _ _ ∧ _ | change ¬ _ ∧ _); simp (disch := omega) only [nI_clamp, nI_leI, nI_ltI, nI_eq, nI_1, nI_add, nI_not_neg, nI_is_pos, nI_m1, nI_z]) | refine And.intro (vp_in_nI (by omega) (by decide)) ?_ | refine And.intro (vp_lit (by decide)) ?_)
        try change _ ∧ _
        rw [bIf_4 q1 q2 q3]
        try first | exact ⟨rfl, rfl⟩ | exact ⟨Or.inr rfl, rfl, rfl⟩ | exact ⟨Or.inl rfl, rfl, rfl⟩ | exact ⟨trivial, trivial⟩ | exact ⟨rfl, trivial⟩ | exact ⟨Or.inr rfl, rfl, trivial⟩ | exact ⟨Or.inl rfl, rfl, trivial⟩
      | false =>
        have lp : ∀ r, r ≤ zO s → (¬ ∃ r', r' < r ∧ oS s r' = 4 ∧ (oA s r' = p ∨ oB s r' = p) ∧ oth s v (pr2 s r' p) t = true) → Wp 1 j_M_barIf 42 [.ref 65, .int (nI t), .int (nI p), .int (nI (60 + r))] [] h (fun v' h2 => v' = some (.int (nI (bIf s v t p))) ∧ h2 = h) := by
          refine up_ind ?_ (fun r hr ih => ?_)
          · intro A
            have q4 : apB s v p t = false := by
              cases e : apB s v p t with
              | false => rfl
              | true => exact absurd ((ap_iff o hp t).mp e) A
            repeat (first | (refine W1 rfl ?_; try refine Wp.norm (L' := [_, _, _, _]) rfl ?_) | refine brT (by first | assumption | decide | omega) ?_ | refine brF (by first | assumption | decide | omega) ?_ | refine brTn (by first | assumption | decide | omega) ?_ | refine brFn (by first | assumption | decide | omega) ?_ | ((first | change (_ → _) ∧ (_ → _) | change vp_in _ _ ∧ _ | change ¬ _ ∧ _); simp (disch := omega) only [nI_clamp, nI_leI, nI_ltI, nI_eq, nI_1, nI_add, nI_not_neg, nI_is_pos, nI_m1, nI_z, show Int32.toNatClampNeg 1 = 1 from rfl, R.oth, e60]) | refine And.intro (vp_in_nI (by omega) (by decide)) ?_ | refine And.intro (vp_lit (by decide)) ?_)
            try change _ ∧ _
            rw [bIf_0 q1 q2 q3 q4]
            try first | exact ⟨rfl, rfl⟩ | exact ⟨Or.inr rfl, rfl, rfl⟩ | exact ⟨Or.inl rfl, rfl, rfl⟩ | exact ⟨trivial, trivial⟩ | exact ⟨rfl, trivial⟩ | exact ⟨Or.inr rfl, rfl, trivial⟩ | exact ⟨Or.inl rfl, rfl, trivial⟩
          · intro A
            have ho := o.oth hr
            have nxt : ¬ (oS s r = 4 ∧ (oA s r = p ∨ oB s r = p) ∧ oth s v (pr2 s r p) t = true) → Wp 1 j_M_barIf 129 [.ref 65, .int (nI t), .int (nI p), .int (nI (60 + r))] [] h (fun v' h2 => v' = some (.int (nI (bIf s v t p))) ∧ h2 = h) := by
              intro no
              have ih := ih (by
                rintro ⟨r', a1, a2⟩
                by_cases e : r' = r
                · subst e; exact no a2
                · exact A ⟨r', by omega, a2⟩)
              repeat (first | refine Wp.at ih rfl rfl ?_ rfl | (refine W1 rfl ?_; try refine Wp.norm (L' := [_, _, _, _]) rfl ?_) | refine brT (by first | assumption | decide | omega) ?_ | refine brF (by first | assumption | decide | omega) ?_ | refine brTn (by first | assumption | decide | omega) ?_ | refine brFn (by first | assumption | decide | omega) ?_ | ((first | change (_ → _) ∧ (_ → _) | change vp_in _ _ ∧ _ | change ¬ _ ∧ _); simp (disch := omega) only [nI_clamp, nI_leI, nI_ltI, nI_eq, nI_1, nI_add, nI_not_neg, nI_is_pos, nI_m1, nI_z]) | refine And.intro (vp_in_nI (by omega) (by decide)) ?_ | refine And.intro (vp_lit (by decide)) ?_)
              try change _ ∧ _
              first | rfl | (simp (disch := omega) only [nI_1, nI_add, nI_clamp] <;> first | done | rfl)
            repeat (first | (refine W1 rfl ?_; try refine Wp.norm (L' := [_, _, _, _]) rfl ?_) | refine brT (by first | assumption | decide | omega) ?_ | refine brF (by first | assumption | decide | omega) ?_ | refine brTn (by first | assumption | decide | omega) ?_ | refine brFn (by first | assumption | decide | omega) ?_ | ((first | change (_ → _) ∧ (_ → _) | change vp_in _ _ ∧ _ | change ¬ _ ∧ _); simp (disch := omega) only [nI_clamp, nI_leI, nI_ltI, nI_eq, nI_1, nI_add, nI_not_neg, nI_is_pos, nI_m1, nI_z, show Int32.toNatClampNeg 1 = 1 from rfl, R.oth, e60, R.osr, show (4 : Int32) = nI 4 from rfl]) | refine And.intro (vp_in_nI (by omega) (by decide)) ?_ | refine And.intro (vp_lit (by decide)) ?_)
            try change _ ∧ _
            refine ⟨fun w1 => nxt (fun z => w1 z.1), fun w1 => ?_⟩
            have hab := ho.2.2.2.2 (Or.inl w1)
            have fin : (oA s r = p ∨ oB s r = p) → ∀ v', (v' = bI (oth s v (pr2 s r p) t)) → Wp 1 j_M_barIf 124 [.ref 65, .int (nI t), .int (nI p), .int (nI (60 + r))] [.int v'] h (fun v' h2 => v' = some (.int (nI (bIf s v t p))) ∧ h2 = h) := by
              intro hor v' hv'
              subst hv'
              cases q5 : oth s v (pr2 s r p) t with
              | true =>
                repeat (first | (refine W1 rfl ?_; try refine Wp.norm (L' := [_, _, _, _]) rfl ?_) | refine brT (by first | assumption | decide | omega) ?_ | refine brF (by first | assumption | decide | omega) ?_ | refine brTn (by first | assumption | decide | omega) ?_ | refine brFn (by first | assumption | decide | omega) ?_ | ((first | change (_ → _) ∧ (_ → _) | change vp_in _ _ ∧ _ | change ¬ _ ∧ _); simp (disch := omega) only [nI_clamp, nI_leI, nI_ltI, nI_eq, nI_1, nI_add, nI_not_neg, nI_is_pos, nI_m1, nI_z]) | refine And.intro (vp_in_nI (by omega) (by decide)) ?_ | refine And.intro (vp_lit (by decide)) ?_)
                try change _ ∧ _
                rw [bIf_5 q1 q2 q3 ((ap_iff o hp t).mpr ⟨r, hr, w1, hor, q5⟩)]
                try first | exact ⟨rfl, rfl⟩ | exact ⟨Or.inr rfl, rfl, rfl⟩ | exact ⟨Or.inl rfl, rfl, rfl⟩ | exact ⟨trivial, trivial⟩ | exact ⟨rfl, trivial⟩ | exact ⟨Or.inr rfl, rfl, trivial⟩ | exact ⟨Or.inl rfl, rfl, trivial⟩
              | false =>
                have ih := nxt (fun z => by rw [q5] at z; cases z.2.2)
                repeat (first | refine Wp.at ih rfl rfl ?_ rfl | (refine W1 rfl ?_; try refine Wp.norm (L' := [_, _, _, _]) rfl ?_) | refine brT (by first | assumption | decide | omega) ?_ | refine brF (by first | assumption | decide | omega) ?_ | refine brTn (by first | assumption | decide | omega) ?_ | refine brFn (by first | assumption | decide | omega) ?_ | ((first | change (_ → _) ∧ (_ → _) | change vp_in _ _ ∧ _ | change ¬ _ ∧ _); simp (disch := omega) only [nI_clamp, nI_leI, nI_ltI, nI_eq, nI_1, nI_add, nI_not_neg, nI_is_pos, nI_m1, nI_z]) | refine And.intro (vp_in_nI (by omega) (by decide)) ?_ | refine And.intro (vp_lit (by decide)) ?_)
                try change _ ∧ _
                first | rfl | (simp (disch := omega) only [nI_1, nI_add, nI_clamp] <;> first | done | rfl)
            by_cases w2 : oA s r = p
            · have e2 : pr2 s r p = oB s r := by unfold pr2; rw [if_pos w2]
              repeat (first | (refine W1 rfl ?_; try refine Wp.norm (L' := [_, _, _, _]) rfl ?_) | refine brT (by first | assumption | decide | omega) ?_ | refine brF (by first | assumption | decide | omega) ?_ | refine brTn (by first | assumption | decide | omega) ?_ | refine brFn (by first | assumption | decide | omega) ?_ | ((first | change (_ → _) ∧ (_ → _) | change vp_in _ _ ∧ _ | change ¬ _ ∧ _); simp (disch := omega) only [nI_clamp, nI_leI, nI_ltI, nI_eq, nI_1, nI_add, nI_not_neg, nI_is_pos, nI_m1, nI_z, R.oon]) | refine And.intro (vp_in_nI (by omega) (by decide)) ?_ | refine And.intro (vp_lit (by decide)) ?_)
              try change _ ∧ _
              refine Cl.ofA (r_M_sOth R o (pr2 s r p) ht) (by rw [e2]; first | rfl | (simp (disch := omega) only [nI_1, nI_add, nI_clamp, R.day, R.otw] <;> first | done | rfl)) (by decide) ?_
              exact fin (Or.inl w2) _ rfl
            · by_cases w3 : oB s r = p
              · have e2 : pr2 s r p = oA s r := by unfold pr2; rw [if_neg w2]
                repeat (first | (refine W1 rfl ?_; try refine Wp.norm (L' := [_, _, _, _]) rfl ?_) | refine brT (by first | assumption | decide | omega) ?_ | refine brF (by first | assumption | decide | omega) ?_ | refine brTn (by first | assumption | decide | omega) ?_ | refine brFn (by first | assumption | decide | omega) ?_ | ((first | change (_ → _) ∧ (_ → _) | change vp_in _ _ ∧ _ | change ¬ _ ∧ _); simp (disch := omega) only [nI_clamp, nI_leI, nI_ltI, nI_eq, nI_1, nI_add, nI_not_neg, nI_is_pos, nI_m1, nI_z, R.oon, R.otw]) | refine And.intro (vp_in_nI (by omega) (by decide)) ?_ | refine And.intro (vp_lit (by decide)) ?_)
                try change _ ∧ _
                refine Cl.ofA (r_M_sOth R o (pr2 s r p) ht) (by rw [e2]; first | rfl | (simp (disch := omega) only [nI_1, nI_add, nI_clamp, R.day, R.oon] <;> first | done | rfl)) (by decide) ?_
                exact fin (Or.inr w3) _ rfl
              · have ih := nxt (fun z => z.2.1.elim w2 w3)
                repeat (first | refine Wp.at ih rfl rfl ?_ rfl | (refine W1 rfl ?_; try refine Wp.norm (L' := [_, _, _, _]) rfl ?_) | refine brT (by first | assumption | decide | omega) ?_ | refine brF (by first | assumption | decide | omega) ?_ | refine brTn (by first | assumption | decide | omega) ?_ | refine brFn (by first | assumption | decide | omega) ?_ | ((first | change (_ → _) ∧ (_ → _) | change vp_in _ _ ∧ _ | change ¬ _ ∧ _); simp (disch := omega) only [nI_clamp, nI_leI, nI_ltI, nI_eq, nI_1, nI_add, nI_not_neg, nI_is_pos, nI_m1, nI_z, R.oon, R.otw]) | refine And.intro (vp_in_nI (by omega) (by decide)) ?_ | refine And.intro (vp_lit (by decide)) ?_)
                try change _ ∧ _
                first | rfl | (simp (disch := omega) only [nI_1, nI_add, nI_clamp] <;> first | done | rfl)
        have ih := lp 0 (Nat.zero_le _) (by rintro ⟨r', a1, _⟩; omega)
        repeat (first | refine Wp.at ih rfl rfl ?_ rfl | (refine W1 rfl ?_; try refine Wp.norm (L' := [_, _, _, _]) rfl ?_) | refine brT (by first | assumption | decide | omega) ?_ | refine brF (by first | assumption | decide | omega) ?_ | refine brTn (by first | assumption | decide | omega) ?_ | refine brFn (by first | assumption | decide | omega) ?_ | ((first | change (_ → _) ∧ (_ → _) | change vp_in _ _ ∧ _ | change ¬ _ ∧ _); simp (disch := omega) only [nI_clamp, nI_leI, nI_ltI, nI_eq, nI_1, nI_add, nI_not_neg, nI_is_pos, nI_m1, nI_z]) | refine And.intro (vp_in_nI (by omega) (by decide)) ?_ | refine And.intro (vp_lit (by decide)) ?_)
        try change _ ∧ _
        first | rfl | (simp (disch := omega) only [nI_1, nI_add, nI_clamp] <;> first | done | rfl)
theorem r_M_turnsOn (R : RM s c v h) (o : OK s) {d : Nat} (hd : d < 2 ^ 31) : Run 0 j_M_turnsOn [.ref 65, .int (nI d)] h (some (.int (nI (cnt (fun u => tD s u = d) (zT s))))) h := by
  have hT := o.T; have hP := o.P; have hK := o.K; have hD := o.D; have hO := o.O; have hQ := o.Q; have hL := o.L
  refine Run.of rfl ?_
  refine Wp.norm (L' := [_, _, _, _]) rfl ?_
  have lp : ∀ i, i ≤ zT s → Wp 0 j_M_turnsOn 4 [.ref 65, .int (nI d), .int (nI (cnt (fun u => tD s u = d) i)), .int (nI i)] [] h (fun v' h2 => v' = some (.int (nI (cnt (fun u => tD s u = d) (zT s)))) ∧ h2 = h) := by
    refine up_ind ?_ (fun i hi ih => ?_)
    · repeat (first | (refine W1 rfl ?_; try refine Wp.norm (L' := [_, _, _, _]) rfl ?_) | refine brT (by first | assumption | decide | omega) ?_ | refine brF (by first | assumption | decide | omega) ?_ | refine brTn (by first | assumption | decide | omega) ?_ | refine brFn (by first | assumption | decide | omega) ?_ | ((first | change (_ → _) ∧ (_ → _) | change vp_in _ _ ∧ _ | change ¬ _ ∧ _); simp (disch := omega) only [nI_clamp, nI_leI, nI_ltI, nI_eq, nI_1, nI_add, nI_not_neg, nI_is_pos, nI_m1, nI_z, R.T]) | refine And.intro (vp_in_nI (by omega) (by decide)) ?_ | refine And.intro (vp_lit (by decide)) ?_)
      try change _ ∧ _
      try first | exact ⟨rfl, rfl⟩ | exact ⟨Or.inr rfl, rfl, rfl⟩ | exact ⟨Or.inl rfl, rfl, rfl⟩ | exact ⟨trivial, trivial⟩ | exact ⟨rfl, trivial⟩ | exact ⟨Or.inr rfl, rfl, trivial⟩ | exact ⟨Or.inl rfl, rfl, trivial⟩
    · rw [cnt] at ih
      have hdi := o.day hi
      repeat (first | (refine W1 rfl ?_; try refine Wp.norm (L' := [_, _, _, _]) rfl ?_) | refine brT (by first | assumption | decide | omega) ?_ | refine brF (by first | assumption | decide | omega) ?_ | refine brTn (by first | assumption | decide | omega) ?_ | refine brFn (by first | assumption | decide | omega) ?_ | ((first | change (_ → _) ∧ (_ → _) | change vp_in _ _ ∧ _ | change ¬ _ ∧ _); simp (disch := omega) only [nI_clamp, nI_leI, nI_ltI, nI_eq, nI_1, nI_add, nI_not_neg, nI_is_pos, nI_m1, nI_z, R.T, R.day]) | refine And.intro (vp_in_nI (by omega) (by decide)) ?_ | refine And.intro (vp_lit (by decide)) ?_)
      try change _ ∧ _
      refine ⟨fun q => ?_, fun q => ?_⟩
      · rw [if_neg q] at ih
        repeat (first | refine Wp.at ih rfl rfl ?_ rfl | (refine W1 rfl ?_; try refine Wp.norm (L' := [_, _, _, _]) rfl ?_) | refine brT (by first | assumption | decide | omega) ?_ | refine brF (by first | assumption | decide | omega) ?_ | refine brTn (by first | assumption | decide | omega) ?_ | refine brFn (by first | assumption | decide | omega) ?_ | ((first | change (_ → _) ∧ (_ → _) | change vp_in _ _ ∧ _ | change ¬ _ ∧ _); simp (disch := omega) only [nI_clamp, nI_leI, nI_ltI, nI_eq, nI_1, nI_add, nI_not_neg, nI_is_pos, nI_m1, nI_z]) | refine And.intro (vp_in_nI (by omega) (by decide)) ?_ | refine And.intro (vp_lit (by decide)) ?_)
        try change _ ∧ _
        first | rfl | (simp (disch := omega) only [nI_1, nI_add, nI_clamp] <;> first | done | rfl)
      · rw [if_pos q] at ih
        repeat (first | refine Wp.at ih rfl rfl ?_ rfl | (refine W1 rfl ?_; try refine Wp.norm (L' := [_, _, _, _]) rfl ?_) | refine brT (by first | assumption | decide | omega) ?_ | refine brF (by first | assumption | decide | omega) ?_ | refine brTn (by first | assumption | decide | omega) ?_ | refine brFn (by first | assumption | decide | omega) ?_ | ((first | change (_ → _) ∧ (_ → _) | change vp_in _ _ ∧ _ | change ¬ _ ∧ _); simp (disch := omega) only [nI_clamp, nI_leI, nI_ltI, nI_eq, nI_1, nI_add, nI_not_neg, nI_is_pos, nI_m1, nI_z]) | refine And.intro (vp_in_nI (by omega) (by decide)) ?_ | refine And.intro (vp_lit (by decide)) ?_)
        try change _ ∧ _
        first | rfl | (simp (disch := omega) only [nI_1, nI_add, nI_clamp] <;> first | done | rfl)
  have ih := lp 0 (Nat.zero_le _)
  repeat (first | refine Wp.at ih rfl rfl ?_ rfl | (refine W1 rfl ?_; try refine Wp.norm (L' := [_, _, _, _]) rfl ?_) | refine brT (by first | assumption | decide | omega) ?_ | refine brF (by first | assumption | decide | omega) ?_ | refine brTn (by first | assumption | decide | omega) ?_ | refine brFn (by first | assumption | decide | omega) ?_ | ((first | change (_ → _) ∧ (_ → _) | change vp_in _ _ ∧ _ | change ¬ _ ∧ _); simp (disch := omega) only [nI_clamp, nI_leI, nI_ltI, nI_eq, nI_1, nI_add, nI_not_neg, nI_is_pos, nI_m1, nI_z]) | refine And.intro (vp_in_nI (by omega) (by decide)) ?_ | refine And.intro (vp_lit (by decide)) ?_)
  try change _ ∧ _
  first | rfl | (simp (disch := omega) only [nI_1, nI_add, nI_clamp] <;> first | done | rfl)
theorem day_cnt (o : OK s) {d : Nat} (hd : d < 200) : dF s (d + 1) - dF s d = cnt (fun u => tD s u = d) (zT s) := by
  rw [o.dfs (by omega), o.dfs (by omega)]
  have : ∀ n, cnt (fun u => tD s u < d + 1) n = cnt (fun u => tD s u < d) n + cnt (fun u => tD s u = d) n := by
    intro n
    induction n with
    | zero => rfl
    | succ n ih =>
      unfold cnt
      rw [ih]
      by_cases h1 : tD s n < d
      · rw [if_pos h1, if_pos (by omega), if_neg (by omega)]; omega
      · rw [if_neg h1]
        by_cases h2 : tD s n = d
        · rw [if_pos h2, if_pos (by omega)]; omega
        · rw [if_neg h2, if_neg (by omega)]; omega
  rw [this]
  omega
theorem svo_but {q t : Nat} (hq : q < 2 ^ 31) (ht : t < zT s) (o : OK s) (hv : ¬ v t = nI q) : svo s v (nI q) (tD s t) (-1) (zT s) = oth s v q t := by
  have hT := o.T
  apply Bool.eq_iff_iff.mpr
  rw [svo_iff, svo_iff]
  constructor
  · rintro ⟨u, a1, _, a3, a4⟩
    refine ⟨u, a1, fun z => ?_, a3, a4⟩
    by_cases e : u = t
    · subst e; exact hv a4
    · rw [nI_eq (by omega) (by omega)] at z
      exact e z
  · rintro ⟨u, a1, _, a3, a4⟩
    exact ⟨u, a1, fun z => (nI_m1 (by omega)).mp z, a3, a4⟩
theorem r_M_barOf (R : RM s c v h) (o : OK s) (ro : RO s c v) {t : Nat} (ht : t < zT s) : Run 2 j_M_barOf [.ref 65, .int (nI t)] h (some (.int (nI (bOf s v t)))) h := by
  have hT := o.T; have hP := o.P; have hK := o.K; have hD := o.D; have hO := o.O; have hQ := o.Q; have hL := o.L
  have hd := o.day ht
  have e60 : (60 : Int32) = nI 60 := rfl
  rcases ro.vv ht with hv | ⟨p, hp, hv⟩
  · rw [bOf_no hv]
    refine Run.of rfl ?_
    refine Wp.norm (L' := [_, _, _, _, _]) rfl ?_
    repeat (first | (refine W1 rfl ?_; try refine Wp.norm (L' := [_, _, _, _, _]) rfl ?_) | refine brT (by first | assumption | decide | omega) ?_ | refine brF (by first | assumption | decide | omega) ?_ | refine brTn (by first | assumption | decide | omega) ?_ | refine brFn (by first | assumption | decide | omega) ?_ | ((first | change (_ → _) ∧ (_ → _) | change vp_in _ _ ∧ _ | change ¬ _ ∧ _); simp (disch := omega) only [nI_clamp, nI_leI, nI_ltI, nI_eq, nI_1, nI_add, nI_not_neg, nI_is_pos, nI_m1, nI_z, R.srv, hv]) | refine And.intro (vp_in_nI (by omega) (by decide)) ?_ | refine And.intro (vp_lit (by decide)) ?_)
    try change _ ∧ _
    try first | exact ⟨rfl, rfl⟩ | exact ⟨Or.inr rfl, rfl, rfl⟩ | exact ⟨Or.inl rfl, rfl, rfl⟩ | exact ⟨trivial, trivial⟩ | exact ⟨rfl, trivial⟩ | exact ⟨Or.inr rfl, rfl, trivial⟩ | exact ⟨Or.inl rfl, rfl, trivial⟩
  · have hb6 : bIf s v t p ≤ 5 := by
      unfold bIf
      split
      · decide
      · split
        · decide
        · split
          · decide
          · split <;> decide
    refine Run.of rfl ?_
    refine Wp.norm (L' := [_, _, _, _, _]) rfl ?_
    repeat (first | (refine W1 rfl ?_; try refine Wp.norm (L' := [_, _, _, _, _]) rfl ?_) | refine brT (by first | assumption | decide | omega) ?_ | refine brF (by first | assumption | decide | omega) ?_ | refine brTn (by first | assumption | decide | omega) ?_ | refine brFn (by first | assumption | decide | omega) ?_ | ((first | change (_ → _) ∧ (_ → _) | change vp_in _ _ ∧ _ | change ¬ _ ∧ _); simp (disch := omega) only [nI_clamp, nI_leI, nI_ltI, nI_eq, nI_1, nI_add, nI_not_neg, nI_is_pos, nI_m1, nI_z, R.srv, hv]) | refine And.intro (vp_in_nI (by omega) (by decide)) ?_ | refine And.intro (vp_lit (by decide)) ?_)
    try change _ ∧ _
    refine Cl.of (r_M_barIf R o hp ht) (by decide) ?_
    repeat (first | (refine W1 rfl ?_; try refine Wp.norm (L' := [_, _, _, _, _]) rfl ?_) | refine brT (by first | assumption | decide | omega) ?_ | refine brF (by first | assumption | decide | omega) ?_ | refine brTn (by first | assumption | decide | omega) ?_ | refine brFn (by first | assumption | decide | omega) ?_ | ((first | change (_ → _) ∧ (_ → _) | change vp_in _ _ ∧ _ | change ¬ _ ∧ _); simp (disch := omega) only [nI_clamp, nI_leI, nI_ltI, nI_eq, nI_1, nI_add, nI_not_neg, nI_is_pos, nI_m1, nI_z]) | refine And.intro (vp_in_nI (by omega) (by decide)) ?_ | refine And.intro (vp_lit (by decide)) ?_)
    try change _ ∧ _
    refine ⟨fun q0 => ?_, fun q0 => ?_⟩
    · repeat (first | (refine W1 rfl ?_; try refine Wp.norm (L' := [_, _, _, _, _]) rfl ?_) | refine brT (by first | assumption | decide | omega) ?_ | refine brF (by first | assumption | decide | omega) ?_ | refine brTn (by first | assumption | decide | omega) ?_ | refine brFn (by first | assumption | decide | omega) ?_ | ((first | change (_ → _) ∧ (_ → _) | change vp_in _ _ ∧ _ | change ¬ _ ∧ _); simp (disch := omega) only [nI_clamp, nI_leI, nI_ltI, nI_eq, nI_1, nI_add, nI_not_neg, nI_is_pos, nI_m1, nI_z]) | refine And.intro (vp_in_nI (by omega) (by decide)) ?_ | refine And.intro (vp_lit (by decide)) ?_)
      try change _ ∧ _
      rw [bOf_ne (by omega) hv q0]
      try first | exact ⟨rfl, rfl⟩ | exact ⟨Or.inr rfl, rfl, rfl⟩ | exact ⟨Or.inl rfl, rfl, rfl⟩ | exact ⟨trivial, trivial⟩ | exact ⟨rfl, trivial⟩ | exact ⟨Or.inr rfl, rfl, trivial⟩ | exact ⟨Or.inl rfl, rfl, trivial⟩
    · rw [bOf_eq (by omega) hv q0]
      repeat (first | (refine W1 rfl ?_; try refine Wp.norm (L' := [_, _, _, _, _]) rfl ?_) | refine brT (by first | assumption | decide | omega) ?_ | refine brF (by first | assumption | decide | omega) ?_ | refine brTn (by first | assumption | decide | omega) ?_ | refine brFn (by first | assumption | decide | omega) ?_ | ((first | change (_ → _) ∧ (_ → _) | change vp_in _ _ ∧ _ | change ¬ _ ∧ _); simp (disch := omega) only [nI_clamp, nI_leI, nI_ltI, nI_eq, nI_1, nI_add, nI_not_neg, nI_is_pos, nI_m1, nI_z, R.day]) | refine And.intro (vp_in_nI (by omega) (by decide)) ?_ | refine And.intro (vp_lit (by decide)) ?_)
      try change _ ∧ _
      refine Cl.ofA (r_M_turnsOn R o (d := tD s t) (by omega)) (by first | rfl | (simp (disch := omega) only [nI_1, nI_add, nI_clamp, R.day] <;> first | done | rfl)) (by decide) ?_
      have hc := cnt_le (fun u => tD s u = tD s t) (zT s)
      have hs : sev s t = true ↔ 2 ≤ cnt (fun u => tD s u = tD s t) (zT s) := by
        unfold sev
        rw [day_cnt o (by omega), decide_eq_true_eq]
        exact Iff.rfl
      generalize cnt (fun u => tD s u = tD s t) (zT s) = N at *
      repeat (first | (refine W1 rfl ?_; try refine Wp.norm (L' := [_, _, _, _, _]) rfl ?_) | refine brT (by first | assumption | decide | omega) ?_ | refine brF (by first | assumption | decide | omega) ?_ | refine brTn (by first | assumption | decide | omega) ?_ | refine brFn (by first | assumption | decide | omega) ?_ | ((first | change (_ → _) ∧ (_ → _) | change vp_in _ _ ∧ _ | change ¬ _ ∧ _); simp (disch := omega) only [nI_clamp, nI_leI, nI_ltI, nI_eq, nI_1, nI_add, nI_not_neg, nI_is_pos, nI_m1, nI_z, show (2 : Int32) = nI 2 from rfl]) | refine And.intro (vp_in_nI (by omega) (by decide)) ?_ | refine And.intro (vp_lit (by decide)) ?_)
      try change _ ∧ _
      refine ⟨fun q1 => ?_, fun q1 => ?_⟩
      · have lp : ∀ r, r ≤ zO s → (¬ ∃ r', r' < r ∧ oS s r' = 5 ∧ (oA s r' = p ∨ oB s r' = p) ∧ oth s v (pr2 s r' p) t = false) → Wp 2 j_M_barOf 45 [.ref 65, .int (nI t), .int (nI p), .int (nI (bIf s v t p)), .int (nI (60 + r))] [] h (fun v' h2 => v' = some (.int (nI (if sev s t = true ∧ bsB s v p t = true then 6 else 0))) ∧ h2 = h) := by
          refine up_ind ?_ (fun r hr ih => ?_)
          · intro A
            repeat (first | (refine W1 rfl ?_; try refine Wp.norm (L' := [_, _, _, _, _]) rfl ?_) | refine brT (by first | assumption | decide | omega) ?_ | refine brF (by first | assumption | decide | omega) ?_ | refine brTn (by first | assumption | decide | omega) ?_ | refine brFn (by first | assumption | decide | omega) ?_ | ((first | change (_ → _) ∧ (_ → _) | change vp_in _ _ ∧ _ | change ¬ _ ∧ _); simp (disch := omega) only [nI_clamp, nI_leI, nI_ltI, nI_eq, nI_1, nI_add, nI_not_neg, nI_is_pos, nI_m1, nI_z, show Int32.toNatClampNeg 1 = 1 from rfl, R.oth, e60]) | refine And.intro (vp_in_nI (by omega) (by decide)) ?_ | refine And.intro (vp_lit (by decide)) ?_)
            try change _ ∧ _
            rw [if_neg (fun z => A ((bs_iff o hp t).mp z.2))]
            try first | exact ⟨rfl, rfl⟩ | exact ⟨Or.inr rfl, rfl, rfl⟩ | exact ⟨Or.inl rfl, rfl, rfl⟩ | exact ⟨trivial, trivial⟩ | exact ⟨rfl, trivial⟩ | exact ⟨Or.inr rfl, rfl, trivial⟩ | exact ⟨Or.inl rfl, rfl, trivial⟩
          · intro A
            have ho := o.oth hr
            have nxt : ¬ (oS s r = 5 ∧ (oA s r = p ∨ oB s r = p) ∧ oth s v (pr2 s r p) t = false) → Wp 2 j_M_barOf 140 [.ref 65, .int (nI t), .int (nI p), .int (nI (bIf s v t p)), .int (nI (60 + r))] [] h (fun v' h2 => v' = some (.int (nI (if sev s t = true ∧ bsB s v p t = true then 6 else 0))) ∧ h2 = h) := by
              intro no
              have ih := ih (by
                rintro ⟨r', a1, a2⟩
                by_cases e : r' = r
                · subst e; exact no a2
                · exact A ⟨r', by omega, a2⟩)
              repeat (first | refine Wp.at ih rfl rfl ?_ rfl | (refine W1 rfl ?_; try refine Wp.norm (L' := [_, _, _, _, _]) rfl ?_) | refine brT (by first | assumption | decide | omega) ?_ | refine brF (by first | assumption | decide | omega) ?_ | refine brTn (by first | assumption | decide | omega) ?_ | refine brFn (by first | assumption | decide | omega) ?_ | ((first | change (_ → _) ∧ (_ → _) | change vp_in _ _ ∧ _ | change ¬ _ ∧ _); simp (disch := omega) only [nI_clamp, nI_leI, nI_ltI, nI_eq, nI_1, nI_add, nI_not_neg, nI_is_pos, nI_m1, nI_z]) | refine And.intro (vp_in_nI (by omega) (by decide)) ?_ | refine And.intro (vp_lit (by decide)) ?_)
              try change _ ∧ _
              first | rfl | (simp (disch := omega) only [nI_1, nI_add, nI_clamp] <;> first | done | rfl)
            repeat (first | (refine W1 rfl ?_; try refine Wp.norm (L' := [_, _, _, _, _]) rfl ?_) | refine brT (by first | assumption | decide | omega) ?_ | refine brF (by first | assumption | decide | omega) ?_ | refine brTn (by first | assumption | decide | omega) ?_ | refine brFn (by first | assumption | decide | omega) ?_ | ((first | change (_ → _) ∧ (_ → _) | change vp_in _ _ ∧ _ | change ¬ _ ∧ _); simp (disch := omega) only [nI_clamp, nI_leI, nI_ltI, nI_eq, nI_1, nI_add, nI_not_neg, nI_is_pos, nI_m1, nI_z, show Int32.toNatClampNeg 1 = 1 from rfl, R.oth, e60, R.osr, show (5 : Int32) = nI 5 from rfl]) | refine And.intro (vp_in_nI (by omega) (by decide)) ?_ | refine And.intro (vp_lit (by decide)) ?_)
            try change _ ∧ _
            refine ⟨fun w1 => nxt (fun z => w1 z.1), fun w1 => ?_⟩
            have hab := ho.2.2.2.2 (Or.inr w1)
            have fin : (oA s r = p ∨ oB s r = p) → ∀ v', (v' = bI (oth s v (pr2 s r p) t)) → Wp 2 j_M_barOf 134 [.ref 65, .int (nI t), .int (nI p), .int (nI (bIf s v t p)), .int (nI (60 + r))] [.int v'] h (fun v' h2 => v' = some (.int (nI (if sev s t = true ∧ bsB s v p t = true then 6 else 0))) ∧ h2 = h) := by
              intro hor v' hv'
              subst hv'
              cases q5 : oth s v (pr2 s r p) t with
              | false =>
                repeat (first | (refine W1 rfl ?_; try refine Wp.norm (L' := [_, _, _, _, _]) rfl ?_) | refine brT (by first | assumption | decide | omega) ?_ | refine brF (by first | assumption | decide | omega) ?_ | refine brTn (by first | assumption | decide | omega) ?_ | refine brFn (by first | assumption | decide | omega) ?_ | ((first | change (_ → _) ∧ (_ → _) | change vp_in _ _ ∧ _ | change ¬ _ ∧ _); simp (disch := omega) only [nI_clamp, nI_leI, nI_ltI, nI_eq, nI_1, nI_add, nI_not_neg, nI_is_pos, nI_m1, nI_z]) | refine And.intro (vp_in_nI (by omega) (by decide)) ?_ | refine And.intro (vp_lit (by decide)) ?_)
                try change _ ∧ _
                rw [if_pos ⟨hs.mpr q1, (bs_iff o hp t).mpr ⟨r, hr, w1, hor, q5⟩⟩]
                try first | exact ⟨rfl, rfl⟩ | exact ⟨Or.inr rfl, rfl, rfl⟩ | exact ⟨Or.inl rfl, rfl, rfl⟩ | exact ⟨trivial, trivial⟩ | exact ⟨rfl, trivial⟩ | exact ⟨Or.inr rfl, rfl, trivial⟩ | exact ⟨Or.inl rfl, rfl, trivial⟩
              | true =>
                have ih := nxt (fun z => by rw [q5] at z; cases z.2.2)
                repeat (first | refine Wp.at ih rfl rfl ?_ rfl | (refine W1 rfl ?_; try refine Wp.norm (L' := [_, _, _, _, _]) rfl ?_) | refine brT (by first | assumption | decide | omega) ?_ | refine brF (by first | assumption | decide | omega) ?_ | refine brTn (by first | assumption | decide | omega) ?_ | refine brFn (by first | assumption | decide | omega) ?_ | ((first | change (_ → _) ∧ (_ → _) | change vp_in _ _ ∧ _ | change ¬ _ ∧ _); simp (disch := omega) only [nI_clamp, nI_leI, nI_ltI, nI_eq, nI_1, nI_add, nI_not_neg, nI_is_pos, nI_m1, nI_z]) | refine And.intro (vp_in_nI (by omega) (by decide)) ?_ | refine And.intro (vp_lit (by decide)) ?_)
                try change _ ∧ _
                first | rfl | (simp (disch := omega) only [nI_1, nI_add, nI_clamp] <;> first | done | rfl)
            have hne : (oA s r = p ∨ oB s r = p) → ¬ v t = nI (pr2 s r p) ∧ pr2 s r p < zP s := by
              intro hor
              unfold pr2
              rw [hv]
              by_cases e : oA s r = p
              · rw [if_pos e, nI_eq (by omega) (by omega)]; omega
              · rw [if_neg e, nI_eq (by omega) (by omega)]; omega
            have rS : (oA s r = p ∨ oB s r = p) → Run 0 j_M_servesOn [.ref 65, .int (nI (pr2 s r p)), .int (nI (tD s t)), .int (-1)] h (some (.int (bI (oth s v (pr2 s r p) t)))) h := by
              intro hor
              have := r_M_servesOn R o (nI (pr2 s r p)) (d := tD s t) (by omega) (-1)
              rw [svo_but (by have := (hne hor).2; omega) ht o (hne hor).1] at this
              exact this
            by_cases w2 : oA s r = p
            · have e2 : pr2 s r p = oB s r := by unfold pr2; rw [if_pos w2]
              repeat (first | (refine W1 rfl ?_; try refine Wp.norm (L' := [_, _, _, _, _]) rfl ?_) | refine brT (by first | assumption | decide | omega) ?_ | refine brF (by first | assumption | decide | omega) ?_ | refine brTn (by first | assumption | decide | omega) ?_ | refine brFn (by first | assumption | decide | omega) ?_ | ((first | change (_ → _) ∧ (_ → _) | change vp_in _ _ ∧ _ | change ¬ _ ∧ _); simp (disch := omega) only [nI_clamp, nI_leI, nI_ltI, nI_eq, nI_1, nI_add, nI_not_neg, nI_is_pos, nI_m1, nI_z, R.oon]) | refine And.intro (vp_in_nI (by omega) (by decide)) ?_ | refine And.intro (vp_lit (by decide)) ?_)
              try change _ ∧ _
              refine Cl.ofA (rS (Or.inl w2)) (by rw [e2]; first | rfl | (simp (disch := omega) only [nI_1, nI_add, nI_clamp, R.day, R.otw] <;> first | done | rfl)) (by decide) ?_
              exact fin (Or.inl w2) _ rfl
            · by_cases w3 : oB s r = p
              · have e2 : pr2 s r p = oA s r := by unfold pr2; rw [if_neg w2]
                repeat (first | (refine W1 rfl ?_; try refine Wp.norm (L' := [_, _, _, _, _]) rfl ?_) | refine brT (by first | assumption | decide | omega) ?_ | refine brF (by first | assumption | decide | omega) ?_ | refine brTn (by first | assumption | decide | omega) ?_ | refine brFn (by first | assumption | decide | omega) ?_ | ((first | change (_ → _) ∧ (_ → _) | change vp_in _ _ ∧ _ | change ¬ _ ∧ _); simp (disch := omega) only [nI_clamp, nI_leI, nI_ltI, nI_eq, nI_1, nI_add, nI_not_neg, nI_is_pos, nI_m1, nI_z, R.oon, R.otw]) | refine And.intro (vp_in_nI (by omega) (by decide)) ?_ | refine And.intro (vp_lit (by decide)) ?_)
                try change _ ∧ _
                refine Cl.ofA (rS (Or.inr w3)) (by rw [e2]; first | rfl | (simp (disch := omega) only [nI_1, nI_add, nI_clamp, R.day, R.oon] <;> first | done | rfl)) (by decide) ?_
                exact fin (Or.inr w3) _ rfl
              · have ih := nxt (fun z => z.2.1.elim w2 w3)
                repeat (first | refine Wp.at ih rfl rfl ?_ rfl | (refine W1 rfl ?_; try refine Wp.norm (L' := [_, _, _, _, _]) rfl ?_) | refine brT (by first | assumption | decide | omega) ?_ | refine brF (by first | assumption | decide | omega) ?_ | refine brTn (by first | assumption | decide | omega) ?_ | refine brFn (by first | assumption | decide | omega) ?_ | ((first | change (_ → _) ∧ (_ → _) | change vp_in _ _ ∧ _ | change ¬ _ ∧ _); simp (disch := omega) only [nI_clamp, nI_leI, nI_ltI, nI_eq, nI_1, nI_add, nI_not_neg, nI_is_pos, nI_m1, nI_z, R.oon, R.otw]) | refine And.intro (vp_in_nI (by omega) (by decide)) ?_ | refine And.intro (vp_lit (by decide)) ?_)
                try change _ ∧ _
                first | rfl | (simp (disch := omega) only [nI_1, nI_add, nI_clamp] <;> first | done | rfl)
        have ih := lp 0 (Nat.zero_le _) (by rintro ⟨r', a1, _⟩; omega)
        repeat (first | refine Wp.at ih rfl rfl ?_ rfl | (refine W1 rfl ?_; try refine Wp.norm (L' := [_, _, _, _, _]) rfl ?_) | refine brT (by first | assumption | decide | omega) ?_ | refine brF (by first | assumption | decide | omega) ?_ | refine brTn (by first | assumption | decide | omega) ?_ | refine brFn (by first | assumption | decide | omega) ?_ | ((first | change (_ → _) ∧ (_ → _) | change vp_in _ _ ∧ _ | change ¬ _ ∧ _); simp (disch := omega) only [nI_clamp, nI_leI, nI_ltI, nI_eq, nI_1, nI_add, nI_not_neg, nI_is_pos, nI_m1, nI_z]) | refine And.intro (vp_in_nI (by omega) (by decide)) ?_ | refine And.intro (vp_lit (by decide)) ?_)
        try change _ ∧ _
        first | rfl | (simp (disch := omega) only [nI_1, nI_add, nI_clamp] <;> first | done | rfl)
      · rw [if_neg (fun z => q1 (hs.mp z.1))]
        repeat (first | (refine W1 rfl ?_; try refine Wp.norm (L' := [_, _, _, _, _]) rfl ?_) | refine brT (by first | assumption | decide | omega) ?_ | refine brF (by first | assumption | decide | omega) ?_ | refine brTn (by first | assumption | decide | omega) ?_ | refine brFn (by first | assumption | decide | omega) ?_ | ((first | change (_ → _) ∧ (_ → _) | change vp_in _ _ ∧ _ | change ¬ _ ∧ _); simp (disch := omega) only [nI_clamp, nI_leI, nI_ltI, nI_eq, nI_1, nI_add, nI_not_neg, nI_is_pos, nI_m1, nI_z]) | refine And.intro (vp_in_nI (by omega) (by decide)) ?_ | refine And.intro (vp_lit (by decide)) ?_)
        try change _ ∧ _
        rw [q0]
        try first | exact ⟨rfl, rfl⟩ | exact ⟨Or.inr rfl, rfl, rfl⟩ | exact ⟨Or.inl rfl, rfl, rfl⟩ | exact ⟨trivial, trivial⟩ | exact ⟨rfl, trivial⟩ | exact ⟨Or.inr rfl, rfl, trivial⟩ | exact ⟨Or.inl rfl, rfl, trivial⟩
end BARM
