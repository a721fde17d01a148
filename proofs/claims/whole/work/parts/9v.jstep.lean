/-! ===== WHAT HOLDS OF WHAT IS READ: step by step ===== -/
def J1 (s : ST) : Prop := GM s ∧ zQ s = sm (pS s) (zP s) ∧ (∀ p, p < zP s → 1 ≤ pS s p ∧ pS s p ≤ 9 ∧ s 24 p ≤ 199 ∧ s 25 p ≤ 199) ∧ (∀ k, k < zK s → kW s k ≤ 9) ∧ (∀ p, p < zP s → ∀ w, isW w → pN s p = e27 w 0 → ¬ w ∈ owL) ∧ 1 ≤ zD s
def J (s : ST) (C : List Nat) : Prop := J1 s ∧ JO s ∧ JT s C
section JST
variable {b : Nat → Nat} {n i : Nat} {s : ST} {C : List Nat}
theorem nm_tok {j : Nat} (h1 : tS b n j = 1) : isW (wrd b n j) ∧ tV b n j = e32 (wrd b n j) ∧ ¬ ox (wrd b n j) < 20 := by
  obtain ⟨hp, hl, hj, ho⟩ := tS_12 (Or.inl h1)
  obtain ⟨hx, hts, htv⟩ := tS_nm hp hl hj ho
  by_cases c : 6 < tl b n (ps b n j)
  · rw [if_pos c] at hts; omega
  · rw [if_neg c] at htv
    exact ⟨wd_isW (tl_pos hp) (by omega) (fun q hq => lt_all hp hl hq), htv, hx⟩
theorem ckM_n {j : Nat} (h : ckM b n j = none) : tS b n j = 1 := by
  unfold ckM at h
  by_cases c : tS b n j = 1
  · exact c
  · rw [if_neg c] at h; cases h
theorem ckW_n {j : Nat} (h : ckW b n s j = none) : tS b n j = 1 := ckM_n (ch_none1 h)
theorem ckK_n {j : Nat} (h : ckK b n s j = none) : kfi b n s j < zK s := by
  have := (ch_none.mp h).2
  by_cases c : kfi b n s j < zK s
  · exact c
  · rw [if_neg c] at this; cases this
theorem ckP_n {j u : Nat} (h : ckP b n s j u = none) : pfi s b n j < zP s ∧ pfi s b n j ≠ u := by
  have := (ch_none.mp h).2
  by_cases c : pfi s b n j < zP s ∧ pfi s b n j ≠ u
  · exact c
  · rw [if_neg c] at this; cases this
theorem J.day {x : Nat} (j : J s C) (h1 : 1 ≤ x) (h2 : x ≤ 200) : J (sU s 0 3 x) C := by
  obtain ⟨⟨⟨g1, g2, g3⟩, a1, a2, a3, a4, a5⟩, o, t⟩ := j
  refine ⟨⟨⟨g1.day h2, g2, g3⟩, a1, a2, a3, a4, h1⟩, ?_, ?_⟩
  · exact o.same rfl rfl (Nat.le_refl _) (fun a r ha => by rcases ha with rfl | rfl | rfl | rfl | rfl | rfl | rfl <;> rfl)
  · exact t.same rfl rfl (Nat.le_refl _) (Nat.le_refl _) (fun a r ha => by rcases ha with rfl | rfl | rfl | rfl | rfl | rfl | rfl | rfl | rfl <;> rfl)
theorem J.prs (j : J s C) (hb : ∀ k, k < n → b k < 256) (h : foP b n s i = none) : J (adP b n s i) C := by
  unfold foP at h
  obtain ⟨h, h8⟩ := ch_none.mp h
  obtain ⟨h, h7⟩ := ch_none.mp h
  obtain ⟨h, h6⟩ := ch_none.mp h
  obtain ⟨h, h5⟩ := ch_none.mp h
  obtain ⟨h, h4⟩ := ch_none.mp h
  obtain ⟨h, h3⟩ := ch_none.mp h
  obtain ⟨h, h2⟩ := ch_none.mp h
  obtain ⟨h0, h1⟩ := ch_none.mp h
  have c0 := ckC_n h0
  have c1 := nm_tok (ckW_n h1)
  have c3 := ckN_n h3
  have c5 := ckN_n h5
  have c7 := ckN_n h7
  obtain ⟨⟨⟨g1, g2, g3⟩, a1, a2, a3, a4, a5⟩, o, t⟩ := j
  have hne : ∀ p, p < zP s → p ≠ zP s := fun p hp => by omega
  refine ⟨⟨⟨g1.prs hb c0 (by omega), fun p hp => ?_, g3⟩, ?_, fun p hp => ?_, a3, fun p hp w hw e => ?_, a5⟩, ?_, ?_⟩
  · have hp : p < zP s + 1 := hp
    by_cases e : p = zP s
    · subst e
      simp [adP, sU]
      exact ⟨_, c1.1, rfl, c1.2.1⟩
    · simp [adP, sU, e]
      exact g2 p (by omega)
  · show zQ s + tV b n (i + 3) = sm (pS (adP b n s i)) (zP s) + pS (adP b n s i) (zP s)
    have e1 : pS (adP b n s i) (zP s) = tV b n (i + 3) := by simp [adP, sU]
    rw [e1, sm_congr (g := pS s) (fun p hp => by simp [adP, sU, hne p hp]), ← a1]
  · have hp : p < zP s + 1 := hp
    by_cases e : p = zP s
    · subst e
      simp [adP, sU]
      omega
    · simp [adP, sU, e]
      exact a2 p (by omega)
  · have hp : p < zP s + 1 := hp
    by_cases e2 : p = zP s
    · subst e2
      have e : e27 (wrd b n (i + 1)) 0 = e27 w 0 := by simpa [adP, sU] using e
      have := e27_inj _ _ w (Nat.le_refl _) c1.1.2.2 hw.2.2 e
      intro z
      rw [← this] at z
      exact c1.2.2 (ow_mem z)
    · have e : pN s p = e27 w 0 := by simpa [adP, sU, e2] using e
      exact a4 p (by omega) w hw e
  · exact o.same rfl rfl (Nat.le_succ _) (fun a r ha => by rcases ha with rfl | rfl | rfl | rfl | rfl | rfl | rfl <;> rfl)
  · exact t.same rfl rfl (Nat.le_refl _) (Nat.le_succ _) (fun a r ha => by rcases ha with rfl | rfl | rfl | rfl | rfl | rfl | rfl | rfl | rfl <;> rfl)
theorem J.knd (j : J s C) (hb : ∀ k, k < n → b k < 256) (h : foK b n s i = none) : J (adK b n s i) C := by
  unfold foK at h
  obtain ⟨h, h4⟩ := ch_none.mp h
  obtain ⟨h, h3⟩ := ch_none.mp h
  obtain ⟨h, h2⟩ := ch_none.mp h
  obtain ⟨h0, h1⟩ := ch_none.mp h
  have c0 := ckC_n h0
  have c1 := nm_tok (ckW_n h1)
  have c3 := ckN_n h3
  obtain ⟨⟨⟨g1, g2, g3⟩, a1, a2, a3, a4, a5⟩, o, t⟩ := j
  refine ⟨⟨⟨g1.knd hb c0, g2, fun p hp => ?_⟩, a1, a2, fun p hp => ?_, a4, a5⟩, ?_, ?_⟩
  · have hp : p < zK s + 1 := hp
    by_cases e : p = zK s
    · subst e
      simp [adK, sU]
      exact ⟨_, c1.1, rfl, c1.2.1⟩
    · simp [adK, sU, e]
      exact g3 p (by omega)
  · have hp : p < zK s + 1 := hp
    by_cases e : p = zK s
    · subst e
      simp [adK, sU]
      omega
    · simp [adK, sU, e]
      exact a3 p (by omega)
  · exact o.same rfl rfl (Nat.le_refl _) (fun a r ha => by rcases ha with rfl | rfl | rfl | rfl | rfl | rfl | rfl <;> rfl)
  · exact t.same rfl rfl (Nat.le_succ _) (Nat.le_refl _) (fun a r ha => by rcases ha with rfl | rfl | rfl | rfl | rfl | rfl | rfl | rfl | rfl <;> rfl)
theorem J.rst {x y z : Nat} (j : J s C) (hO : zO s < 60) (hx : x < zK s) (hy : y < zK s) (hz : 1 ≤ z ∧ z ≤ 30) : J (adR s x y z) C := by
  obtain ⟨⟨⟨g1, g2, g3⟩, a1, a2, a3, a4, a5⟩, o, t⟩ := j
  have hK := g1.1.2.1
  refine ⟨⟨⟨g1.rst hz.2 hO (by omega) (by omega), g2, g3⟩, a1, a2, a3, a4, a5⟩, ?_, ?_⟩
  · have v12 : oS (adR s x y z) (zO s) = 3 := by simp [adR, adO, sU]
    have v13 : oA (adR s x y z) (zO s) = x := by simp [adR, adO, sU]
    have v14 : oB (adR s x y z) (zO s) = y := by simp [adR, adO, sU]
    have v15 : oC (adR s x y z) (zO s) = z := by simp [adR, adO, sU]
    have vR : ∀ q, kR (adR s x y z) q = if q = x * 6 + y then max (kR s q) z else kR s q := fun q => by
      by_cases e : q = x * 6 + y
      · subst e; simp [adR, adO, sU]
      · simp [adR, adO, sU, e]
    refine o.add rfl rfl (fun a r ha hr => ?_) (fun q hq => ?_) (fun a b f ha hb hf => ?_) (fun p q hp hq => ?_) (fun p q hp hq => ?_) ?_
    · rcases ha with rfl | rfl | rfl | rfl <;> simp [adR, adO, sU, hr]
    · rw [vR]
      have h1 := o.1 q hq
      show _ ≤ max (zL s) z
      split <;> omega
    · rw [vR, v12, v13, v14, v15]
      by_cases e : a * 6 + b = x * 6 + y
      · have : a = x ∧ b = y := by omega
        rw [if_pos e]
        omega
      · rw [if_neg e]
        have : ¬ (x = a ∧ y = b) := fun z => e (by rw [z.1, z.2])
        omega
    · rw [v12]
      have e : pA (adR s x y z) p = pA s p := rfl
      rw [e]
      simp
    · rw [v12]
      have e : pB (adR s x y z) p = pB s p := rfl
      rw [e]
      simp
    · rw [v12, v13, v14, v15]; omega
  · refine t.oth rfl rfl rfl rfl (fun a r ha hr => ?_) (fun a r ha => ?_) ?_
    · rcases ha with rfl | rfl | rfl | rfl | rfl <;> simp [adR, adO, sU, hr]
    · rcases ha with rfl | rfl | rfl | rfl <;> rfl
    · simp [adR, adO, sU]
theorem J.jn4 {x y : Nat} (j : J s C) (hO : zO s < 60) (hx : x < zP s) (hy : y < zP s) (hne : x ≠ y) : J (adJ s 4 x y) C := by
  obtain ⟨⟨⟨g1, g2, g3⟩, a1, a2, a3, a4, a5⟩, o, t⟩ := j
  have hP := g1.1.1
  refine ⟨⟨⟨g1.jn23 hO (by omega) (by omega) hne, g2, g3⟩, a1, a2, a3, a4, a5⟩, ?_, ?_⟩
  · have v12 : oS (adJ s 4 x y) (zO s) = 4 := by simp [adJ, jnM, adO, sU]
    have v13 : oA (adJ s 4 x y) (zO s) = x := by simp [adJ, jnM, adO, sU]
    have v14 : oB (adJ s 4 x y) (zO s) = y := by simp [adJ, jnM, adO, sU]
    have v15 : oC (adJ s 4 x y) (zO s) = 0 := by simp [adJ, jnM, adO, sU]
    have vA : ∀ q, pA (adJ s 4 x y) q = if q = x then pA s q ||| 2 ^ y else if q = y then pA s q ||| 2 ^ x else pA s q := fun q => by
      by_cases e : q = x
      · subst e; simp [adJ, jnM, adO, sU, hne]
      · by_cases e2 : q = y
        · subst e2; simp [adJ, jnM, adO, sU, e]
        · simp [adJ, jnM, adO, sU, e, e2]
    refine o.add rfl rfl (fun a r ha hr => ?_) o.1 (fun a b f ha hb hf => ?_) (fun p q hp hq => ?_) (fun p q hp hq => ?_) ?_
    · rcases ha with rfl | rfl | rfl | rfl <;> simp [adJ, jnM, adO, sU, hr]
    · rw [v12]
      have e : kR (adJ s 4 x y) (a * 6 + b) = kR s (a * 6 + b) := rfl
      rw [e]
      omega
    · rw [v12, v13, v14, vA]
      by_cases e : p = x
      · rw [if_pos e, Nat.testBit_or, Nat.testBit_two_pow, Bool.or_eq_true, decide_eq_true_iff]
        by_cases z : (pA s p).testBit q = true
        · simp [z]
        · simp [z]; omega
      · rw [if_neg e]
        by_cases e2 : p = y
        · rw [if_pos e2, Nat.testBit_or, Nat.testBit_two_pow, Bool.or_eq_true, decide_eq_true_iff]
          by_cases z : (pA s p).testBit q = true
          · simp [z]
          · simp [z]; omega
        · rw [if_neg e2]
          by_cases z : (pA s p).testBit q = true
          · simp [z]
          · simp [z]; omega
    · rw [v12]
      have e : pB (adJ s 4 x y) p = pB s p := rfl
      rw [e]
      simp
    · rw [v12, v13, v14, v15]; omega
  · refine t.oth rfl rfl rfl rfl (fun a r ha hr => ?_) (fun a r ha => ?_) ?_
    · rcases ha with rfl | rfl | rfl | rfl | rfl <;> simp [adJ, jnM, adO, sU, hr]
    · rcases ha with rfl | rfl | rfl | rfl <;> rfl
    · simp [adJ, jnM, adO, sU]
theorem J.jn5 {x y : Nat} (j : J s C) (hO : zO s < 60) (hx : x < zP s) (hy : y < zP s) (hne : x ≠ y) : J (adJ s 5 x y) C := by
  obtain ⟨⟨⟨g1, g2, g3⟩, a1, a2, a3, a4, a5⟩, o, t⟩ := j
  have hP := g1.1.1
  refine ⟨⟨⟨g1.jn24 hO (by omega) (by omega) hne, g2, g3⟩, a1, a2, a3, a4, a5⟩, ?_, ?_⟩
  · have v12 : oS (adJ s 5 x y) (zO s) = 5 := by simp [adJ, jnM, adO, sU]
    have v13 : oA (adJ s 5 x y) (zO s) = x := by simp [adJ, jnM, adO, sU]
    have v14 : oB (adJ s 5 x y) (zO s) = y := by simp [adJ, jnM, adO, sU]
    have v15 : oC (adJ s 5 x y) (zO s) = 0 := by simp [adJ, jnM, adO, sU]
    have vA : ∀ q, pB (adJ s 5 x y) q = if q = x then pB s q ||| 2 ^ y else if q = y then pB s q ||| 2 ^ x else pB s q := fun q => by
      by_cases e : q = x
      · subst e; simp [adJ, jnM, adO, sU, hne]
      · by_cases e2 : q = y
        · subst e2; simp [adJ, jnM, adO, sU, e]
        · simp [adJ, jnM, adO, sU, e, e2]
    refine o.add rfl rfl (fun a r ha hr => ?_) o.1 (fun a b f ha hb hf => ?_) (fun p q hp hq => ?_) (fun p q hp hq => ?_) ?_
    · rcases ha with rfl | rfl | rfl | rfl <;> simp [adJ, jnM, adO, sU, hr]
    · rw [v12]
      have e : kR (adJ s 5 x y) (a * 6 + b) = kR s (a * 6 + b) := rfl
      rw [e]
      omega
    · rw [v12]
      have e : pA (adJ s 5 x y) p = pA s p := rfl
      rw [e]
      simp
    · rw [v12, v13, v14, vA]
      by_cases e : p = x
      · rw [if_pos e, Nat.testBit_or, Nat.testBit_two_pow, Bool.or_eq_true, decide_eq_true_iff]
        by_cases z : (pB s p).testBit q = true
        · simp [z]
        · simp [z]; omega
      · rw [if_neg e]
        by_cases e2 : p = y
        · rw [if_pos e2, Nat.testBit_or, Nat.testBit_two_pow, Bool.or_eq_true, decide_eq_true_iff]
          by_cases z : (pB s p).testBit q = true
          · simp [z]
          · simp [z]; omega
        · rw [if_neg e2]
          by_cases z : (pB s p).testBit q = true
          · simp [z]
          · simp [z]; omega
    · rw [v12, v13, v14, v15]; omega
  · refine t.oth rfl rfl rfl rfl (fun a r ha hr => ?_) (fun a r ha => ?_) ?_
    · rcases ha with rfl | rfl | rfl | rfl | rfl <;> simp [adJ, jnM, adO, sU, hr]
    · rcases ha with rfl | rfl | rfl | rfl <;> rfl
    · simp [adJ, jnM, adO, sU]
/-- a tested statement, its test not yet read -/
def hdT (s0 : ST) (C0 : List Nat) (s : ST) : Prop := ∃ w x y, s = sU (adO s0 w x y 0) 26 (zO s0) C0.length ∧ zO s0 < 60 ∧ ((w = 1 ∧ x < zK s0 ∧ y = 0) ∨ (w = 2 ∧ x < zP s0 ∧ y < zK s0))
theorem J.cls {s0 : ST} {C0 T : List Nat} (j : J s0 C0) (hh : hdT s0 C0 s) (hty : tyC T [] = some [true]) : J (clo s (C0 ++ T).length) (C0 ++ T) := by
  obtain ⟨w, x, y, rfl, hO, hw⟩ := hh
  obtain ⟨⟨⟨g1, g2, g3⟩, a1, a2, a3, a4, a5⟩, o, t⟩ := j
  have hP := g1.1.1
  have hK := g1.1.2.1
  generalize hk : (C0 ++ T).length = k
  have v12 : oS (clo (sU (adO s0 w x y 0) 26 (zO s0) C0.length) k) (zO s0) = w := by simp [clo, adO, sU]
  have v13 : oA (clo (sU (adO s0 w x y 0) 26 (zO s0) C0.length) k) (zO s0) = x := by simp [clo, adO, sU]
  have v14 : oB (clo (sU (adO s0 w x y 0) 26 (zO s0) C0.length) k) (zO s0) = y := by simp [clo, adO, sU]
  have v15 : oC (clo (sU (adO s0 w x y 0) 26 (zO s0) C0.length) k) (zO s0) = 0 := by simp [clo, adO, sU]
  refine ⟨⟨⟨?_, g2, g3⟩, a1, a2, a3, a4, a5⟩, ?_, ?_⟩
  · obtain ⟨⟨d1, d2, d3, d4, d5, d6, d7⟩, d8⟩ := g1
    refine ⟨⟨d1, d2, d3, ?_, ?_, d6, d7⟩, d8⟩
    · show zO s0 + 1 ≤ 60; omega
    · show s0 0 7 + 1 ≤ zO s0 + 1; omega
  · refine o.add rfl rfl (fun a r ha hr => ?_) o.1 (fun a b f ha hb hf => ?_) (fun p q hp hq => ?_) (fun p q hp hq => ?_) ?_
    · rcases ha with rfl | rfl | rfl | rfl <;> simp [clo, adO, sU, hr]
    · rw [v12]
      have e : kR (clo (sU (adO s0 w x y 0) 26 (zO s0) C0.length) k) (a * 6 + b) = kR s0 (a * 6 + b) := rfl
      rw [e]
      omega
    · rw [v12]
      have e : pA (clo (sU (adO s0 w x y 0) 26 (zO s0) C0.length) k) p = pA s0 p := rfl
      have : ¬ w = 4 := by omega
      rw [e]
      simp [this]
    · rw [v12]
      have e : pB (clo (sU (adO s0 w x y 0) 26 (zO s0) C0.length) k) p = pB s0 p := rfl
      have : ¬ w = 5 := by omega
      rw [e]
      simp [this]
    · rw [v12, v13, v14, v15]; omega
  · refine t.tst rfl rfl rfl rfl (fun a r ha hr => ?_) (fun a r ha hr => ?_) ?_ ?_ ?_ ?_ ?_ ?_ ?_ hty ?_ ?_
    · rcases ha with rfl | rfl | rfl | rfl | rfl <;> simp [clo, adO, sU, hr]
    · have hr' : ¬ r = s0 0 7 := hr
      rcases ha with rfl | rfl | rfl | rfl <;> simp [clo, adO, sU, hr']
    · rw [v12]; omega
    · simp [clo, adO, sU]
    · rw [v12, v13]; simp [clo, adO, sU]
    · rw [v12, v13, v14]; simp [clo, adO, sU]
    · simp [clo, adO, sU]
    · rw [hk]; simp [clo, adO, sU]
    · rw [hk]; simp [clo, adO, sU]
    · rw [v12, v13]; omega
    · rw [v12, v13, v14]; omega
end JST
