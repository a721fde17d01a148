/-! ===== SWAPS: what a swap changes ===== -/
def swp (f : RT) (i j : Nat) : RT := fun t => if t = i then f j else if t = j then f i else f t
theorem swp_i (f : RT) (i j : Nat) : swp f i j i = f j := if_pos rfl
theorem swp_j (f : RT) {i j : Nat} (h : i ≠ j) : swp f i j j = f i := by
  unfold swp
  rw [if_neg (fun z => h z.symm), if_pos rfl]
theorem swp_o (f : RT) {i j t : Nat} (h1 : t ≠ i) (h2 : t ≠ j) : swp f i j t = f t := by
  unfold swp
  rw [if_neg h1, if_neg h2]
theorem swp_swp (f : RT) (i j : Nat) : swp (swp f i j) i j = f := by
  funext t
  by_cases h1 : t = i
  · subst h1
    rw [swp_i]
    by_cases h : j = t
    · subst h; rw [swp_i]
    · rw [swp_j _ (fun z => h z.symm)]
  · by_cases h2 : t = j
    · subst h2
      rw [swp_j _ (fun z => h1 z.symm), swp_i]
    · rw [swp_o _ h1 h2, swp_o _ h1 h2]
theorem upd_swp (f : RT) {i j : Nat} (h : i ≠ j) : upd (upd f i (f j)) j (f i) = swp f i j := by
  funext t
  by_cases h2 : t = j
  · subst h2
    rw [pk_us, swp_j _ h]
  · rw [pk_un h2]
    by_cases h1 : t = i
    · subst h1; rw [pk_us, swp_i]
    · rw [pk_un h1, swp_o _ h1 h2]
section SW1
variable {s : ST} {c v : RT} {i j t : Nat}
theorem RO.swq (ro : RO s c v) (hi : i < zT s) (hj : j < zT s) : RO s (swp c i j) (swp v i j) := by
  intro t ht
  unfold swp
  by_cases h1 : t = i
  · rw [if_pos h1, if_pos h1]; exact ro j hj
  · rw [if_neg h1, if_neg h1]
    by_cases h2 : t = j
    · rw [if_pos h2, if_pos h2]; exact ro i hi
    · rw [if_neg h2, if_neg h2]; exact ro t ht
/-- only turns near i and j can be barred otherwise -/
theorem bar_same (o : OK s) (ro : RO s c v) (hi : i < zT s) (hj : j < zT s) (ht : t < zT s) (h1 : tD s t ≠ tD s i) (h2 : tD s t ≠ tD s j) (h3 : (¬ v t = v i ∧ ¬ v t = v j) ∨ (¬ (tD s i < tD s t ∧ tD s t - tD s i ≤ zL s) ∧ ¬ (tD s j < tD s t ∧ tD s t - tD s j ≤ zL s))) : bOf s (swp v i j) t = bOf s v t := by
  have hK := o.K
  have hti : t ≠ i := fun z => h1 (by rw [z])
  have htj : t ≠ j := fun z => h2 (by rw [z])
  have ev : swp v i j t = v t := swp_o v hti htj
  have eo : ∀ p, oth s (swp v i j) p t = oth s v p t := by
    intro p
    apply Bool.eq_iff_iff.mpr
    rw [svo_iff, svo_iff]
    have e : ∀ u, tD s u = tD s t → swp v i j u = v u := fun u hu => swp_o v (fun z => h1 (by rw [← z, hu])) (fun z => h2 (by rw [← z, hu]))
    constructor
    · rintro ⟨u, a1, a2, a3, a4⟩; exact ⟨u, a1, a2, a3, by rw [← e u a3]; exact a4⟩
    · rintro ⟨u, a1, a2, a3, a4⟩; exact ⟨u, a1, a2, a3, by rw [e u a3]; exact a4⟩
  have ear : ∀ u, u < zT s → asks s u t = true → tD s t - tD s u ≤ zL s := by
    intro u hu ha
    have k1 := o.knd hu
    have k2 := o.knd ht
    have := o.rsl (i := tK s u * 6 + tK s t) (by omega)
    unfold asks at ha
    have := of_decide_eq_true ha
    omega
  have er : ∀ p, v t = nI p → rsB s (swp v i j) p t = rsB s v p t := by
    intro p hvp
    apply Bool.eq_iff_iff.mpr
    unfold rsB
    rw [anyB_iff, anyB_iff]
    simp only [Bool.and_eq_true, decide_eq_true_eq]
    have key : ∀ u, u < zT s → tD s u < tD s t → asks s u t = true → (swp v i j u = nI p ↔ v u = nI p) := by
      intro u hu hd ha
      by_cases e1 : u = i
      · subst e1
        rcases h3 with ⟨n1, n2⟩ | ⟨n1, n2⟩
        · rw [swp_i, ← hvp]
          exact ⟨fun z => absurd z.symm n2, fun z => absurd z.symm n1⟩
        · exact absurd ⟨hd, ear u hu ha⟩ n1
      · by_cases e2 : u = j
        · subst e2
          rcases h3 with ⟨n1, n2⟩ | ⟨n1, n2⟩
          · rw [swp_j v (fun z => e1 z.symm), ← hvp]
            exact ⟨fun z => absurd z.symm n1, fun z => absurd z.symm n2⟩
          · exact absurd ⟨hd, ear u hu ha⟩ n2
        · rw [swp_o v e1 e2]
    constructor
    · rintro ⟨u, a1, ⟨a2, a3⟩, a4⟩; exact ⟨u, a1, ⟨a2, (key u a1 a2 a4).mp a3⟩, a4⟩
    · rintro ⟨u, a1, ⟨a2, a3⟩, a4⟩; exact ⟨u, a1, ⟨a2, (key u a1 a2 a4).mpr a3⟩, a4⟩
  have hP := o.P
  rcases ro.vv ht with e | ⟨p, hp, e⟩
  · rw [bOf_no e, bOf_no (by rw [ev]; exact e)]
  · have ea : apB s (swp v i j) p t = apB s v p t := by unfold apB; simp only [eo]
    have eb : bsB s (swp v i j) p t = bsB s v p t := by unfold bsB; simp only [eo]
    have ei : bIf s (swp v i j) t p = bIf s v t p := by unfold bIf; rw [eo, er p e, ea]
    by_cases h0 : bIf s v t p = 0
    · rw [bOf_eq (by omega) e h0, bOf_eq (p := p) (by omega) (by rw [ev]; exact e) (by rw [ei]; exact h0), eb]
    · rw [bOf_ne (by omega) e h0, bOf_ne (p := p) (by omega) (by rw [ev]; exact e) (by rw [ei]; exact h0), ei]
theorem fT_congr {σ : Type} {f g : σ → Nat → σ} {k : Option Nat} {a : σ} : ∀ {n}, (∀ x t, t < n → isO s k t = true → f x t = g x t) → fT f s k a n = fT g s k a n
  | 0, _ => rfl
  | n + 1, H => by
    unfold fT
    rw [fT_congr (fun x t ht => H x t (by omega))]
    split
    · rename_i hi
      exact H _ n (by omega) hi
    · rfl
theorem gap_congr {c' : RT} {k : Option Nat} {p : Nat} (H : ∀ t, t < zT s → isO s k t = true → (c t = nI p ↔ c' t = nI p)) : gapV s c p k = gapV s c' p k := by
  have e : gpT s c p k (zT s) = gpT s c' p k (zT s) := fT_congr (fun x t ht hi => by
    have : chg s c p k t = chg s c' p k t := by
      unfold chg
      simp only [H t ht hi]
    unfold gpf
    rw [this])
  unfold gapV
  rw [e]
theorem gap_swp (o : OK s) {k p q r : Nat} (hij : i ≠ j) (hp : p < zP s) (hq : q < zP s) (hr : r < zP s) (h1 : c i = nI q) (h2 : c j = nI r) (h3 : ¬ ((p = q ∨ p = r) ∧ (k = tK s i ∨ k = tK s j))) : gapV s (swp c i j) p (some k) = gapV s c p (some k) := by
  have hP := o.P
  refine gap_congr (fun t ht hi => ?_)
  have hk : tK s t = k := by simpa [isO] using hi
  by_cases e1 : t = i
  · subst e1
    rw [swp_i, h1, h2, nI_eq (by omega) (by omega), nI_eq (by omega) (by omega)]
    constructor
    · intro z; exact absurd ⟨Or.inr z.symm, Or.inl hk.symm⟩ h3
    · intro z; exact absurd ⟨Or.inl z.symm, Or.inl hk.symm⟩ h3
  · by_cases e2 : t = j
    · subst e2
      rw [swp_j c hij, h1, h2, nI_eq (by omega) (by omega), nI_eq (by omega) (by omega)]
      constructor
      · intro z; exact absurd ⟨Or.inl z.symm, Or.inr hk.symm⟩ h3
      · intro z; exact absurd ⟨Or.inr z.symm, Or.inr hk.symm⟩ h3
    · rw [swp_o c e1 e2]
/-- the worst gap lies below w exactly when all do -/
theorem wsk_lt {w : Int64} : (wsk s c (zK s)).1 < w ↔ (-1 : Int64) < w ∧ ∀ k p, k < zK s → p < zP s → gapV s c p (some k) < w := by
  have h1 : ∀ k a n, (wsp s c k a n).1 < w ↔ a.1 < w ∧ ∀ p, p < n → gapV s c p (some k) < w := by
    intro k a n
    induction n with
    | zero => exact ⟨fun z => ⟨z, fun p hp => absurd hp (by omega)⟩, fun z => z.1⟩
    | succ n ih =>
      unfold wsp
      split
      · rename_i hlt
        constructor
        · intro z
          have := ih.mp (Int64.lt_trans hlt z)
          refine ⟨this.1, fun p hp => ?_⟩
          by_cases e : p = n
          · subst e; exact z
          · exact this.2 p (by omega)
        · rintro ⟨z1, z2⟩; exact z2 n (by omega)
      · rename_i hlt
        rw [ih]
        constructor
        · rintro ⟨z1, z2⟩
          refine ⟨z1, fun p hp => ?_⟩
          by_cases e : p = n
          · subst e
            have := ih.mpr ⟨z1, z2⟩
            rw [Int64.lt_iff_toInt_lt] at *
            omega
          · exact z2 p (by omega)
        · rintro ⟨z1, z2⟩; exact ⟨z1, fun p hp => z2 p (by omega)⟩
  have h2 : ∀ n, (wsk s c n).1 < w ↔ (-1 : Int64) < w ∧ ∀ k p, k < n → p < zP s → gapV s c p (some k) < w := by
    intro n
    induction n with
    | zero => exact ⟨fun z => ⟨z, fun k p hk => absurd hk (by omega)⟩, fun z => z.1⟩
    | succ n ih =>
      unfold wsk
      rw [h1, ih]
      constructor
      · rintro ⟨⟨z1, z2⟩, z3⟩
        refine ⟨z1, fun k p hk hp => ?_⟩
        by_cases e : k = n
        · subst e; exact z3 p hp
        · exact z2 k p (by omega) hp
      · rintro ⟨z1, z2⟩
        exact ⟨⟨z1, fun k p hk hp => z2 k p (by omega) hp⟩, fun p hp => z2 n p (by omega) hp⟩
  exact h2 _
theorem i32_ab (A B x y : Nat) : (nI A - nI B) + (nI x - nI y) = nI (A + x) - nI (B + y) := by
  rw [← nI_add, ← nI_add, Int32.sub_eq_add_neg, Int32.sub_eq_add_neg, Int32.sub_eq_add_neg, Int32.neg_add, Int32.sub_eq_add_neg, Int32.add_assoc, Int32.add_assoc, ← Int32.add_assoc (-nI B), ← Int32.add_assoc (nI x), Int32.add_comm (-nI B) (nI x)]
end SW1
