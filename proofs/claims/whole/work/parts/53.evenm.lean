/-! ===== EVEN: the model's side ===== -/
section EVENM
variable {s : ST} {c v : RT} {h : HP} {n a b t : Nat} {hd : Nat → Nat}
theorem r_M_mustBy {h : HP} (o : OK s) {p : Nat} (hp : p < zP s) (hm : hd p ≤ 200) (hn : n ≤ 200) (hb : b ≤ 720720) : Run 0 j_M_mustBy [.long (lN (sh s p)), .int (nI (hd p)), .long (lN b), .int (nI n)] h (some (.int (nI (byN s n b hd p)))) h := by
  have hs := sh_bd o hp
  have hne : ¬ lN (sh s p) = 0 := fun z => by
    rw [show (0 : Int64) = lN 0 from rfl, pk_lEQ (by omega) (by decide)] at z
    omega
  have e1 : (nI (hd p)).toInt64 * 720720 + lN b = lN (hd p * 720720 + b) := by
    rw [nI_l (by omega), show (720720 : Int64) = lN 720720 from rfl, lN_mul, lN_add]
  have hdv : (hd p * 720720 + b) / sh s p ≤ 201 * 720720 := Nat.le_trans (Nat.div_le_self _ _) (by omega)
  refine Run.of rfl ?_
  refine Wp.norm (L' := [_, _, _, _, _, _, _, _]) rfl ?_
  repeat (first | (refine W1 rfl ?_; try refine Wp.norm (L' := [_, _, _, _, _, _, _, _]) rfl ?_) | ((first | change (_ → _) ∧ (_ → _) | change vp_in _ _ ∧ _ | change ¬ _ ∧ _); simp (disch := omega) only [nI_clamp, nI_leI, nI_ltI, nI_eq, nI_1, nI_add, nI_not_neg, nI_is_pos, nI_m1, nI_z]) | refine brT (by first | assumption | decide | omega) ?_ | refine brF (by first | assumption | decide | omega) ?_ | refine brTn (by first | assumption | decide | omega) ?_ | refine brFn (by first | assumption | decide | omega) ?_ | refine And.intro (vp_in_nI (by omega) (by decide)) ?_ | refine And.intro (vp_lit (by decide)) ?_ | refine divJ (by decide) ?_ | refine divI (by decide) ?_)
  try change _ ∧ _
  refine ⟨hne, ?_⟩
  rw [e1, pk_lDiv (by omega) (by omega) (by omega)]
  unfold byN
  generalize (hd p * 720720 + b) / sh s p = y at *
  repeat (first | (refine W1 rfl ?_; try refine Wp.norm (L' := [_, _, _, _, _, _, _, _]) rfl ?_) | ((first | change (_ → _) ∧ (_ → _) | change vp_in _ _ ∧ _ | change ¬ _ ∧ _); simp (disch := omega) only [nI_clamp, nI_leI, nI_ltI, nI_eq, nI_1, nI_add, nI_not_neg, nI_is_pos, nI_m1, nI_z]) | refine brT (by first | assumption | decide | omega) ?_ | refine brF (by first | assumption | decide | omega) ?_ | refine brTn (by first | assumption | decide | omega) ?_ | refine brFn (by first | assumption | decide | omega) ?_ | refine And.intro (vp_in_nI (by omega) (by decide)) ?_ | refine And.intro (vp_lit (by decide)) ?_ | refine divJ (by decide) ?_ | refine divI (by decide) ?_)
  try change _ ∧ _
  rw [nI_l (show n < 2 ^ 31 by omega), lgc_ge, pk_lLE (by omega) (by omega)]
  refine ⟨fun q => ?_, fun q => ?_⟩
  · repeat (first | (refine W1 rfl ?_; try refine Wp.norm (L' := [_, _, _, _, _, _, _, _]) rfl ?_) | ((first | change (_ → _) ∧ (_ → _) | change vp_in _ _ ∧ _ | change ¬ _ ∧ _); simp (disch := omega) only [nI_clamp, nI_leI, nI_ltI, nI_eq, nI_1, nI_add, nI_not_neg, nI_is_pos, nI_m1, nI_z]) | refine brT (by first | assumption | decide | omega) ?_ | refine brF (by first | assumption | decide | omega) ?_ | refine brTn (by first | assumption | decide | omega) ?_ | refine brFn (by first | assumption | decide | omega) ?_ | refine And.intro (vp_in_nI (by omega) (by decide)) ?_ | refine And.intro (vp_lit (by decide)) ?_ | refine divJ (by decide) ?_ | refine divI (by decide) ?_)
    try change _ ∧ _
    refine ⟨?_, rfl⟩
    rw [show min n y = n by omega]
  · repeat (first | (refine W1 rfl ?_; try refine Wp.norm (L' := [_, _, _, _, _, _, _, _]) rfl ?_) | ((first | change (_ → _) ∧ (_ → _) | change vp_in _ _ ∧ _ | change ¬ _ ∧ _); simp (disch := omega) only [nI_clamp, nI_leI, nI_ltI, nI_eq, nI_1, nI_add, nI_not_neg, nI_is_pos, nI_m1, nI_z]) | refine brT (by first | assumption | decide | omega) ?_ | refine brF (by first | assumption | decide | omega) ?_ | refine brTn (by first | assumption | decide | omega) ?_ | refine brFn (by first | assumption | decide | omega) ?_ | refine And.intro (vp_in_nI (by omega) (by decide)) ?_ | refine And.intro (vp_lit (by decide)) ?_ | refine divJ (by decide) ?_ | refine divI (by decide) ?_)
    try change _ ∧ _
    refine ⟨?_, rfl⟩
    rw [lN_i, show min n y = y by omega]
/-- where evens writes -/
def cmF (h h' : HP) : Prop := onlyJ [65, 115, 116] [] h h' ∧ ∀ i, i ≠ 72 → i ≠ 73 → h'.1 65 i = h.1 65 i
theorem cmF.rfl (h : HP) : cmF h h := ⟨onlyJ.rfl _ _ h, fun _ _ _ => Eq.refl _⟩
theorem cmF.add {h h' : HP} {k i : Nat} {x : Int32} (H : cmF h h') (hk : k ∈ [65, 115, 116]) (h50 : k = 65 → i = 72 ∨ i = 73) : cmF h (wI h' k i x) := by
  refine ⟨H.1.addI hk, fun j h1 h2 => ?_⟩
  by_cases e : k = 65
  · subst e
    rw [wI_ne2 _ _ (by have := h50 (Eq.refl _); omega)]
    exact H.2 j h1 h2
  · rw [wI_ne _ _ _ (fun z => e z.symm)]
    exact H.2 j h1 h2
theorem cmF.trans {h1 h2 h3 : HP} (A : cmF h1 h2) (B : cmF h2 h3) : cmF h1 h3 := ⟨A.1.trans B.1, fun i x y => (B.2 i x y).trans (A.2 i x y)⟩
theorem cmF.same {h h' : HP} (H : cmF h h') : Same h h' := by
  refine ⟨fun k i hk => ?_, fun k i hk => H.1.2 k i (by simp)⟩
  by_cases e : k = 65
  · subst e
    exact H.2 i (by rintro rfl; cases hk) (by rintro rfl; cases hk)
  · refine H.1.1 k i ?_
    intro z
    simp at z
    rcases z with z | z | z
    · exact e z
    · subst z; cases hk
    · subst z; cases hk
def cbM (s : ST) (n a b : Nat) (h : HP) (w : Option Value) (h' : HP) : Prop := cmF h h' ∧ ((w = some (.int 1) ∧ (∀ t, t < n → stk s n a b t = false) ∧ ∀ u, u < n → h'.1 115 u = oV (gtF s n a b u)) ∨ (w = some (.int 0) ∧ ∃ t, t < n ∧ stk s n a b t = true ∧ (∀ u, u < t → stk s n a b u = false) ∧ h'.1 65 72 = nI t ∧ h'.1 65 73 = mkM (prB s n b (hdF s n a b t) t) (zP s)))
def soV (s : ST) (n b : Nat) (hd : Nat → Nat) : Option Nat → Int32
  | none => 0
  | some q => nI (byN s n b hd q)
theorem w_M_evens (R : RM s c v h) (o : OK s) (hn : n ≤ 200) (ha : a ≤ 720720) (hb : b ≤ 720720) : ∃ w h', Run 1 j_M_evens [.ref 65, .int (nI n), .long (lN a), .long (lN b)] h w h' ∧ cbM s n a b h w h' := by
  have hT := o.T; have hP := o.P; have hK := o.K; have hD := o.D; have hO := o.O; have hQ := o.Q; have hL := o.L
  refine Run.ofP rfl ?_
  refine Wp.norm (L' := [_, _, _, _, _, _, _, _, _, _, _, _, _, _, _, _]) rfl ?_
  have lp2 : ∀ t, t ≤ n → ∀ h' (x9 x10 x11 : Value) (x12 : Value) (x13 x15 : Value), cmF h h' → (∀ p, p < zP s → h'.1 116 p = nI (hdF s n a b t p)) → (∀ u, u < t → h'.1 115 u = oV (gtF s n a b u)) → (∀ u, u < t → stk s n a b u = false) → Wp 1 j_M_evens 42 [.ref 65, .int (nI n), .long (lN a), .null, .long (lN b), .null, .int (nI (zP s)), .int (nI (zQ s)), .int (nI t), x9, x10, x11, x12, x13, .null, x15] [] h' (cbM s n a b h) := by
    refine up_ind ?_ (fun t ht ih => ?_)
    · intro h' x9 x10 x11 x12 x13 x15 E H G S
      repeat (first | (refine W1 rfl ?_; try refine Wp.norm (L' := [_, _, _, _, _, _, _, _, _, _, _, _, _, _, _, _]) rfl ?_) | ((first | change (_ → _) ∧ (_ → _) | change vp_in _ _ ∧ _ | change ¬ _ ∧ _); simp (disch := omega) only [nI_clamp, nI_leI, nI_ltI, nI_eq, nI_1, nI_add, nI_not_neg, nI_is_pos, nI_m1, nI_z]) | refine brT (by first | assumption | decide | omega) ?_ | refine brF (by first | assumption | decide | omega) ?_ | refine brTn (by first | assumption | decide | omega) ?_ | refine brFn (by first | assumption | decide | omega) ?_ | refine And.intro (vp_in_nI (by omega) (by decide)) ?_ | refine And.intro (vp_lit (by decide)) ?_ | refine divJ (by decide) ?_ | refine divI (by decide) ?_)
      try change _ ∧ _
      exact ⟨Or.inr rfl, E, Or.inl ⟨rfl, S, G⟩⟩
    · intro h' x9 x10 x11 x12 x13 x15 E H G S
      have R' := R.same E.same
      have hd2 : ∀ p, p < zP s → hdF s n a b t p ≤ 200 := fun p _ => Nat.le_trans (hdF_le t p) (by omega)
      have hg0 : gtF s n a b t = snF s n a b (hdF s n a b t) t (zP s) := rfl
      have inner : ∀ i, i ≤ zP s → ∀ x13 x15, Wp 1 j_M_evens 60 [.ref 65, .int (nI n), .long (lN a), .null, .long (lN b), .null, .int (nI (zP s)), .int (nI (zQ s)), .int (nI t), .int (oV (snF s n a b (hdF s n a b t) t i)), .int (soV s n b (hdF s n a b t) (snF s n a b (hdF s n a b t) t i)), .int (mkM (prB s n b (hdF s n a b t) t) i), .int (nI i), x13, .null, x15] [] h' (cbM s n a b h) := by
        refine up_ind ?_ (fun i hi ih2 => ?_)
        · intro x13 x15
          cases hg : snF s n a b (hdF s n a b t) t (zP s) with
          | none =>
            repeat (first | (refine W1 rfl ?_; try refine Wp.norm (L' := [_, _, _, _, _, _, _, _, _, _, _, _, _, _, _, _]) rfl ?_) | ((first | change (_ → _) ∧ (_ → _) | change vp_in _ _ ∧ _ | change ¬ _ ∧ _); simp (disch := omega) only [nI_clamp, nI_leI, nI_ltI, nI_eq, nI_1, nI_add, nI_not_neg, nI_is_pos, nI_m1, nI_z]) | refine brT (by first | assumption | decide | omega) ?_ | refine brF (by first | assumption | decide | omega) ?_ | refine brTn (by first | assumption | decide | omega) ?_ | refine brFn (by first | assumption | decide | omega) ?_ | refine And.intro (vp_in_nI (by omega) (by decide)) ?_ | refine And.intro (vp_lit (by decide)) ?_ | refine divJ (by decide) ?_ | refine divI (by decide) ?_)
            try change _ ∧ _
            refine ⟨Or.inl rfl, (E.add (by decide) (fun _ => Or.inl rfl)).add (by decide) (fun _ => Or.inr rfl), Or.inr ⟨rfl, t, ht, stk_none hg, S, ?_, wI_same _ _ _ _⟩⟩
            rw [wI_ne2 _ _ (by decide), wI_same]
          | some q =>
            have hq : q < zP s := snF_lt _ q hg
            have hg' : gtF s n a b t = some q := hg
            have hq1 := H q hq
            have hq2 := hd2 q hq
            have hst : (mkM (prB s n b (hdF s n a b t) t) (zP s) &&& ((1 <<< (nI q &&& 31)) ^^^ (-1)) = 0) ↔ stk s n a b t = false := by
              rw [and_zero]
              constructor
              · intro A
                cases e : stk s n a b t with
                | false => rfl
                | true =>
                  obtain ⟨p, p1, p2, p3⟩ := (stk_some hg').mp e
                  have := A p (by omega) (by rw [bt_mkM _ _ (by omega) p (by omega), p3]; simp [p1])
                  rw [bt_not _ (by omega), bt_shl (by omega) (by omega)] at this
                  simp at this
                  exact absurd this p2
              · intro e p hp hb1
                rw [bt_mkM _ _ (by omega) p hp, Bool.and_eq_true, decide_eq_true_eq] at hb1
                rw [bt_not _ hp, bt_shl (by omega) hp]
                by_cases ep : p = q
                · simp [ep]
                · have : stk s n a b t = true := (stk_some hg').mpr ⟨p, hb1.1, ep, hb1.2⟩
                  rw [this] at e
                  cases e
            by_cases hz : stk s n a b t = false
            · have e16 : (wI h' 115 t (nI q)).1 116 q = nI (hdF s n a b t q) := by rw [wI_ne _ _ _ (by decide)]; exact hq1
              have ih := ih (wI (wI h' 115 t (nI q)) 116 q (nI (hdF s n a b t q + 1))) (.int (nI q)) (.int (soV s n b (hdF s n a b t) (some q))) (.int (mkM (prB s n b (hdF s n a b t) t) (zP s))) (.int (nI (zP s))) x13 x15 ((E.add (by decide) (fun z => by cases z)).add (by decide) (fun z => by cases z)) (fun p hp => by
                by_cases e : p = q
                · rw [e, wI_same, hdF_q hg']
                · rw [wI_ne2 _ _ e, wI_ne _ _ _ (by decide), H p hp, hdF_p hg' e]) (fun u hu => by
                rw [wI_ne _ _ _ (by decide)]
                by_cases e : u = t
                · rw [e, wI_same, hg']; rfl
                · rw [wI_ne2 _ _ e]; exact G u (by omega)) (fun u hu => by
                by_cases e : u = t
                · rw [e]; exact hz
                · exact S u (by omega))
              repeat (first | (refine W1 rfl ?_; try refine Wp.norm (L' := [_, _, _, _, _, _, _, _, _, _, _, _, _, _, _, _]) rfl ?_) | ((first | change (_ → _) ∧ (_ → _) | change vp_in _ _ ∧ _ | change ¬ _ ∧ _); simp (disch := omega) only [nI_clamp, nI_leI, nI_ltI, nI_eq, nI_1, nI_add, nI_not_neg, nI_is_pos, nI_m1, nI_z, show oV (some q) = nI q from rfl]) | refine brT (by first | assumption | decide | omega) ?_ | refine brF (by first | assumption | decide | omega) ?_ | refine brTn (by first | assumption | decide | omega) ?_ | refine brFn (by first | assumption | decide | omega) ?_ | refine And.intro (vp_in_nI (by omega) (by decide)) ?_ | refine And.intro (vp_lit (by decide)) ?_ | refine divJ (by decide) ?_ | refine divI (by decide) ?_)
              try change _ ∧ _
              refine brT (hst.mpr hz) ?_
              repeat (first | refine Wp.at ih rfl rfl ?_ ?_ | (refine W1 rfl ?_; try refine Wp.norm (L' := [_, _, _, _, _, _, _, _, _, _, _, _, _, _, _, _]) rfl ?_) | ((first | change (_ → _) ∧ (_ → _) | change vp_in _ _ ∧ _ | change ¬ _ ∧ _); simp (disch := omega) only [nI_clamp, nI_leI, nI_ltI, nI_eq, nI_1, nI_add, nI_not_neg, nI_is_pos, nI_m1, nI_z, show oV (some q) = nI q from rfl]) | refine brT (by first | assumption | decide | omega) ?_ | refine brF (by first | assumption | decide | omega) ?_ | refine brTn (by first | assumption | decide | omega) ?_ | refine brFn (by first | assumption | decide | omega) ?_ | refine And.intro (vp_in_nI (by omega) (by decide)) ?_ | refine And.intro (vp_lit (by decide)) ?_ | refine divJ (by decide) ?_ | refine divI (by decide) ?_)
              try change _ ∧ _
              · first | rfl | (simp (disch := omega) only [nI_1, nI_add, nI_clamp] <;> first | done | rfl)
              · first | rfl | (simp (disch := omega) only [nI_1, nI_add, nI_clamp, e16] <;> first | done | rfl)
            · repeat (first | (refine W1 rfl ?_; try refine Wp.norm (L' := [_, _, _, _, _, _, _, _, _, _, _, _, _, _, _, _]) rfl ?_) | ((first | change (_ → _) ∧ (_ → _) | change vp_in _ _ ∧ _ | change ¬ _ ∧ _); simp (disch := omega) only [nI_clamp, nI_leI, nI_ltI, nI_eq, nI_1, nI_add, nI_not_neg, nI_is_pos, nI_m1, nI_z, show oV (some q) = nI q from rfl]) | refine brT (by first | assumption | decide | omega) ?_ | refine brF (by first | assumption | decide | omega) ?_ | refine brTn (by first | assumption | decide | omega) ?_ | refine brFn (by first | assumption | decide | omega) ?_ | refine And.intro (vp_in_nI (by omega) (by decide)) ?_ | refine And.intro (vp_lit (by decide)) ?_ | refine divJ (by decide) ?_ | refine divI (by decide) ?_)
              try change _ ∧ _
              refine brF (fun z => hz (hst.mp z)) ?_
              repeat (first | (refine W1 rfl ?_; try refine Wp.norm (L' := [_, _, _, _, _, _, _, _, _, _, _, _, _, _, _, _]) rfl ?_) | ((first | change (_ → _) ∧ (_ → _) | change vp_in _ _ ∧ _ | change ¬ _ ∧ _); simp (disch := omega) only [nI_clamp, nI_leI, nI_ltI, nI_eq, nI_1, nI_add, nI_not_neg, nI_is_pos, nI_m1, nI_z]) | refine brT (by first | assumption | decide | omega) ?_ | refine brF (by first | assumption | decide | omega) ?_ | refine brTn (by first | assumption | decide | omega) ?_ | refine brFn (by first | assumption | decide | omega) ?_ | refine And.intro (vp_in_nI (by omega) (by decide)) ?_ | refine And.intro (vp_lit (by decide)) ?_ | refine divJ (by decide) ?_ | refine divI (by decide) ?_)
              try change _ ∧ _
              refine ⟨Or.inl rfl, (E.add (by decide) (fun _ => Or.inl rfl)).add (by decide) (fun _ => Or.inr rfl), Or.inr ⟨rfl, t, ht, by simpa using hz, S, ?_, wI_same _ _ _ _⟩⟩
              rw [wI_ne2 _ _ (by decide), wI_same]
        · intro x13 x15
          have hi1 := H i hi
          have hi3 := hd2 i hi
          have hs := sh_bd o hi
          have hQ1 := Q_pos o hi
          have hs9 := o.shr9 hi
          have hby : ∀ q, byN s n b (hdF s n a b t) q ≤ n := fun q => Nat.min_le_left _ _
          have hle := lev_le (hd := hdF s n a b t) (t := t) (a := a) o hi hi3 (by omega) ha
          have edue : (720720 : Int64) * (nI (pS s i)).toInt64 / (nI (zQ s)).toInt64 = lN (sh s i) := by
            rw [nI_l (by omega), nI_l (by omega), show (720720 : Int64) = lN 720720 from rfl, lN_mul, pk_lDiv (by omega) (by omega) (by omega), div_all _ (by omega) _ (by omega) (by omega)]
            rfl
          have hq0 : ¬ (nI (zQ s)).toInt64 = 0 := fun z => by
            rw [nI_l (by omega), show (0 : Int64) = lN 0 from rfl, pk_lEQ (by omega) (by decide)] at z
            omega
          have e1 : snF s n a b (hdF s n a b t) t (i + 1) = match snF s n a b (hdF s n a b t) t i with
            | none => if elg s a (hdF s n a b t) t i = true then some i else none
            | some q => if elg s a (hdF s n a b t) t i = true ∧ byN s n b (hdF s n a b t) i < byN s n b (hdF s n a b t) q then some i else some q := rfl
          have e2 : mkM (prB s n b (hdF s n a b t) t) (i + 1) = if prB s n b (hdF s n a b t) t i = true then mkM (prB s n b (hdF s n a b t) t) i ||| (1 <<< (nI i &&& 31)) else mkM (prB s n b (hdF s n a b t) t) i := rfl
          have rb := r_M_mustBy (h := h') (hd := hdF s n a b t) (n := n) (b := b) o hi hi3 hn hb
          -- behind the mask
          have two : ∀ m, m = mkM (prB s n b (hdF s n a b t) t) (i + 1) → Wp 1 j_M_evens 121 [.ref 65, .int (nI n), .long (lN a), .null, .long (lN b), .null, .int (nI (zP s)), .int (nI (zQ s)), .int (nI t), .int (oV (snF s n a b (hdF s n a b t) t i)), .int (soV s n b (hdF s n a b t) (snF s n a b (hdF s n a b t) t i)), .int m, .int (nI i), .long (lN (sh s i)), .null, .int (nI (byN s n b (hdF s n a b t) i))] [] h' (cbM s n a b h) := by
            intro m hm
            rw [← hm, e1] at ih2
            have ih := ih2 (.long (lN (sh s i))) (.int (nI (byN s n b (hdF s n a b t) i)))
            have hbi := hby i
            repeat (first | (refine W1 rfl ?_; try refine Wp.norm (L' := [_, _, _, _, _, _, _, _, _, _, _, _, _, _, _, _]) rfl ?_) | ((first | change (_ → _) ∧ (_ → _) | change vp_in _ _ ∧ _ | change ¬ _ ∧ _); simp (disch := omega) only [nI_clamp, nI_leI, nI_ltI, nI_eq, nI_1, nI_add, nI_not_neg, nI_is_pos, nI_m1, nI_z, hi1]) | refine brT (by first | assumption | decide | omega) ?_ | refine brF (by first | assumption | decide | omega) ?_ | refine brTn (by first | assumption | decide | omega) ?_ | refine brFn (by first | assumption | decide | omega) ?_ | refine And.intro (vp_in_nI (by omega) (by decide)) ?_ | refine And.intro (vp_lit (by decide)) ?_ | refine divJ (by decide) ?_ | refine divI (by decide) ?_)
            try change _ ∧ _
            rw [nI_l (show hdF s n a b t i < 2 ^ 31 by omega), nI_l (show t < 2 ^ 31 by omega), lgc_le]
            cases hf : snF s n a b (hdF s n a b t) t i with
            | none =>
              rw [hf] at ih
              dsimp only at ih
              refine ⟨fun q => ?_, fun q => ?_⟩
              · rw [if_pos (hle.mp q)] at ih
                repeat (first | refine Wp.at ih rfl rfl ?_ rfl | (refine W1 rfl ?_; try refine Wp.norm (L' := [_, _, _, _, _, _, _, _, _, _, _, _, _, _, _, _]) rfl ?_) | ((first | change (_ → _) ∧ (_ → _) | change vp_in _ _ ∧ _ | change ¬ _ ∧ _); simp (disch := omega) only [nI_clamp, nI_leI, nI_ltI, nI_eq, nI_1, nI_add, nI_not_neg, nI_is_pos, nI_m1, nI_z]) | refine brT (by first | assumption | decide | omega) ?_ | refine brF (by first | assumption | decide | omega) ?_ | refine brTn (by first | assumption | decide | omega) ?_ | refine brFn (by first | assumption | decide | omega) ?_ | refine And.intro (vp_in_nI (by omega) (by decide)) ?_ | refine And.intro (vp_lit (by decide)) ?_ | refine divJ (by decide) ?_ | refine divI (by decide) ?_)
                try change _ ∧ _
                first | rfl | (simp (disch := omega) only [nI_1, nI_add, nI_clamp] <;> first | done | rfl)
              · rw [if_neg (fun z => q (hle.mpr z))] at ih
                repeat (first | refine Wp.at ih rfl rfl ?_ rfl | (refine W1 rfl ?_; try refine Wp.norm (L' := [_, _, _, _, _, _, _, _, _, _, _, _, _, _, _, _]) rfl ?_) | ((first | change (_ → _) ∧ (_ → _) | change vp_in _ _ ∧ _ | change ¬ _ ∧ _); simp (disch := omega) only [nI_clamp, nI_leI, nI_ltI, nI_eq, nI_1, nI_add, nI_not_neg, nI_is_pos, nI_m1, nI_z]) | refine brT (by first | assumption | decide | omega) ?_ | refine brF (by first | assumption | decide | omega) ?_ | refine brTn (by first | assumption | decide | omega) ?_ | refine brFn (by first | assumption | decide | omega) ?_ | refine And.intro (vp_in_nI (by omega) (by decide)) ?_ | refine And.intro (vp_lit (by decide)) ?_ | refine divJ (by decide) ?_ | refine divI (by decide) ?_)
                try change _ ∧ _
                first | rfl | (simp (disch := omega) only [nI_1, nI_add, nI_clamp] <;> first | done | rfl)
            | some q0 =>
              have hbq := hby q0
              have hq0 := snF_lt i q0 hf
              rw [hf] at ih
              dsimp only at ih
              have esv : soV s n b (hdF s n a b t) (some q0) = nI (byN s n b (hdF s n a b t) q0) := rfl
              refine ⟨fun q => ?_, fun q => ?_⟩
              · rw [esv]
                generalize hB1 : byN s n b (hdF s n a b t) i = bi at *
                generalize hB2 : byN s n b (hdF s n a b t) q0 = bq at *
                repeat (first | (refine W1 rfl ?_; try refine Wp.norm (L' := [_, _, _, _, _, _, _, _, _, _, _, _, _, _, _, _]) rfl ?_) | ((first | change (_ → _) ∧ (_ → _) | change vp_in _ _ ∧ _ | change ¬ _ ∧ _); simp (disch := omega) only [nI_clamp, nI_leI, nI_ltI, nI_eq, nI_1, nI_add, nI_not_neg, nI_is_pos, nI_m1, nI_z, show oV (some q0) = nI q0 from rfl]) | refine brT (by first | assumption | decide | omega) ?_ | refine brF (by first | assumption | decide | omega) ?_ | refine brTn (by first | assumption | decide | omega) ?_ | refine brFn (by first | assumption | decide | omega) ?_ | refine And.intro (vp_in_nI (by omega) (by decide)) ?_ | refine And.intro (vp_lit (by decide)) ?_ | refine divJ (by decide) ?_ | refine divI (by decide) ?_)
                try change _ ∧ _
                refine ⟨fun w => ?_, fun w => ?_⟩
                · rw [if_pos ⟨hle.mp q, w⟩, show soV s n b (hdF s n a b t) (some i) = nI bi by rw [← hB1]; rfl] at ih
                  repeat (first | refine Wp.at ih rfl rfl ?_ rfl | (refine W1 rfl ?_; try refine Wp.norm (L' := [_, _, _, _, _, _, _, _, _, _, _, _, _, _, _, _]) rfl ?_) | ((first | change (_ → _) ∧ (_ → _) | change vp_in _ _ ∧ _ | change ¬ _ ∧ _); simp (disch := omega) only [nI_clamp, nI_leI, nI_ltI, nI_eq, nI_1, nI_add, nI_not_neg, nI_is_pos, nI_m1, nI_z]) | refine brT (by first | assumption | decide | omega) ?_ | refine brF (by first | assumption | decide | omega) ?_ | refine brTn (by first | assumption | decide | omega) ?_ | refine brFn (by first | assumption | decide | omega) ?_ | refine And.intro (vp_in_nI (by omega) (by decide)) ?_ | refine And.intro (vp_lit (by decide)) ?_ | refine divJ (by decide) ?_ | refine divI (by decide) ?_)
                  try change _ ∧ _
                  first | rfl | (simp (disch := omega) only [nI_1, nI_add, nI_clamp] <;> first | done | rfl)
                · rw [if_neg (fun z => w z.2), show soV s n b (hdF s n a b t) (some q0) = nI bq by rw [← hB2]; rfl] at ih
                  repeat (first | refine Wp.at ih rfl rfl ?_ rfl | (refine W1 rfl ?_; try refine Wp.norm (L' := [_, _, _, _, _, _, _, _, _, _, _, _, _, _, _, _]) rfl ?_) | ((first | change (_ → _) ∧ (_ → _) | change vp_in _ _ ∧ _ | change ¬ _ ∧ _); simp (disch := omega) only [nI_clamp, nI_leI, nI_ltI, nI_eq, nI_1, nI_add, nI_not_neg, nI_is_pos, nI_m1, nI_z]) | refine brT (by first | assumption | decide | omega) ?_ | refine brF (by first | assumption | decide | omega) ?_ | refine brTn (by first | assumption | decide | omega) ?_ | refine brFn (by first | assumption | decide | omega) ?_ | refine And.intro (vp_in_nI (by omega) (by decide)) ?_ | refine And.intro (vp_lit (by decide)) ?_ | refine divJ (by decide) ?_ | refine divI (by decide) ?_)
                  try change _ ∧ _
                  first | rfl | (simp (disch := omega) only [nI_1, nI_add, nI_clamp] <;> first | done | rfl)
              · rw [if_neg (fun z => q (hle.mpr z.1))] at ih
                repeat (first | refine Wp.at ih rfl rfl ?_ rfl | (refine W1 rfl ?_; try refine Wp.norm (L' := [_, _, _, _, _, _, _, _, _, _, _, _, _, _, _, _]) rfl ?_) | ((first | change (_ → _) ∧ (_ → _) | change vp_in _ _ ∧ _ | change ¬ _ ∧ _); simp (disch := omega) only [nI_clamp, nI_leI, nI_ltI, nI_eq, nI_1, nI_add, nI_not_neg, nI_is_pos, nI_m1, nI_z]) | refine brT (by first | assumption | decide | omega) ?_ | refine brF (by first | assumption | decide | omega) ?_ | refine brTn (by first | assumption | decide | omega) ?_ | refine brFn (by first | assumption | decide | omega) ?_ | refine And.intro (vp_in_nI (by omega) (by decide)) ?_ | refine And.intro (vp_lit (by decide)) ?_ | refine divJ (by decide) ?_ | refine divI (by decide) ?_)
                try change _ ∧ _
                first | rfl | (simp (disch := omega) only [nI_1, nI_add, nI_clamp] <;> first | done | rfl)
          have hbi := hby i
          repeat (first | (refine W1 rfl ?_; try refine Wp.norm (L' := [_, _, _, _, _, _, _, _, _, _, _, _, _, _, _, _]) rfl ?_) | ((first | change (_ → _) ∧ (_ → _) | change vp_in _ _ ∧ _ | change ¬ _ ∧ _); simp (disch := omega) only [nI_clamp, nI_leI, nI_ltI, nI_eq, nI_1, nI_add, nI_not_neg, nI_is_pos, nI_m1, nI_z, show (16 : Int32) = nI 16 from rfl, R'.shr]) | refine brT (by first | assumption | decide | omega) ?_ | refine brF (by first | assumption | decide | omega) ?_ | refine brTn (by first | assumption | decide | omega) ?_ | refine brFn (by first | assumption | decide | omega) ?_ | refine And.intro (vp_in_nI (by omega) (by decide)) ?_ | refine And.intro (vp_lit (by decide)) ?_ | refine divJ (by decide) ?_ | refine divI (by decide) ?_)
          try change _ ∧ _
          refine ⟨hq0, ?_⟩
          rw [edue]
          repeat (first | (refine W1 rfl ?_; try refine Wp.norm (L' := [_, _, _, _, _, _, _, _, _, _, _, _, _, _, _, _]) rfl ?_) | ((first | change (_ → _) ∧ (_ → _) | change vp_in _ _ ∧ _ | change ¬ _ ∧ _); simp (disch := omega) only [nI_clamp, nI_leI, nI_ltI, nI_eq, nI_1, nI_add, nI_not_neg, nI_is_pos, nI_m1, nI_z]) | refine brT (by first | assumption | decide | omega) ?_ | refine brF (by first | assumption | decide | omega) ?_ | refine brTn (by first | assumption | decide | omega) ?_ | refine brFn (by first | assumption | decide | omega) ?_ | refine And.intro (vp_in_nI (by omega) (by decide)) ?_ | refine And.intro (vp_lit (by decide)) ?_ | refine divJ (by decide) ?_ | refine divI (by decide) ?_)
          try change _ ∧ _
          refine Cl.ofA rb (by first | rfl | (simp (disch := omega) only [nI_1, nI_add, nI_clamp, hi1] <;> first | done | rfl)) (by decide) ?_
          unfold prB at e2
          generalize hB1 : byN s n b (hdF s n a b t) i = bi at *
          repeat (first | (refine W1 rfl ?_; try refine Wp.norm (L' := [_, _, _, _, _, _, _, _, _, _, _, _, _, _, _, _]) rfl ?_) | ((first | change (_ → _) ∧ (_ → _) | change vp_in _ _ ∧ _ | change ¬ _ ∧ _); simp (disch := omega) only [nI_clamp, nI_leI, nI_ltI, nI_eq, nI_1, nI_add, nI_not_neg, nI_is_pos, nI_m1, nI_z]) | refine brT (by first | assumption | decide | omega) ?_ | refine brF (by first | assumption | decide | omega) ?_ | refine brTn (by first | assumption | decide | omega) ?_ | refine brFn (by first | assumption | decide | omega) ?_ | refine And.intro (vp_in_nI (by omega) (by decide)) ?_ | refine And.intro (vp_lit (by decide)) ?_ | refine divJ (by decide) ?_ | refine divI (by decide) ?_)
          try change _ ∧ _
          refine ⟨fun w => ?_, fun w => ?_⟩
          · rw [if_neg (by simp; omega)] at e2
            have ih := two _ e2.symm
            repeat (first | refine Wp.at ih rfl rfl ?_ rfl | (refine W1 rfl ?_; try refine Wp.norm (L' := [_, _, _, _, _, _, _, _, _, _, _, _, _, _, _, _]) rfl ?_) | ((first | change (_ → _) ∧ (_ → _) | change vp_in _ _ ∧ _ | change ¬ _ ∧ _); simp (disch := omega) only [nI_clamp, nI_leI, nI_ltI, nI_eq, nI_1, nI_add, nI_not_neg, nI_is_pos, nI_m1, nI_z]) | refine brT (by first | assumption | decide | omega) ?_ | refine brF (by first | assumption | decide | omega) ?_ | refine brTn (by first | assumption | decide | omega) ?_ | refine brFn (by first | assumption | decide | omega) ?_ | refine And.intro (vp_in_nI (by omega) (by decide)) ?_ | refine And.intro (vp_lit (by decide)) ?_ | refine divJ (by decide) ?_ | refine divI (by decide) ?_)
            try change _ ∧ _
            first | rfl | (simp (disch := omega) only [nI_1, nI_add, nI_clamp] <;> first | done | rfl)
          · rw [if_pos (by simp; omega)] at e2
            have ih := two _ e2.symm
            repeat (first | refine Wp.at ih rfl rfl ?_ rfl | (refine W1 rfl ?_; try refine Wp.norm (L' := [_, _, _, _, _, _, _, _, _, _, _, _, _, _, _, _]) rfl ?_) | ((first | change (_ → _) ∧ (_ → _) | change vp_in _ _ ∧ _ | change ¬ _ ∧ _); simp (disch := omega) only [nI_clamp, nI_leI, nI_ltI, nI_eq, nI_1, nI_add, nI_not_neg, nI_is_pos, nI_m1, nI_z]) | refine brT (by first | assumption | decide | omega) ?_ | refine brF (by first | assumption | decide | omega) ?_ | refine brTn (by first | assumption | decide | omega) ?_ | refine brFn (by first | assumption | decide | omega) ?_ | refine And.intro (vp_in_nI (by omega) (by decide)) ?_ | refine And.intro (vp_lit (by decide)) ?_ | refine divJ (by decide) ?_ | refine divI (by decide) ?_)
            try change _ ∧ _
            first | rfl | (simp (disch := omega) only [nI_1, nI_add, nI_clamp] <;> first | done | rfl)
      have ih := inner 0 (Nat.zero_le _) x13 x15
      (refine W1 rfl ?_; try refine Wp.norm (L' := [_, _, _, _, _, _, _, _, _, _, _, _, _, _, _, _]) rfl ?_)
      repeat (first | refine Wp.at ih rfl rfl ?_ rfl | (refine W1 rfl ?_; try refine Wp.norm (L' := [_, _, _, _, _, _, _, _, _, _, _, _, _, _, _, _]) rfl ?_) | ((first | change (_ → _) ∧ (_ → _) | change vp_in _ _ ∧ _ | change ¬ _ ∧ _); simp (disch := omega) only [nI_clamp, nI_leI, nI_ltI, nI_eq, nI_1, nI_add, nI_not_neg, nI_is_pos, nI_m1, nI_z]) | refine brT (by first | assumption | decide | omega) ?_ | refine brF (by first | assumption | decide | omega) ?_ | refine brTn (by first | assumption | decide | omega) ?_ | refine brFn (by first | assumption | decide | omega) ?_ | refine And.intro (vp_in_nI (by omega) (by decide)) ?_ | refine And.intro (vp_lit (by decide)) ?_ | refine divJ (by decide) ?_ | refine divI (by decide) ?_)
      try change _ ∧ _
      first | rfl | (simp (disch := omega) only [nI_1, nI_add, nI_clamp] <;> first | done | rfl)
  have lp1 : ∀ i, i ≤ 16 → ∀ h', cmF h h' → (∀ p, p < i → h'.1 116 p = nI 0) → Wp 1 j_M_evens 18 [.ref 65, .int (nI n), .long (lN a), .null, .long (lN b), .null, .int (nI (zP s)), .int (nI (zQ s)), .int (nI i), .null, .null, .null, .null, .null, .null, .null] [] h' (cbM s n a b h) := by
    refine up_ind ?_ (fun i hi ih => ?_)
    · intro h' E A
      have ih := lp2 0 (Nat.zero_le _) h' .null .null .null .null .null .null E (fun p hp => A p (by omega)) (fun u hu => absurd hu (by omega)) (fun u hu => absurd hu (by omega))
      (refine W1 rfl ?_; try refine Wp.norm (L' := [_, _, _, _, _, _, _, _, _, _, _, _, _, _, _, _]) rfl ?_)
      repeat (first | refine Wp.at ih rfl rfl ?_ rfl | (refine W1 rfl ?_; try refine Wp.norm (L' := [_, _, _, _, _, _, _, _, _, _, _, _, _, _, _, _]) rfl ?_) | ((first | change (_ → _) ∧ (_ → _) | change vp_in _ _ ∧ _ | change ¬ _ ∧ _); simp (disch := omega) only [nI_clamp, nI_leI, nI_ltI, nI_eq, nI_1, nI_add, nI_not_neg, nI_is_pos, nI_m1, nI_z, show (16 : Int32) = nI 16 from rfl]) | refine brT (by first | assumption | decide | omega) ?_ | refine brF (by first | assumption | decide | omega) ?_ | refine brTn (by first | assumption | decide | omega) ?_ | refine brFn (by first | assumption | decide | omega) ?_ | refine And.intro (vp_in_nI (by omega) (by decide)) ?_ | refine And.intro (vp_lit (by decide)) ?_ | refine divJ (by decide) ?_ | refine divI (by decide) ?_)
      try change _ ∧ _
      first | rfl | (simp (disch := omega) only [nI_1, nI_add, nI_clamp] <;> first | done | rfl)
    · intro h' E A
      have ih := ih (wI h' 116 i 0) (E.add (by decide) (fun z => by cases z)) (fun p hp => by
        by_cases e : p = i
        · rw [e, wI_same]; rfl
        · rw [wI_ne2 _ _ e]; exact A p (by omega))
      (refine W1 rfl ?_; try refine Wp.norm (L' := [_, _, _, _, _, _, _, _, _, _, _, _, _, _, _, _]) rfl ?_)
      repeat (first | refine Wp.at ih rfl rfl ?_ ?_ | (refine W1 rfl ?_; try refine Wp.norm (L' := [_, _, _, _, _, _, _, _, _, _, _, _, _, _, _, _]) rfl ?_) | ((first | change (_ → _) ∧ (_ → _) | change vp_in _ _ ∧ _ | change ¬ _ ∧ _); simp (disch := omega) only [nI_clamp, nI_leI, nI_ltI, nI_eq, nI_1, nI_add, nI_not_neg, nI_is_pos, nI_m1, nI_z, show (16 : Int32) = nI 16 from rfl]) | refine brT (by first | assumption | decide | omega) ?_ | refine brF (by first | assumption | decide | omega) ?_ | refine brTn (by first | assumption | decide | omega) ?_ | refine brFn (by first | assumption | decide | omega) ?_ | refine And.intro (vp_in_nI (by omega) (by decide)) ?_ | refine And.intro (vp_lit (by decide)) ?_ | refine divJ (by decide) ?_ | refine divI (by decide) ?_)
      try change _ ∧ _
      · first | rfl | (simp (disch := omega) only [nI_1, nI_add, nI_clamp] <;> first | done | rfl)
      · first | rfl | (simp (disch := omega) only [nI_1, nI_add, nI_clamp] <;> first | done | rfl)
  have ih := lp1 0 (by decide) h (cmF.rfl h) (fun p hp => absurd hp (by omega))
  repeat (first | (refine W1 rfl ?_; try refine Wp.norm (L' := [_, _, _, _, _, _, _, _, _, _, _, _, _, _, _, _]) rfl ?_) | ((first | change (_ → _) ∧ (_ → _) | change vp_in _ _ ∧ _ | change ¬ _ ∧ _); simp (disch := omega) only [nI_clamp, nI_leI, nI_ltI, nI_eq, nI_1, nI_add, nI_not_neg, nI_is_pos, nI_m1, nI_z, show Int32.toNatClampNeg 1 = 1 from rfl, R.P]) | refine brT (by first | assumption | decide | omega) ?_ | refine brF (by first | assumption | decide | omega) ?_ | refine brTn (by first | assumption | decide | omega) ?_ | refine brFn (by first | assumption | decide | omega) ?_ | refine And.intro (vp_in_nI (by omega) (by decide)) ?_ | refine And.intro (vp_lit (by decide)) ?_ | refine divJ (by decide) ?_ | refine divI (by decide) ?_)
  try change _ ∧ _
  refine Cl.of (r_M_shares R o) (by decide) ?_
  repeat (first | refine Wp.at ih rfl rfl ?_ rfl | (refine W1 rfl ?_; try refine Wp.norm (L' := [_, _, _, _, _, _, _, _, _, _, _, _, _, _, _, _]) rfl ?_) | ((first | change (_ → _) ∧ (_ → _) | change vp_in _ _ ∧ _ | change ¬ _ ∧ _); simp (disch := omega) only [nI_clamp, nI_leI, nI_ltI, nI_eq, nI_1, nI_add, nI_not_neg, nI_is_pos, nI_m1, nI_z]) | refine brT (by first | assumption | decide | omega) ?_ | refine brF (by first | assumption | decide | omega) ?_ | refine brTn (by first | assumption | decide | omega) ?_ | refine brFn (by first | assumption | decide | omega) ?_ | refine And.intro (vp_in_nI (by omega) (by decide)) ?_ | refine And.intro (vp_lit (by decide)) ?_ | refine divJ (by decide) ?_ | refine divI (by decide) ?_)
  try change _ ∧ _
  first | rfl | (simp (disch := omega) only [nI_1, nI_add, nI_clamp, show Int32.toNatClampNeg 1 = 1 from rfl, R.P] <;> first | done | rfl)
end EVENM
