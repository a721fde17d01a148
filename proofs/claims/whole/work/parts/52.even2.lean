/-! ===== EVEN: can it be, the class's side ===== -/
def hdF (s : ST) (n a b : Nat) : Nat → Nat → Nat
  | 0 => fun _ => 0
  | t + 1 => fun p => if snF s n a b (hdF s n a b t) t (zP s) = some p then hdF s n a b t p + 1 else hdF s n a b t p
def gtF (s : ST) (n a b t : Nat) : Option Nat := snF s n a b (hdF s n a b t) t (zP s)
def stk (s : ST) (n a b t : Nat) : Bool := decide (gtF s n a b t = none) || anyB (fun p => decide (¬ gtF s n a b t = some p) && prB s n b (hdF s n a b t) t p) (zP s)
theorem Cl.ofH {d d' j : Nat} {as as' : List Value} {h h' h2 : HP} {v : Option Value} {k : QT} (hr : Run d' j as h v h2) (ha : as = as') (hh : h = h') (hd : d' < d) (hk : k v h2) : Cl d j as' h' k := by
  subst ha
  subst hh
  exact Cl.of hr hd hk
section EVEN2
variable {s : ST} {c v : RT} {h : HP} {n a b t : Nat}
theorem hdF_le : ∀ t p, hdF s n a b t p ≤ t
  | 0, _ => Nat.le_refl _
  | t + 1, p => by
    have := hdF_le t p
    have e : hdF s n a b (t + 1) p = if snF s n a b (hdF s n a b t) t (zP s) = some p then hdF s n a b t p + 1 else hdF s n a b t p := rfl
    rw [e]
    split <;> omega
theorem hdF_q {q : Nat} (hg : gtF s n a b t = some q) : hdF s n a b (t + 1) q = hdF s n a b t q + 1 := if_pos hg
theorem hdF_p {q p : Nat} (hg : gtF s n a b t = some q) (hp : p ≠ q) : hdF s n a b (t + 1) p = hdF s n a b t p := if_neg (fun z => by
  unfold gtF at hg
  rw [hg] at z
  cases z
  exact hp rfl)
theorem byN_congr {hd hd' : Nat → Nat} {p : Nat} (h : hd p = hd' p) : byN s n b hd p = byN s n b hd' p := by unfold byN; rw [h]
theorem by_next (o : OK s) {q : Nat} (hq : q < zP s) (hg : gtF s n a b t = some q) (htn : t < n) (hb : t ≤ byN s n b (hdF s n a b t) q) : t + 1 ≤ byN s n b (hdF s n a b (t + 1)) q := by
  have hs := sh_bd o hq
  unfold byN at *
  rw [hdF_q hg]
  have h1 : t ≤ (hdF s n a b t q * 720720 + b) / sh s q := by omega
  rw [Nat.le_div_iff_mul_le (by omega)] at h1
  have h2 : t + 1 ≤ ((hdF s n a b t q + 1) * 720720 + b) / sh s q := by
    rw [Nat.le_div_iff_mul_le (by omega), Nat.add_mul, Nat.one_mul, Nat.add_mul, Nat.one_mul]
    omega
  omega
theorem mkM_0 {B : Nat → Bool} {m : Nat} (hm : m ≤ 32) : mkM B m = 0 ↔ ∀ p, p < m → B p = false := by
  constructor
  · intro e p hp
    have := bt_mkM B m hm p (by omega)
    rw [e, bt_zero] at this
    simpa [hp] using this.symm
  · intro H
    refine bt_ext fun q hq => ?_
    rw [bt_mkM B m hm q hq, bt_zero]
    by_cases hp : q < m
    · simp [H q hp]
    · simp [hp]
theorem stk_some {q : Nat} (hg : gtF s n a b t = some q) : stk s n a b t = true ↔ ∃ p, p < zP s ∧ p ≠ q ∧ prB s n b (hdF s n a b t) t p = true := by
  unfold stk
  rw [Bool.or_eq_true, anyB_iff, hg]
  simp only [Bool.and_eq_true, decide_eq_true_eq]
  constructor
  · rintro (z | ⟨p, h1, h2, h3⟩)
    · cases z
    · exact ⟨p, h1, fun e => h2 (by rw [e]), h3⟩
  · rintro ⟨p, h1, h2, h3⟩
    exact Or.inr ⟨p, h1, fun e => h2 (by cases e; rfl), h3⟩
theorem stk_none (hg : gtF s n a b t = none) : stk s n a b t = true := by
  unfold stk
  rw [hg]
  simp
/-- where canBe writes -/
def evF (h h' : HP) : Prop := onlyJ [50, 51, 52, 53] [] h h' ∧ ∀ i, i ≠ 4 → i ≠ 5 → h'.1 50 i = h.1 50 i
theorem evF.rfl (h : HP) : evF h h := ⟨onlyJ.rfl _ _ h, fun _ _ _ => Eq.refl _⟩
theorem evF.add {h h' : HP} {k i : Nat} {x : Int32} (H : evF h h') (hk : k ∈ [50, 51, 52, 53]) (h50 : k = 50 → i = 4 ∨ i = 5) : evF h (wI h' k i x) := by
  refine ⟨H.1.addI hk, fun j h1 h2 => ?_⟩
  by_cases e : k = 50
  · subst e
    rw [wI_ne2 _ _ (by have := h50 (Eq.refl _); omega)]
    exact H.2 j h1 h2
  · rw [wI_ne _ _ _ (fun z => e z.symm)]
    exact H.2 j h1 h2
theorem evF.trans {h1 h2 h3 : HP} (A : evF h1 h2) (B : evF h2 h3) : evF h1 h3 := ⟨A.1.trans B.1, fun i x y => (B.2 i x y).trans (A.2 i x y)⟩
theorem evF.same {h h' : HP} (H : evF h h') : Same h h' := by
  refine ⟨fun k i hk => ?_, fun k i hk => H.1.2 k i (by simp)⟩
  by_cases e : k = 50
  · subst e
    exact H.2 i (by rintro rfl; cases hk) (by rintro rfl; cases hk)
  · refine H.1.1 k i ?_
    intro z
    simp at z
    rcases z with z | z | z | z
    · exact e z
    · subst z; cases hk
    · subst z; cases hk
    · subst z; cases hk
/-- what canBe leaves -/
def cbP (s : ST) (n a b : Nat) (h : HP) (w : Option Value) (h' : HP) : Prop := evF h h' ∧ ((w = some (.int 1) ∧ (∀ t, t < n → stk s n a b t = false) ∧ ∀ u, u < n → h'.1 51 u = oV (gtF s n a b u)) ∨ (w = some (.int 0) ∧ ∃ t, t < n ∧ stk s n a b t = true ∧ (∀ u, u < t → stk s n a b u = false) ∧ h'.1 50 4 = nI t ∧ h'.1 50 5 = mkM (prB s n b (hdF s n a b t) t) (zP s)))
theorem w_Evener_canBe (R : RC s c v h) (o : OK s) (hn : n ≤ 200) (ha : a ≤ 720720) (hb : b ≤ 720720) : ∃ w h', Run 2 j_Evener_canBe [.ref 50, .int (nI n), .int (nI a), .int (nI b)] h w h' ∧ cbP s n a b h w h' := by
  have hT := o.T; have hP := o.P; have hK := o.K; have hD := o.D; have hO := o.O; have hQ := o.Q; have hL := o.L
  refine Run.ofP rfl ?_
  refine Wp.norm (L' := [_, _, _, _, _, _, _]) rfl ?_
  have lp2 : ∀ t, t ≤ n → ∀ h' (x5 : Value) (x6 : Value), evF h h' → hadC s (hdF s n a b t) h' → musC s n b (hdF s n a b t) h' → (∀ p, p < zP s → t ≤ byN s n b (hdF s n a b t) p) → (∀ u, u < t → h'.1 51 u = oV (gtF s n a b u)) → (∀ u, u < t → stk s n a b u = false) → Wp 2 j_Evener_canBe 40 [.ref 50, .int (nI n), .int (nI a), .int (nI b), .int (nI t), x5, x6] [] h' (cbP s n a b h) := by
    refine up_ind ?_ (fun t ht ih => ?_)
    · intro h' x5 x6 E H M L G S
      repeat (first | (refine W1 rfl ?_; try refine Wp.norm (L' := [_, _, _, _, _, _, _]) rfl ?_) | ((first | change (_ → _) ∧ (_ → _) | change vp_in _ _ ∧ _ | change ¬ _ ∧ _); simp (disch := omega) only [nI_clamp, nI_leI, nI_ltI, nI_eq, nI_1, nI_add, nI_not_neg, nI_is_pos, nI_m1, nI_z]) | refine brT (by first | assumption | decide | omega) ?_ | refine brF (by first | assumption | decide | omega) ?_ | refine brTn (by first | assumption | decide | omega) ?_ | refine brFn (by first | assumption | decide | omega) ?_ | refine And.intro (vp_in_nI (by omega) (by decide)) ?_ | refine And.intro (vp_lit (by decide)) ?_ | refine divJ (by decide) ?_ | refine divI (by decide) ?_)
      try change _ ∧ _
      exact ⟨Or.inr rfl, E, Or.inl ⟨rfl, S, G⟩⟩
    · intro h' x5 x6 E H M L G S
      have R' := R.same E.same
      have hd2 : ∀ p, p < zP s → hdF s n a b t p ≤ 200 := fun p _ => Nat.le_trans (hdF_le t p) (by omega)
      repeat (first | (refine W1 rfl ?_; try refine Wp.norm (L' := [_, _, _, _, _, _, _]) rfl ?_) | ((first | change (_ → _) ∧ (_ → _) | change vp_in _ _ ∧ _ | change ¬ _ ∧ _); simp (disch := omega) only [nI_clamp, nI_leI, nI_ltI, nI_eq, nI_1, nI_add, nI_not_neg, nI_is_pos, nI_m1, nI_z, show (200 : Int32) = nI 200 from rfl]) | refine brT (by first | assumption | decide | omega) ?_ | refine brF (by first | assumption | decide | omega) ?_ | refine brTn (by first | assumption | decide | omega) ?_ | refine brFn (by first | assumption | decide | omega) ?_ | refine And.intro (vp_in_nI (by omega) (by decide)) ?_ | refine And.intro (vp_lit (by decide)) ?_ | refine divJ (by decide) ?_ | refine divI (by decide) ?_)
      try change _ ∧ _
      refine Cl.of (r_Evener_pressedBy R' o M hn (show t ≤ 200 by omega)) (by decide) ?_
      repeat (first | (refine W1 rfl ?_; try refine Wp.norm (L' := [_, _, _, _, _, _, _]) rfl ?_) | ((first | change (_ → _) ∧ (_ → _) | change vp_in _ _ ∧ _ | change ¬ _ ∧ _); simp (disch := omega) only [nI_clamp, nI_leI, nI_ltI, nI_eq, nI_1, nI_add, nI_not_neg, nI_is_pos, nI_m1, nI_z]) | refine brT (by first | assumption | decide | omega) ?_ | refine brF (by first | assumption | decide | omega) ?_ | refine brTn (by first | assumption | decide | omega) ?_ | refine brFn (by first | assumption | decide | omega) ?_ | refine And.intro (vp_in_nI (by omega) (by decide)) ?_ | refine And.intro (vp_lit (by decide)) ?_ | refine divJ (by decide) ?_ | refine divI (by decide) ?_)
      try change _ ∧ _
      refine Cl.of (r_Evener_soonest R' o M H hd2 hn (show t ≤ 200 by omega) ha) (by decide) ?_
      cases hg : snF s n a b (hdF s n a b t) t (zP s) with
      | none =>
        repeat (first | (refine W1 rfl ?_; try refine Wp.norm (L' := [_, _, _, _, _, _, _]) rfl ?_) | ((first | change (_ → _) ∧ (_ → _) | change vp_in _ _ ∧ _ | change ¬ _ ∧ _); simp (disch := omega) only [nI_clamp, nI_leI, nI_ltI, nI_eq, nI_1, nI_add, nI_not_neg, nI_is_pos, nI_m1, nI_z]) | refine brT (by first | assumption | decide | omega) ?_ | refine brF (by first | assumption | decide | omega) ?_ | refine brTn (by first | assumption | decide | omega) ?_ | refine brFn (by first | assumption | decide | omega) ?_ | refine And.intro (vp_in_nI (by omega) (by decide)) ?_ | refine And.intro (vp_lit (by decide)) ?_ | refine divJ (by decide) ?_ | refine divI (by decide) ?_)
        try change _ ∧ _
        refine ⟨Or.inl rfl, (E.add (by decide) (fun _ => Or.inl rfl)).add (by decide) (fun _ => Or.inr rfl), Or.inr ⟨rfl, t, ht, stk_none hg, S, ?_, wI_same _ _ _ _⟩⟩
        rw [wI_ne2 _ _ (by decide), wI_same]
      | some q =>
        have hq : q < zP s := snF_lt _ q hg
        have hg' : gtF s n a b t = some q := hg
        have hq1 := H q hq
        have hq2 := hd2 q hq
        have hnx := by_next o hq hg' ht (L q hq)
        have M3 : musC s n b (hdF s n a b (t + 1)) (wI (wI (wI h' 51 t (nI q)) 52 q (nI (hdF s n a b t q + 1))) 53 q (nI (byN s n b (hdF s n a b (t + 1)) q))) := by
          intro p hp
          by_cases e : p = q
          · rw [e, wI_same]
          · rw [wI_ne2 _ _ e, wI_ne _ _ _ (by decide), wI_ne _ _ _ (by decide), M p hp, byN_congr (hdF_p hg' e)]
        have H3 : hadC s (hdF s n a b (t + 1)) (wI (wI (wI h' 51 t (nI q)) 52 q (nI (hdF s n a b t q + 1))) 53 q (nI (byN s n b (hdF s n a b (t + 1)) q))) := by
          intro p hp
          rw [wI_ne _ _ _ (by decide)]
          by_cases e : p = q
          · rw [e, wI_same, hdF_q hg']
          · rw [wI_ne2 _ _ e, wI_ne _ _ _ (by decide), H p hp, hdF_p hg' e]
        have E2 : evF h (wI (wI h' 51 t (nI q)) 52 q (nI (hdF s n a b t q + 1))) := (E.add (by decide) (fun z => by cases z)).add (by decide) (fun z => by cases z)
        have E3 : evF h (wI (wI (wI h' 51 t (nI q)) 52 q (nI (hdF s n a b t q + 1))) 53 q (nI (byN s n b (hdF s n a b (t + 1)) q))) := E2.add (by decide) (fun z => by cases z)
        have R2 := R.same E2.same
        have R3 := R.same E3.same
        have hh2 : (wI (wI h' 51 t (nI q)) 52 q (nI (hdF s n a b t q + 1))).1 52 q = nI (hdF s n a b (t + 1) q) := by rw [wI_same, hdF_q hg']
        have hm2 : hdF s n a b (t + 1) q ≤ 200 := by have := hdF_le (s := s) (n := n) (a := a) (b := b) (t + 1) q; omega
        have e52 : (wI h' 51 t (nI q)).1 52 q = nI (hdF s n a b t q) := by rw [wI_ne _ _ _ (by decide)]; exact hq1
        repeat (first | (refine W1 rfl ?_; try refine Wp.norm (L' := [_, _, _, _, _, _, _]) rfl ?_) | ((first | change (_ → _) ∧ (_ → _) | change vp_in _ _ ∧ _ | change ¬ _ ∧ _); simp (disch := omega) only [nI_clamp, nI_leI, nI_ltI, nI_eq, nI_1, nI_add, nI_not_neg, nI_is_pos, nI_m1, nI_z, show oV (some q) = nI q from rfl]) | refine brT (by first | assumption | decide | omega) ?_ | refine brF (by first | assumption | decide | omega) ?_ | refine brTn (by first | assumption | decide | omega) ?_ | refine brFn (by first | assumption | decide | omega) ?_ | refine And.intro (vp_in_nI (by omega) (by decide)) ?_ | refine And.intro (vp_lit (by decide)) ?_ | refine divJ (by decide) ?_ | refine divI (by decide) ?_)
        try change _ ∧ _
        refine Cl.ofH (r_Evener_setMust (hd := hdF s n a b (t + 1)) (n := n) (b := b) R2 o hq hh2 hm2 hn hb) rfl (by rw [e52, nI_1]) (by decide) ?_
        repeat (first | (refine W1 rfl ?_; try refine Wp.norm (L' := [_, _, _, _, _, _, _]) rfl ?_) | ((first | change (_ → _) ∧ (_ → _) | change vp_in _ _ ∧ _ | change ¬ _ ∧ _); simp (disch := omega) only [nI_clamp, nI_leI, nI_ltI, nI_eq, nI_1, nI_add, nI_not_neg, nI_is_pos, nI_m1, nI_z, show oV (some q) = nI q from rfl]) | refine brT (by first | assumption | decide | omega) ?_ | refine brF (by first | assumption | decide | omega) ?_ | refine brTn (by first | assumption | decide | omega) ?_ | refine brFn (by first | assumption | decide | omega) ?_ | refine And.intro (vp_in_nI (by omega) (by decide)) ?_ | refine And.intro (vp_lit (by decide)) ?_ | refine divJ (by decide) ?_ | refine divI (by decide) ?_)
        try change _ ∧ _
        refine Cl.of (r_Evener_pressedBy (t := t) R3 o M3 hn (show t ≤ 200 by omega)) (by decide) ?_
        have hst : mkM (prB s n b (hdF s n a b (t + 1)) t) (zP s) = 0 ↔ stk s n a b t = false := by
          rw [mkM_0 (by omega)]
          constructor
          · intro A
            cases e : stk s n a b t with
            | false => rfl
            | true =>
              obtain ⟨p, p1, p2, p3⟩ := (stk_some hg').mp e
              have := A p p1
              unfold prB at this p3
              rw [byN_congr (hdF_p hg' p2), p3] at this
              cases this
          · intro e p hp
            cases e2 : prB s n b (hdF s n a b (t + 1)) t p with
            | false => rfl
            | true =>
              exfalso
              by_cases ep : p = q
              · subst ep
                unfold prB at e2
                have := of_decide_eq_true e2
                omega
              · have : stk s n a b t = true := (stk_some hg').mpr ⟨p, hp, ep, by unfold prB at *; rw [← byN_congr (hdF_p hg' ep)]; exact e2⟩
                rw [this] at e
                cases e
        by_cases hz : stk s n a b t = false
        · have L3 : ∀ p, p < zP s → t + 1 ≤ byN s n b (hdF s n a b (t + 1)) p := fun p hp => by
            have := (mkM_0 (by omega)).mp (hst.mpr hz) p hp
            unfold prB at this
            have := of_decide_eq_false this
            omega
          have ih := ih (wI (wI (wI h' 51 t (nI q)) 52 q (nI (hdF s n a b t q + 1))) 53 q (nI (byN s n b (hdF s n a b (t + 1)) q))) (.int (mkM (prB s n b (hdF s n a b t) t) (zP s))) (.int (nI q)) E3 H3 M3 L3 (fun u hu => by
            rw [wI_ne _ _ _ (by decide), wI_ne _ _ _ (by decide)]
            by_cases e : u = t
            · rw [e, wI_same, hg']; rfl
            · rw [wI_ne2 _ _ e]; exact G u (by omega)) (fun u hu => by
            by_cases e : u = t
            · rw [e]; exact hz
            · exact S u (by omega))
          rw [hst.mpr hz]
          repeat (first | refine Wp.at ih rfl rfl ?_ rfl | (refine W1 rfl ?_; try refine Wp.norm (L' := [_, _, _, _, _, _, _]) rfl ?_) | ((first | change (_ → _) ∧ (_ → _) | change vp_in _ _ ∧ _ | change ¬ _ ∧ _); simp (disch := omega) only [nI_clamp, nI_leI, nI_ltI, nI_eq, nI_1, nI_add, nI_not_neg, nI_is_pos, nI_m1, nI_z]) | refine brT (by first | assumption | decide | omega) ?_ | refine brF (by first | assumption | decide | omega) ?_ | refine brTn (by first | assumption | decide | omega) ?_ | refine brFn (by first | assumption | decide | omega) ?_ | refine And.intro (vp_in_nI (by omega) (by decide)) ?_ | refine And.intro (vp_lit (by decide)) ?_ | refine divJ (by decide) ?_ | refine divI (by decide) ?_)
          try change _ ∧ _
          first | rfl | (simp (disch := omega) only [nI_1, nI_add, nI_clamp] <;> first | done | rfl)
        · have hz2 : ¬ mkM (prB s n b (hdF s n a b (t + 1)) t) (zP s) = 0 := fun z => hz (hst.mp z)
          (refine W1 rfl ?_; try refine Wp.norm (L' := [_, _, _, _, _, _, _]) rfl ?_)
          refine brF hz2 ?_
          repeat (first | (refine W1 rfl ?_; try refine Wp.norm (L' := [_, _, _, _, _, _, _]) rfl ?_) | ((first | change (_ → _) ∧ (_ → _) | change vp_in _ _ ∧ _ | change ¬ _ ∧ _); simp (disch := omega) only [nI_clamp, nI_leI, nI_ltI, nI_eq, nI_1, nI_add, nI_not_neg, nI_is_pos, nI_m1, nI_z]) | refine brT (by first | assumption | decide | omega) ?_ | refine brF (by first | assumption | decide | omega) ?_ | refine brTn (by first | assumption | decide | omega) ?_ | refine brFn (by first | assumption | decide | omega) ?_ | refine And.intro (vp_in_nI (by omega) (by decide)) ?_ | refine And.intro (vp_lit (by decide)) ?_ | refine divJ (by decide) ?_ | refine divI (by decide) ?_)
          try change _ ∧ _
          refine ⟨Or.inl rfl, (E3.add (by decide) (fun _ => Or.inl rfl)).add (by decide) (fun _ => Or.inr rfl), Or.inr ⟨rfl, t, ht, by simpa using hz, S, ?_, wI_same _ _ _ _⟩⟩
          rw [wI_ne2 _ _ (by decide), wI_same]
  have lp1 : ∀ i, i ≤ zP s → ∀ h', evF h h' → (∀ p, p < i → h'.1 52 p = nI 0 ∧ h'.1 53 p = nI (byN s n b (fun _ => 0) p)) → Wp 2 j_Evener_canBe 3 [.ref 50, .int (nI n), .int (nI a), .int (nI b), .int (nI i), .null, .null] [] h' (cbP s n a b h) := by
    refine up_ind ?_ (fun i hi ih => ?_)
    · intro h' E A
      have R' := R.same E.same
      have ih := lp2 0 (Nat.zero_le _) h' .null .null E (fun p hp => (A p hp).1) (fun p hp => (A p hp).2) (fun p hp => Nat.zero_le _) (fun u hu => absurd hu (by omega)) (fun u hu => absurd hu (by omega))
      (refine W1 rfl ?_; try refine Wp.norm (L' := [_, _, _, _, _, _, _]) rfl ?_)
      repeat (first | refine Wp.at ih rfl rfl ?_ rfl | (refine W1 rfl ?_; try refine Wp.norm (L' := [_, _, _, _, _, _, _]) rfl ?_) | ((first | change (_ → _) ∧ (_ → _) | change vp_in _ _ ∧ _ | change ¬ _ ∧ _); simp (disch := omega) only [nI_clamp, nI_leI, nI_ltI, nI_eq, nI_1, nI_add, nI_not_neg, nI_is_pos, nI_m1, nI_z, R'.P]) | refine brT (by first | assumption | decide | omega) ?_ | refine brF (by first | assumption | decide | omega) ?_ | refine brTn (by first | assumption | decide | omega) ?_ | refine brFn (by first | assumption | decide | omega) ?_ | refine And.intro (vp_in_nI (by omega) (by decide)) ?_ | refine And.intro (vp_lit (by decide)) ?_ | refine divJ (by decide) ?_ | refine divI (by decide) ?_)
      try change _ ∧ _
      first | rfl | (simp (disch := omega) only [nI_1, nI_add, nI_clamp] <;> first | done | rfl)
    · intro h' E A
      have R' := R.same E.same
      have E1 : evF h (wI h' 52 i 0) := E.add (by decide) (fun z => by cases z)
      have R1 := R.same E1.same
      have ih := ih (wI (wI h' 52 i 0) 53 i (nI (byN s n b (fun _ => 0) i))) (E1.add (by decide) (fun z => by cases z)) (fun p hp => by
        rw [wI_ne _ _ _ (by decide : (52 : Nat) ≠ 53)]
        by_cases e : p = i
        · rw [e, wI_same, wI_same]
          exact ⟨rfl, rfl⟩
        · rw [wI_ne2 _ _ e, wI_ne2 _ _ e, wI_ne _ _ _ (by decide : (53 : Nat) ≠ 52)]
          exact A p (by omega))
      repeat (first | (refine W1 rfl ?_; try refine Wp.norm (L' := [_, _, _, _, _, _, _]) rfl ?_) | ((first | change (_ → _) ∧ (_ → _) | change vp_in _ _ ∧ _ | change ¬ _ ∧ _); simp (disch := omega) only [nI_clamp, nI_leI, nI_ltI, nI_eq, nI_1, nI_add, nI_not_neg, nI_is_pos, nI_m1, nI_z, R'.P]) | refine brT (by first | assumption | decide | omega) ?_ | refine brF (by first | assumption | decide | omega) ?_ | refine brTn (by first | assumption | decide | omega) ?_ | refine brFn (by first | assumption | decide | omega) ?_ | refine And.intro (vp_in_nI (by omega) (by decide)) ?_ | refine And.intro (vp_lit (by decide)) ?_ | refine divJ (by decide) ?_ | refine divI (by decide) ?_)
      try change _ ∧ _
      refine Cl.of (r_Evener_setMust (hd := fun _ => 0) (n := n) (b := b) R1 o hi (wI_same _ _ _ _) (by decide) hn hb) (by decide) ?_
      repeat (first | refine Wp.at ih rfl rfl ?_ rfl | (refine W1 rfl ?_; try refine Wp.norm (L' := [_, _, _, _, _, _, _]) rfl ?_) | ((first | change (_ → _) ∧ (_ → _) | change vp_in _ _ ∧ _ | change ¬ _ ∧ _); simp (disch := omega) only [nI_clamp, nI_leI, nI_ltI, nI_eq, nI_1, nI_add, nI_not_neg, nI_is_pos, nI_m1, nI_z]) | refine brT (by first | assumption | decide | omega) ?_ | refine brF (by first | assumption | decide | omega) ?_ | refine brTn (by first | assumption | decide | omega) ?_ | refine brFn (by first | assumption | decide | omega) ?_ | refine And.intro (vp_in_nI (by omega) (by decide)) ?_ | refine And.intro (vp_lit (by decide)) ?_ | refine divJ (by decide) ?_ | refine divI (by decide) ?_)
      try change _ ∧ _
      first | rfl | (simp (disch := omega) only [nI_1, nI_add, nI_clamp] <;> first | done | rfl)
  have ih := lp1 0 (Nat.zero_le _) h (evF.rfl h) (fun p hp => absurd hp (by omega))
  repeat (first | refine Wp.at ih rfl rfl ?_ rfl | (refine W1 rfl ?_; try refine Wp.norm (L' := [_, _, _, _, _, _, _]) rfl ?_) | ((first | change (_ → _) ∧ (_ → _) | change vp_in _ _ ∧ _ | change ¬ _ ∧ _); simp (disch := omega) only [nI_clamp, nI_leI, nI_ltI, nI_eq, nI_1, nI_add, nI_not_neg, nI_is_pos, nI_m1, nI_z]) | refine brT (by first | assumption | decide | omega) ?_ | refine brF (by first | assumption | decide | omega) ?_ | refine brTn (by first | assumption | decide | omega) ?_ | refine brFn (by first | assumption | decide | omega) ?_ | refine And.intro (vp_in_nI (by omega) (by decide)) ?_ | refine And.intro (vp_lit (by decide)) ?_ | refine divJ (by decide) ?_ | refine divI (by decide) ?_)
  try change _ ∧ _
  first | rfl | (simp (disch := omega) only [nI_1, nI_add, nI_clamp] <;> first | done | rfl)
end EVEN2
