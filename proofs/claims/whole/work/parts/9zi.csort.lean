/-! ===== THE CLASS LAYS THE TURNS: by kinds; all of them ===== -/
section CSO
theorem cnt_mon {P : Nat → Prop} [DecidablePred P] : ∀ {n m : Nat}, n ≤ m → cnt P n ≤ cnt P m := by
  intro n m h
  obtain ⟨k, rfl⟩ : ∃ k, m = n + k := ⟨m - n, by omega⟩
  induction k with
  | zero => exact Nat.le_refl _
  | succ k ih =>
    have := ih (by omega)
    show cnt P n ≤ cnt P (n + k) + (if P (n + k) then 1 else 0)
    omega
theorem cnt_lt {P : Nat → Prop} [DecidablePred P] {t n : Nat} (h : t < n) (ht : P t) : cnt P t < cnt P n := by
  have h1 : cnt P (t + 1) ≤ cnt P n := cnt_mon h
  have h2 : cnt P (t + 1) = cnt P t + 1 := by show cnt P t + (if P t then 1 else 0) = _; rw [if_pos ht]
  omega
theorem cnt_succ {f : Nat → Nat} {k : Nat} : ∀ n, cnt (fun u => f u < k + 1) n = cnt (fun u => f u < k) n + cnt (fun u => f u = k) n
  | 0 => rfl
  | n + 1 => by
    show cnt (fun u => f u < k + 1) n + (if f n < k + 1 then 1 else 0) = cnt (fun u => f u < k) n + (if f n < k then 1 else 0) + (cnt (fun u => f u = k) n + (if f n = k then 1 else 0))
    rw [cnt_succ n]
    by_cases c1 : f n < k
    · rw [if_pos (show f n < k + 1 by omega), if_pos c1, if_neg (by omega)]; omega
    · by_cases c2 : f n = k
      · rw [if_pos (by omega), if_neg c1, if_pos c2]; omega
      · rw [if_neg (by omega), if_neg c1, if_neg c2]; omega
/-- the first of a kind; the place among all by kinds -/
def kf (f : Nat → Nat) (n k : Nat) : Nat := cnt (fun u => f u < k) n
def pos (f : Nat → Nat) (n t : Nat) : Nat := kf f n (f t) + cnt (fun u => f u = f t) t
theorem kf_s (f : Nat → Nat) (n k : Nat) : kf f n (k + 1) = kf f n k + cnt (fun u => f u = k) n := cnt_succ n
theorem kf_mono (f : Nat → Nat) (n : Nat) {k k' : Nat} (h : k ≤ k') : kf f n k ≤ kf f n k' := by
  obtain ⟨q, rfl⟩ : ∃ q, k' = k + q := ⟨k' - k, by omega⟩
  induction q with
  | zero => exact Nat.le_refl _
  | succ q ih =>
    have := ih (by omega)
    have e := kf_s f n (k + q)
    show kf f n k ≤ kf f n (k + q + 1)
    omega
theorem pos_lt {f : Nat → Nat} {n t : Nat} (ht : t < n) : pos f n t < kf f n (f t + 1) := by
  rw [kf_s]
  have := cnt_lt (P := fun u => f u = f t) ht rfl
  unfold pos
  omega
theorem pos_b {f : Nat → Nat} {n t t' k : Nat} (ht' : t' < n) (h : f t' < k ∨ (f t' = k ∧ t' < t)) : pos f n t' < kf f n k + cnt (fun u => f u = k) t := by
  rcases h with h | ⟨rfl, h⟩
  · have h1 := pos_lt (f := f) ht'
    have h2 := kf_mono f n (show f t' + 1 ≤ k by omega)
    omega
  · have := cnt_lt (P := fun u => f u = f t') h rfl
    unfold pos
    omega
theorem kf_le (f : Nat → Nat) (n k : Nat) : kf f n k ≤ n := cnt_le _ n
variable {h h' : HP}
def SKs (f : Nat → Nat) (n : Nat) (h0 : HP) (k t : Nat) (h : HP) : Prop := onlyJ [41, 42, 43] [] h0 h ∧ (∀ q, q < k → h.1 43 q = nI (kf f n q)) ∧ (∀ u, u < n → (f u < k ∨ (f u = k ∧ u < t)) → h.1 41 u = nI (cnt (fun v => f v = f u) u) ∧ h.1 42 (pos f n u) = nI u)
theorem c_sort {f : Nat → Nat} {n : Nat} (hn : n ≤ 200) (eT : h.1 36 1 = nI n) (eK : ∀ t, t < n → h.1 38 t = nI (f t)) (hf : ∀ t, t < n → f t < 6) : ∃ w h', Run 0 j_Calendar_sortByKind [.ref 36] h w h' ∧ (w = none ∧ onlyJ [41, 42, 43] [] h h' ∧ (∀ q, q < 7 → h'.1 43 q = nI (kf f n q)) ∧ (∀ u, u < n → h'.1 41 u = nI (cnt (fun v => f v = f u) u) ∧ h'.1 42 (pos f n u) = nI u)) := by
  refine Run.ofP rfl ?_
  refine Wp.norm (L' := [_, _, _, _]) rfl ?_
  generalize hQQ : (fun (w : Option Value) (h' : HP) => w = none ∧ onlyJ [41, 42, 43] [] h h' ∧ (∀ q, q < 7 → h'.1 43 q = nI (kf f n q)) ∧ (∀ u, u < n → h'.1 41 u = nI (cnt (fun v => f v = f u) u) ∧ h'.1 42 (pos f n u) = nI u)) = QQ
  have lp : ∀ k, k ≤ 6 → ∀ g y, SKs f n h k 0 g → Wp 0 j_Calendar_sortByKind 4 [.ref 36, .int (nI (kf f n k)), .int (nI k), y] [] g QQ := by
    refine up_ind ?_ (fun k hk ih => ?_)
    · intro g y S
      obtain ⟨O, S1, S2⟩ := S
      have hkl := kf_le f n 6
      have fin1 : QQ none (wI g 43 6 (nI (kf f n 6))) := by
        rw [← hQQ]
        refine ⟨rfl, O.addI (by decide), fun q hq => ?_, fun u hu => ?_⟩
        · by_cases e : q = 6
          · rw [e, wI_same]
          · rw [wI_ne2 _ _ e]; exact S1 q (by omega)
        · rw [wI_ne _ _ _ (by decide), wI_ne _ _ _ (by decide)]
          exact S2 u hu (Or.inl (hf u hu))
      show Wp 0 j_Calendar_sortByKind 4 [.ref 36, .int (nI (kf f n 6)), .int (nI 6), y] [] g QQ
      generalize kf f n 6 = v at *
      repeat (first | (refine W1 rfl ?_; try refine Wp.norm (L' := [_, _, _, _]) rfl ?_) | ((first | change (_ → _) ∧ (_ → _) | change vp_in _ _ ∧ _ | change ¬ _ ∧ _); simp (disch := omega) only [nI_clamp, nI_leI, nI_ltI, nI_eq, nI_1, nI_add, nI_not_neg, nI_is_pos, nI_m1, nI_z, show (6 : Int32) = nI 6 from rfl]) | refine brT (by first | assumption | decide | omega) ?_ | refine brF (by first | assumption | decide | omega) ?_ | refine brTn (by first | assumption | decide | omega) ?_ | refine brFn (by first | assumption | decide | omega) ?_ | refine And.intro (vp_in_nI (by omega) (by decide)) ?_ | refine And.intro (vp_lit (by decide)) ?_ | refine divJ (by decide) ?_ | refine divI (by decide) ?_)
      try change _ ∧ _
      exact fin1
    · intro g y S
      have ihn := ih
      clear ih
      obtain ⟨O, S1, S2⟩ := S
      have hks := kf_s f n k
      have hkl := kf_le f n (k + 1)
      have S0 : SKs f n h (k + 1) 0 (wI g 43 k (nI (kf f n k))) ∨ True := Or.inr trivial
      have inner : ∀ t, t ≤ n → ∀ g, onlyJ [41, 42, 43] [] h g → (∀ q, q < k + 1 → g.1 43 q = nI (kf f n q)) → (∀ u, u < n → (f u < k ∨ (f u = k ∧ u < t)) → g.1 41 u = nI (cnt (fun v => f v = f u) u) ∧ g.1 42 (pos f n u) = nI u) → Wp 0 j_Calendar_sortByKind 19 [.ref 36, .int (nI (kf f n k + cnt (fun u => f u = k) t)), .int (nI k), .int (nI t)] [] g QQ := by
        refine up_ind ?_ (fun t ht ih => ?_)
        · intro g O S1 S2
          have e36 : g.1 36 1 = nI n := by rw [O.1 36 1 (by decide)]; exact eT
          have ih := ihn g (.int (nI n)) ⟨O, S1, fun u hu hc => S2 u hu (by omega)⟩
          rw [hks] at ih
          show Wp 0 j_Calendar_sortByKind _ _ _ _ _
          repeat (first | refine Wp.at ih rfl rfl ?_ rfl | (refine W1 rfl ?_; try refine Wp.norm (L' := [_, _, _, _]) rfl ?_) | ((first | change (_ → _) ∧ (_ → _) | change vp_in _ _ ∧ _ | change ¬ _ ∧ _); simp (disch := omega) only [nI_clamp, nI_leI, nI_ltI, nI_eq, nI_1, nI_add, nI_not_neg, nI_is_pos, nI_m1, nI_z, e36]) | refine brT (by first | assumption | decide | omega) ?_ | refine brF (by first | assumption | decide | omega) ?_ | refine brTn (by first | assumption | decide | omega) ?_ | refine brFn (by first | assumption | decide | omega) ?_ | refine And.intro (vp_in_nI (by omega) (by decide)) ?_ | refine And.intro (vp_lit (by decide)) ?_ | refine divJ (by decide) ?_ | refine divI (by decide) ?_)
          try change _ ∧ _
          first | done | rfl | (simp (disch := omega) only [nI_1, nI_add, nI_clamp] <;> first | done | rfl)
        · intro g O S1 S2
          have e36 : g.1 36 1 = nI n := by rw [O.1 36 1 (by decide)]; exact eT
          have e38 : g.1 38 t = nI (f t) := by rw [O.1 38 t (by decide)]; exact eK t ht
          have f6 := hf t ht
          have hst : cnt (fun u => f u = k) (t + 1) = cnt (fun u => f u = k) t + (if f t = k then 1 else 0) := rfl
          have hcm : cnt (fun u => f u = k) t ≤ cnt (fun u => f u = k) n := cnt_mon (by omega)
          by_cases c : f t = k
          · have hcl : cnt (fun u => f u = k) t < cnt (fun u => f u = k) n := cnt_lt ht c
            have e43 : g.1 43 k = nI (kf f n k) := S1 k (by omega)
            have hpos : pos f n t = kf f n k + cnt (fun u => f u = k) t := by unfold pos; rw [c]
            have ih := ih (wI (wI g 41 t (nI (cnt (fun u => f u = k) t))) 42 (kf f n k + cnt (fun u => f u = k) t) (nI t)) ((O.addI (by decide)).addI (by decide)) (fun q hq => by
              rw [wI_ne _ _ _ (by decide), wI_ne _ _ _ (by decide)]; exact S1 q hq) (fun u hu hc => by
              by_cases e : u = t
              · subst e
                rw [hpos, wI_same, wI_ne _ _ _ (by decide), wI_same, c]
                exact ⟨rfl, rfl⟩
              · have hc' : f u < k ∨ (f u = k ∧ u < t) := by omega
                have hp := pos_b (f := f) (n := n) (t := t) hu hc'
                rw [wI_ne _ _ _ (by decide), wI_ne2 _ _ e, wI_ne2 _ _ (by omega), wI_ne _ _ _ (by decide)]
                exact S2 u hu hc')
            rw [hst, if_pos c] at ih
            rw [c] at e38
            generalize kf f n k = a at *
            generalize cnt (fun u => f u = k) t = b at *
            have esub : nI (a + b) - nI a = nI b := by rw [nI_subN (by omega), Nat.add_sub_cancel_left]
            show Wp 0 j_Calendar_sortByKind _ _ _ _ _
            (refine W1 rfl ?_; try refine Wp.norm (L' := [_, _, _, _]) rfl ?_)
            repeat (first | refine Wp.at ih rfl rfl ?_ ?_ | (refine W1 rfl ?_; try refine Wp.norm (L' := [_, _, _, _]) rfl ?_) | ((first | change (_ → _) ∧ (_ → _) | change vp_in _ _ ∧ _ | change ¬ _ ∧ _); simp (disch := omega) only [nI_clamp, nI_leI, nI_ltI, nI_eq, nI_1, nI_add, nI_not_neg, nI_is_pos, nI_m1, nI_z, e36, e38, e43, esub, show (200 : Int32) = nI 200 from rfl]) | refine brT (by first | assumption | decide | omega) ?_ | refine brF (by first | assumption | decide | omega) ?_ | refine brTn (by first | assumption | decide | omega) ?_ | refine brFn (by first | assumption | decide | omega) ?_ | refine And.intro (vp_in_nI (by omega) (by decide)) ?_ | refine And.intro (vp_lit (by decide)) ?_ | refine divJ (by decide) ?_ | refine divI (by decide) ?_)
            try change _ ∧ _
            · first | done | rfl | (simp (disch := omega) only [nI_1, nI_add, nI_clamp] <;> first | done | rfl)
            · first | done | rfl | (simp (disch := omega) only [nI_1, nI_add, nI_clamp, e43, esub] <;> first | done | rfl)
          · have ih := ih g O S1 (fun u hu hc => S2 u hu (by
              by_cases e : u = t
              · subst e; omega
              · omega))
            rw [hst, if_neg c, Nat.add_zero] at ih
            generalize kf f n k + cnt (fun u => f u = k) t = v at *
            show Wp 0 j_Calendar_sortByKind _ _ _ _ _
            (refine W1 rfl ?_; try refine Wp.norm (L' := [_, _, _, _]) rfl ?_)
            repeat (first | refine Wp.at ih rfl rfl ?_ rfl | (refine W1 rfl ?_; try refine Wp.norm (L' := [_, _, _, _]) rfl ?_) | ((first | change (_ → _) ∧ (_ → _) | change vp_in _ _ ∧ _ | change ¬ _ ∧ _); simp (disch := omega) only [nI_clamp, nI_leI, nI_ltI, nI_eq, nI_1, nI_add, nI_not_neg, nI_is_pos, nI_m1, nI_z, e36, e38]) | refine brT (by first | assumption | decide | omega) ?_ | refine brF (by first | assumption | decide | omega) ?_ | refine brTn (by first | assumption | decide | omega) ?_ | refine brFn (by first | assumption | decide | omega) ?_ | refine And.intro (vp_in_nI (by omega) (by decide)) ?_ | refine And.intro (vp_lit (by decide)) ?_ | refine divJ (by decide) ?_ | refine divI (by decide) ?_)
            try change _ ∧ _
            first | done | rfl | (simp (disch := omega) only [nI_1, nI_add, nI_clamp] <;> first | done | rfl)
      have ih := inner 0 (Nat.zero_le _) (wI g 43 k (nI (kf f n k))) (O.addI (by decide)) (fun q hq => by
        by_cases e : q = k
        · rw [e, wI_same]
        · rw [wI_ne2 _ _ e]; exact S1 q (by omega)) (fun u hu hc => by
        rw [wI_ne _ _ _ (by decide), wI_ne _ _ _ (by decide)]
        exact S2 u hu (by omega))
      rw [show cnt (fun u => f u = k) 0 = 0 from rfl, Nat.add_zero] at ih
      show Wp 0 j_Calendar_sortByKind _ _ _ _ _
      (refine W1 rfl ?_; try refine Wp.norm (L' := [_, _, _, _]) rfl ?_)
      repeat (first | refine Wp.at ih rfl rfl ?_ rfl | (refine W1 rfl ?_; try refine Wp.norm (L' := [_, _, _, _]) rfl ?_) | ((first | change (_ → _) ∧ (_ → _) | change vp_in _ _ ∧ _ | change ¬ _ ∧ _); simp (disch := omega) only [nI_clamp, nI_leI, nI_ltI, nI_eq, nI_1, nI_add, nI_not_neg, nI_is_pos, nI_m1, nI_z, show (6 : Int32) = nI 6 from rfl]) | refine brT (by first | assumption | decide | omega) ?_ | refine brF (by first | assumption | decide | omega) ?_ | refine brTn (by first | assumption | decide | omega) ?_ | refine brFn (by first | assumption | decide | omega) ?_ | refine And.intro (vp_in_nI (by omega) (by decide)) ?_ | refine And.intro (vp_lit (by decide)) ?_ | refine divJ (by decide) ?_ | refine divI (by decide) ?_)
      try change _ ∧ _
      first | done | rfl | (simp (disch := omega) only [nI_1, nI_add, nI_clamp] <;> first | done | rfl)
  have ih := lp 0 (Nat.zero_le _) h .null ⟨onlyJ.rfl _ _ h, fun q hq => absurd hq (by omega), fun u hu hc => by omega⟩
  rw [show kf f n 0 = 0 from cnt_none (fun i _ => Nat.not_lt_zero _)] at ih
  show Wp 0 j_Calendar_sortByKind _ _ _ _ _
  repeat (first | refine Wp.at ih rfl rfl ?_ rfl | (refine W1 rfl ?_; try refine Wp.norm (L' := [_, _, _, _]) rfl ?_) | ((first | change (_ → _) ∧ (_ → _) | change vp_in _ _ ∧ _ | change ¬ _ ∧ _); simp (disch := omega) only [nI_clamp, nI_leI, nI_ltI, nI_eq, nI_1, nI_add, nI_not_neg, nI_is_pos, nI_m1, nI_z]) | refine brT (by first | assumption | decide | omega) ?_ | refine brF (by first | assumption | decide | omega) ?_ | refine brTn (by first | assumption | decide | omega) ?_ | refine brFn (by first | assumption | decide | omega) ?_ | refine And.intro (vp_in_nI (by omega) (by decide)) ?_ | refine And.intro (vp_lit (by decide)) ?_ | refine divJ (by decide) ?_ | refine divI (by decide) ?_)
  try change _ ∧ _
  first | done | rfl | (simp (disch := omega) only [nI_1, nI_add, nI_clamp] <;> first | done | rfl)
end CSO
section CBU
variable {s : ST} {C : List Nat} {h h' : HP}
theorem c_build (H : HC s C h) (j : J s C) (hT : (LD s C (zD s)).length ≤ 200) : ∃ w h', Run 2 j_Calendar_build [.ref 36, .ref 28] h w h' ∧ (w = none ∧ onlyJ clL [] h h' ∧ TLc s C (LD s C (zD s)) h' ∧ (∀ d, d < 201 → h'.1 44 d = nI (LD s C (min d (zD s))).length) ∧ (∀ q, q < 7 → h'.1 43 q = nI (kf (fun t => (gL (LD s C (zD s)) t).2) (LD s C (zD s)).length q)) ∧ (∀ u, u < (LD s C (zD s)).length → h'.1 41 u = nI (cnt (fun v => (gL (LD s C (zD s)) v).2 = (gL (LD s C (zD s)) u).2) u) ∧ h'.1 42 (pos (fun t => (gL (LD s C (zD s)) t).2) (LD s C (zD s)).length u) = nI u)) := by
  refine Run.ofP rfl ?_
  refine Wp.norm (L' := [_, _, _, _]) rfl ?_
  generalize hQQ : (fun (w : Option Value) (h' : HP) => w = none ∧ onlyJ clL [] h h' ∧ TLc s C (LD s C (zD s)) h' ∧ (∀ d, d < 201 → h'.1 44 d = nI (LD s C (min d (zD s))).length) ∧ (∀ q, q < 7 → h'.1 43 q = nI (kf (fun t => (gL (LD s C (zD s)) t).2) (LD s C (zD s)).length q)) ∧ (∀ u, u < (LD s C (zD s)).length → h'.1 41 u = nI (cnt (fun v => (gL (LD s C (zD s)) v).2 = (gL (LD s C (zD s)) u).2) u) ∧ h'.1 42 (pos (fun t => (gL (LD s C (zD s)) t).2) (LD s C (zD s)).length u) = nI u)) = QQ
  have hD := j.1.1.1.1.2.2.2.2.2.2
  have hK := j.1.1.1.1.2.1
  have lp : ∀ d, d ≤ 200 → ∀ g y, onlyJ clL [] h g → TLc s C (LD s C (min d (zD s))) g → (∀ q, q < d → g.1 44 q = nI (LD s C (min q (zD s))).length) → Wp 2 j_Calendar_build 7 [.ref 36, .ref 28, .int (nI d), y] [] g QQ := by
    refine up_ind ?_ (fun d hd ih => ?_)
    · intro g y O T E
      rw [Nat.min_eq_right hD] at T
      have e36 := T.1
      have O1 : onlyJ clL [] h (wI g 44 200 (nI (LD s C (zD s)).length)) := O.addI (by decide)
      have T1 : TLc s C (LD s C (zD s)) (wI g 44 200 (nI (LD s C (zD s)).length)) := T.o (fun k i hk => by rw [wI_ne _ _ _ (fun z => by subst z; simp at hk)])
      obtain ⟨w2, g2, r2, rfl, O2, A2, B2⟩ := c_sort (h := wI g 44 200 (nI (LD s C (zD s)).length)) (f := fun t => (gL (LD s C (zD s)) t).2) hT T1.1 (fun t ht => (T1.2 t ht).2.1) (fun t ht => by
        have := LD_mem _ _ (gL_m ht)
        show (gL (LD s C (zD s)) t).2 < 6
        omega)
      have fin1 : QQ none g2 := by
        rw [← hQQ]
        refine ⟨rfl, O1.trans (O2.mono (fun k hk => by simp at hk; rcases hk with rfl | rfl | rfl <;> decide) (fun k hk => hk)), T1.o (fun k i hk => O2.1 k i (fun z => by simp at hk z; omega)), fun q hq => ?_, A2, B2⟩
        rw [O2.1 44 q (by decide)]
        by_cases e : q = 200
        · rw [e, wI_same, Nat.min_eq_right hD]
        · rw [wI_ne2 _ _ e]; exact E q (by omega)
      show Wp 2 j_Calendar_build 7 [.ref 36, .ref 28, .int (nI 200), y] [] g QQ
      repeat (first | (refine W1 rfl ?_; try refine Wp.norm (L' := [_, _, _, _]) rfl ?_) | ((first | change (_ → _) ∧ (_ → _) | change vp_in _ _ ∧ _ | change ¬ _ ∧ _); simp (disch := omega) only [nI_clamp, nI_leI, nI_ltI, nI_eq, nI_1, nI_add, nI_not_neg, nI_is_pos, nI_m1, nI_z, show (200 : Int32) = nI 200 from rfl, e36]) | refine brT (by first | assumption | decide | omega) ?_ | refine brF (by first | assumption | decide | omega) ?_ | refine brTn (by first | assumption | decide | omega) ?_ | refine brFn (by first | assumption | decide | omega) ?_ | refine And.intro (vp_in_nI (by omega) (by decide)) ?_ | refine And.intro (vp_lit (by decide)) ?_ | refine divJ (by decide) ?_ | refine divI (by decide) ?_)
      try change _ ∧ _
      refine Cl.ofH r2 rfl (by first | done | rfl | (simp (disch := omega) only [nI_1, nI_add, nI_clamp, e36] <;> first | done | rfl)) (by decide) ?_
      show Wp 2 j_Calendar_build _ _ _ _ _
      repeat (first | (refine W1 rfl ?_; try refine Wp.norm (L' := [_, _, _, _]) rfl ?_) | ((first | change (_ → _) ∧ (_ → _) | change vp_in _ _ ∧ _ | change ¬ _ ∧ _); simp (disch := omega) only [nI_clamp, nI_leI, nI_ltI, nI_eq, nI_1, nI_add, nI_not_neg, nI_is_pos, nI_m1, nI_z]) | refine brT (by first | assumption | decide | omega) ?_ | refine brF (by first | assumption | decide | omega) ?_ | refine brTn (by first | assumption | decide | omega) ?_ | refine brFn (by first | assumption | decide | omega) ?_ | refine And.intro (vp_in_nI (by omega) (by decide)) ?_ | refine And.intro (vp_lit (by decide)) ?_ | refine divJ (by decide) ?_ | refine divI (by decide) ?_)
      try change _ ∧ _
      exact fin1
    · intro g y O T E
      have ihn := ih
      clear ih
      have e36 := T.1
      have O1 : onlyJ clL [] h (wI g 44 d (nI (LD s C (min d (zD s))).length)) := O.addI (by decide)
      have T1 : TLc s C (LD s C (min d (zD s))) (wI g 44 d (nI (LD s C (min d (zD s))).length)) := T.o (fun k i hk => by rw [wI_ne _ _ _ (fun z => by subst z; simp at hk)])
      have E1 : ∀ q, q < d + 1 → (wI g 44 d (nI (LD s C (min d (zD s))).length)).1 44 q = nI (LD s C (min q (zD s))).length := fun q hq => by
        by_cases e : q = d
        · rw [e, wI_same]
        · rw [wI_ne2 _ _ e]; exact E q (by omega)
      by_cases c : d < zD s
      · rw [Nat.min_eq_left (by omega)] at T1 O1 E1 e36
        have hm := LD_mono (s := s) (C := C) (show d + 1 ≤ zD s from c)
        have hsp : (LD s C (d + 1)).length = (LD s C d).length + (LK s C d (zK s)).length := by
          show (LD s C d ++ LK s C d (zK s)).length = _
          rw [List.length_append]
        have inner : ∀ k, k ≤ zK s → ∀ g, onlyJ clL [] h g → TLc s C (LD s C d ++ LK s C d k) g → (∀ q, q < d + 1 → g.1 44 q = nI (LD s C (min q (zD s))).length) → Wp 2 j_Calendar_build 26 [.ref 36, .ref 28, .int (nI d), .int (nI k)] [] g QQ := by
          refine up_ind ?_ (fun k hk ih => ?_)
          · intro g O T E
            have Hg := H.o O
            have e70 := Hg.1.1
            have e72 := Hg.1.2.2.1
            have ih := ihn g (.int (nI (zK s))) O (by rw [Nat.min_eq_left (show d + 1 ≤ zD s from c)]; exact T) E
            show Wp 2 j_Calendar_build _ _ _ _ _
            repeat (first | refine Wp.at ih rfl rfl ?_ rfl | (refine W1 rfl ?_; try refine Wp.norm (L' := [_, _, _, _]) rfl ?_) | ((first | change (_ → _) ∧ (_ → _) | change vp_in _ _ ∧ _ | change ¬ _ ∧ _); simp (disch := omega) only [nI_clamp, nI_leI, nI_ltI, nI_eq, nI_1, nI_add, nI_not_neg, nI_is_pos, nI_m1, nI_z, e70, e72]) | refine brT (by first | assumption | decide | omega) ?_ | refine brF (by first | assumption | decide | omega) ?_ | refine brTn (by first | assumption | decide | omega) ?_ | refine brFn (by first | assumption | decide | omega) ?_ | refine And.intro (vp_in_nI (by omega) (by decide)) ?_ | refine And.intro (vp_lit (by decide)) ?_ | refine divJ (by decide) ?_ | refine divI (by decide) ?_)
            try change _ ∧ _
            first | done | rfl | (simp (disch := omega) only [nI_1, nI_add, nI_clamp] <;> first | done | rfl)
          · intro g O T E
            have Hg := H.o O
            have e70 := Hg.1.1
            have e72 := Hg.1.2.2.1
            have hmk := LK_mono (s := s) (C := C) d (show k + 1 ≤ zK s from hk)
            have hle : (LD s C d ++ LK s C d k).length + cNt s C d k = (LD s C d).length + (LK s C d (k + 1)).length := by
              show _ = (LD s C d).length + (LK s C d k ++ List.replicate (cNt s C d k) (d, k)).length
              rw [List.length_append, List.length_append, List.length_replicate]
              omega
            obtain ⟨w2, g2, r2, rfl, O2, E2, T2⟩ := c_addTurns Hg j T c hk (by omega)
            rw [List.append_assoc] at T2
            have ih := ih g2 (O.trans O2) T2 (fun q hq => by rw [E2 44 q (by decide)]; exact E q hq)
            show Wp 2 j_Calendar_build _ _ _ _ _
            (refine W1 rfl ?_; try refine Wp.norm (L' := [_, _, _, _]) rfl ?_)
            repeat (first | (refine W1 rfl ?_; try refine Wp.norm (L' := [_, _, _, _]) rfl ?_) | ((first | change (_ → _) ∧ (_ → _) | change vp_in _ _ ∧ _ | change ¬ _ ∧ _); simp (disch := omega) only [nI_clamp, nI_leI, nI_ltI, nI_eq, nI_1, nI_add, nI_not_neg, nI_is_pos, nI_m1, nI_z, e70, e72]) | refine brT (by first | assumption | decide | omega) ?_ | refine brF (by first | assumption | decide | omega) ?_ | refine brTn (by first | assumption | decide | omega) ?_ | refine brFn (by first | assumption | decide | omega) ?_ | refine And.intro (vp_in_nI (by omega) (by decide)) ?_ | refine And.intro (vp_lit (by decide)) ?_ | refine divJ (by decide) ?_ | refine divI (by decide) ?_)
            try change _ ∧ _
            refine Cl.of r2 (by decide) ?_
            show Wp 2 j_Calendar_build _ _ _ _ _
            repeat (first | refine Wp.at ih rfl rfl ?_ rfl | (refine W1 rfl ?_; try refine Wp.norm (L' := [_, _, _, _]) rfl ?_) | ((first | change (_ → _) ∧ (_ → _) | change vp_in _ _ ∧ _ | change ¬ _ ∧ _); simp (disch := omega) only [nI_clamp, nI_leI, nI_ltI, nI_eq, nI_1, nI_add, nI_not_neg, nI_is_pos, nI_m1, nI_z]) | refine brT (by first | assumption | decide | omega) ?_ | refine brF (by first | assumption | decide | omega) ?_ | refine brTn (by first | assumption | decide | omega) ?_ | refine brFn (by first | assumption | decide | omega) ?_ | refine And.intro (vp_in_nI (by omega) (by decide)) ?_ | refine And.intro (vp_lit (by decide)) ?_ | refine divJ (by decide) ?_ | refine divI (by decide) ?_)
            try change _ ∧ _
            first | done | rfl | (simp (disch := omega) only [nI_1, nI_add, nI_clamp] <;> first | done | rfl)
        have ih := inner 0 (Nat.zero_le _) _ O1 (by show TLc s C (LD s C d ++ []) _; rw [List.append_nil]; exact T1) E1
        rw [← e36] at ih
        show Wp 2 j_Calendar_build _ _ _ _ _
        (refine W1 rfl ?_; try refine Wp.norm (L' := [_, _, _, _]) rfl ?_)
        repeat (first | refine Wp.at ih rfl rfl ?_ rfl | (refine W1 rfl ?_; try refine Wp.norm (L' := [_, _, _, _]) rfl ?_) | ((first | change (_ → _) ∧ (_ → _) | change vp_in _ _ ∧ _ | change ¬ _ ∧ _); simp (disch := omega) only [nI_clamp, nI_leI, nI_ltI, nI_eq, nI_1, nI_add, nI_not_neg, nI_is_pos, nI_m1, nI_z, show (200 : Int32) = nI 200 from rfl]) | refine brT (by first | assumption | decide | omega) ?_ | refine brF (by first | assumption | decide | omega) ?_ | refine brTn (by first | assumption | decide | omega) ?_ | refine brFn (by first | assumption | decide | omega) ?_ | refine And.intro (vp_in_nI (by omega) (by decide)) ?_ | refine And.intro (vp_lit (by decide)) ?_ | refine divJ (by decide) ?_ | refine divI (by decide) ?_)
        try change _ ∧ _
        first | done | rfl | (simp (disch := omega) only [nI_1, nI_add, nI_clamp] <;> first | done | rfl)
      · have H1 := H.o O1
        have e70 := H1.1.1
        have ih := ihn _ (.int 0) O1 (by rw [Nat.min_eq_right (by omega)] at T1 ⊢; exact T1) E1
        generalize (LD s C (min d (zD s))).length = v at *
        show Wp 2 j_Calendar_build _ _ _ _ _
        (refine W1 rfl ?_; try refine Wp.norm (L' := [_, _, _, _]) rfl ?_)
        repeat (first | refine Wp.at ih rfl rfl ?_ ?_ | (refine W1 rfl ?_; try refine Wp.norm (L' := [_, _, _, _]) rfl ?_) | ((first | change (_ → _) ∧ (_ → _) | change vp_in _ _ ∧ _ | change ¬ _ ∧ _); simp (disch := omega) only [nI_clamp, nI_leI, nI_ltI, nI_eq, nI_1, nI_add, nI_not_neg, nI_is_pos, nI_m1, nI_z, show (200 : Int32) = nI 200 from rfl, e36, e70]) | refine brT (by first | assumption | decide | omega) ?_ | refine brF (by first | assumption | decide | omega) ?_ | refine brTn (by first | assumption | decide | omega) ?_ | refine brFn (by first | assumption | decide | omega) ?_ | refine And.intro (vp_in_nI (by omega) (by decide)) ?_ | refine And.intro (vp_lit (by decide)) ?_ | refine divJ (by decide) ?_ | refine divI (by decide) ?_)
        try change _ ∧ _
        · first | done | rfl | (simp (disch := omega) only [nI_1, nI_add, nI_clamp] <;> first | done | rfl)
        · first | done | rfl | (simp (disch := omega) only [nI_1, nI_add, nI_clamp, e36] <;> first | done | rfl)
  have ih := lp 0 (by decide) (wI h 36 1 0) .null ((onlyJ.rfl _ _ h).addI (by decide)) (by
    rw [Nat.min_eq_left (Nat.zero_le _)]
    exact ⟨rfl, fun t ht => absurd ht (Nat.not_lt_zero _)⟩) (fun q hq => absurd hq (Nat.not_lt_zero _))
  show Wp 2 j_Calendar_build _ _ _ _ _
  repeat (first | refine Wp.at ih rfl rfl ?_ rfl | (refine W1 rfl ?_; try refine Wp.norm (L' := [_, _, _, _]) rfl ?_) | ((first | change (_ → _) ∧ (_ → _) | change vp_in _ _ ∧ _ | change ¬ _ ∧ _); simp (disch := omega) only [nI_clamp, nI_leI, nI_ltI, nI_eq, nI_1, nI_add, nI_not_neg, nI_is_pos, nI_m1, nI_z]) | refine brT (by first | assumption | decide | omega) ?_ | refine brF (by first | assumption | decide | omega) ?_ | refine brTn (by first | assumption | decide | omega) ?_ | refine brFn (by first | assumption | decide | omega) ?_ | refine And.intro (vp_in_nI (by omega) (by decide)) ?_ | refine And.intro (vp_lit (by decide)) ?_ | refine divJ (by decide) ?_ | refine divI (by decide) ?_)
  try change _ ∧ _
  first | done | rfl | (simp (disch := omega) only [nI_1, nI_add, nI_clamp] <;> first | done | rfl)
end CBU
