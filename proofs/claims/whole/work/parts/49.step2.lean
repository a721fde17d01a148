/-! ===== STEP: the loops, the clause ===== -/
def lvU (s : ST) (lv : LV) (t : Nat) (w : Int32) : LV := fun k p => if k = tK s t then lv k p + ((if nI p = w then (720720 : Int32) else 0) - nI (dueN s p t)).toInt64 else lv k p
def sst (s : ST) (bl : Int32) (x0 : Nat) : Nat → RT × LV × Nat
  | 0 => (fun _ => -1, fun _ _ => 0, x0)
  | t + 1 => (upd (sst s bl x0 t).1 t (who s (sst s bl x0 t).1 (sst s bl x0 t).2.1 t bl (sst s bl x0 t).2.2), lvU s (sst s bl x0 t).2.1 t (who s (sst s bl x0 t).1 (sst s bl x0 t).2.1 t bl (sst s bl x0 t).2.2), nlot bl (sst s bl x0 t).2.2 (cB (lkS s (sst s bl x0 t).1 (sst s bl x0 t).2.1 t (zP s)).2 (zP s)))
section STEP2
variable {s : ST} {c v : RT} {h : HP} {lv : LV} {t : Nat}
theorem who_cases (o : OK s) (v : RT) (lv : LV) (t : Nat) (bl : Int32) (x : Nat) : (cB (lkS s v lv t (zP s)).2 (zP s) = 0 ∧ who s v lv t bl x = -1) ∨ (0 < cB (lkS s v lv t (zP s)).2 (zP s) ∧ ∃ q, q < zP s ∧ (lkS s v lv t (zP s)).2 q = true ∧ cB (lkS s v lv t (zP s)).2 q = plc bl x (cB (lkS s v lv t (zP s)).2 (zP s)) ∧ who s v lv t bl x = nI q) := by
  have hP := o.P
  unfold who
  by_cases h0 : cB (lkS s v lv t (zP s)).2 (zP s) = 0
  · exact Or.inl ⟨h0, if_pos h0⟩
  · right
    rw [if_neg h0]
    have hp := plc_lt (bl := bl) (x := x) (n := cB (lkS s v lv t (zP s)).2 (zP s)) (by omega)
    obtain ⟨q, h1, h2, h3⟩ := cnt_surj (p := fun q => (lkS s v lv t (zP s)).2 q = true) (m := zP s) (n := plc bl x (cB (lkS s v lv t (zP s)).2 (zP s))) hp
    exact ⟨by omega, q, h1, h2, h3, fnd_at (by omega) h2 h3⟩
theorem who_ok (o : OK s) (v : RT) (lv : LV) (t : Nat) (bl : Int32) (x : Nat) : pOK s (who s v lv t bl x) := by
  rcases who_cases o v lv t bl x with ⟨_, e⟩ | ⟨_, q, h1, _, _, e⟩
  · exact Or.inl e
  · exact Or.inr ⟨q, h1, e⟩
theorem sst_ro (o : OK s) (bl : Int32) (x0 : Nat) : ∀ t, RO s (sst s bl x0 t).1 (sst s bl x0 t).1
  | 0 => fun _ _ => Or.inl ⟨rfl, rfl⟩
  | t + 1 => RO.lay (sst_ro o bl x0 t) (who_ok o _ _ _ _ _) t
def laidN (s : ST) (bl : Int32) (x0 : Nat) : Nat → Nat
  | 0 => 0
  | t + 1 => laidN s bl x0 t + (if cB (lkS s (sst s bl x0 t).1 (sst s bl x0 t).2.1 t (zP s)).2 (zP s) = 0 then 0 else 1)
theorem laid_open (o : OK s) (bl : Int32) (x0 : Nat) : ∀ t, cnt (fun u => (sst s bl x0 t).1 u = -1) t + laidN s bl x0 t = t
  | 0 => rfl
  | t + 1 => by
    have hP := o.P
    have ih := laid_open o bl x0 t
    have e1 : cnt (fun u => (sst s bl x0 (t + 1)).1 u = -1) (t + 1) = cnt (fun u => (sst s bl x0 (t + 1)).1 u = -1) t + (if (sst s bl x0 (t + 1)).1 t = -1 then 1 else 0) := rfl
    have e2 : cnt (fun u => (sst s bl x0 (t + 1)).1 u = -1) t = cnt (fun u => (sst s bl x0 t).1 u = -1) t := cnt_congr (fun u hu => by
      show (upd _ _ _) u = -1 ↔ _
      rw [pk_un (by omega)])
    have e3 : (sst s bl x0 (t + 1)).1 t = who s (sst s bl x0 t).1 (sst s bl x0 t).2.1 t bl (sst s bl x0 t).2.2 := pk_us
    rw [e1, e2, e3, laidN]
    rcases who_cases o (sst s bl x0 t).1 (sst s bl x0 t).2.1 t bl (sst s bl x0 t).2.2 with ⟨h0, e⟩ | ⟨h0, q, h1, _, _, e⟩
    · rw [e, if_pos rfl, if_pos h0]; omega
    · rw [e, if_neg (fun z => (nI_m1 (by omega)).mp z), if_neg (by omega)]; omega
theorem sst_x (bl : Int32) {x0 : Nat} (h0 : x0 < 2 ^ 31) : ∀ t, (sst s bl x0 t).2.2 < 2 ^ 31
  | 0 => h0
  | t + 1 => by
    show nlot _ _ _ < _
    unfold nlot
    split
    · exact Nat.mod_lt _ (by decide)
    · exact sst_x bl h0 t
/-- the class's levels -/
def lvC (s : ST) (lv : LV) (h : HP) : Prop := ∀ k p, k < zK s → p < zP s → h.2 48 (p * 6 + k) = lv k p
def lvM (s : ST) (lv : LV) (h : HP) : Prop := ∀ k p, k < zK s → p < zP s → h.2 112 (16 * k + p) = lv k p
/-- half way: the first e persons have got theirs -/
def lvH (s : ST) (lv : LV) (t : Nat) (w : Int32) (e : Nat) : LV := fun k p => if p < e then lvU s lv t w k p else lv k p
theorem lvH_0 (lv : LV) (t : Nat) (w : Int32) : lvH s lv t w 0 = lv := by
  funext k p
  unfold lvH
  rw [if_neg (by omega)]
theorem w_Rota_layBySteps (R : RC s c v h) (o : OK s) (ro : RO s c v) {seed bl : Int32} {x0 : Nat} (hs : (seed = -1 ∧ bl = 0) ∨ (¬ seed = -1 ∧ bl = 1 ∧ x0 < 2 ^ 31 ∧ seed = nI x0)) : ∃ h', Run 4 j_Rota_layBySteps [.ref 45, .int seed] h none h' ∧ RC s (sst s bl x0 (zT s)).1 (sst s bl x0 (zT s)).1 h' ∧ onlyJ [46, 47] [48, 45] h h' := by
  have hT := o.T; have hP := o.P; have hK := o.K; have hD := o.D; have hO := o.O; have hQ := o.Q; have hL := o.L
  obtain ⟨ha, ra, Oa, Aa⟩ := r_Rota_openAll h
  obtain ⟨hb, rb, Ob, Ab⟩ := r_fillJ_48 ha 0
  have Ra : RC s (fun _ => -1) (fun _ => -1) ha := R.wcs (fun k i _ h1 h2 => Oa.1 k i (by simp; exact ⟨h1, h2⟩)) (fun t ht => (Aa t (by omega)).1) (fun t ht => (Aa t (by omega)).2)
  have Rb : RC s (fun _ => -1) (fun _ => -1) hb := Ra.sr (fun k i _ => Ob.1 k i (by simp))
  have hbl : bl = 0 ∨ bl = 1 := hs.elim (fun z => Or.inl z.2) (fun z => Or.inr z.2.1)
  have lp : ∀ t, t ≤ zT s → ∀ h' x3 x4 x5 x6, onlyJ [46, 47] [48, 45] h h' → RC s (sst s bl x0 t).1 (sst s bl x0 t).1 h' → lvC s (sst s bl x0 t).2.1 h' → (¬ bl = 0 → h'.2 45 5 = lN (sst s bl x0 t).2.2) → Wp 4 j_Rota_layBySteps 20 [.ref 45, .int seed, .int (nI t), x3, x4, x5, x6] [] h' (fun w h' => w = none ∧ RC s (sst s bl x0 (zT s)).1 (sst s bl x0 (zT s)).1 h' ∧ onlyJ [46, 47] [48, 45] h h') := by
    refine up_ind ?_ (fun t ht ih => ?_)
    · intro h' x3 x4 x5 x6 O R' L X
      repeat (first | (refine W1 rfl ?_; try refine Wp.norm (L' := [_, _, _, _, _, _, _]) rfl ?_) | refine brT (by first | assumption | decide | omega) ?_ | refine brF (by first | assumption | decide | omega) ?_ | refine brTn (by first | assumption | decide | omega) ?_ | refine brFn (by first | assumption | decide | omega) ?_ | ((first | change (_ → _) ∧ (_ → _) | change vp_in _ _ ∧ _ | change ¬ _ ∧ _); simp (disch := omega) only [nI_clamp, nI_leI, nI_ltI, nI_eq, nI_1, nI_add, nI_not_neg, nI_is_pos, nI_m1, nI_z, R'.T]) | refine And.intro (vp_in_nI (by omega) (by decide)) ?_ | refine And.intro (vp_lit (by decide)) ?_ | refine divJ (by decide) ?_ | refine divI (by decide) ?_)
      try change _ ∧ _
      exact ⟨rfl, R', O⟩
    · intro h' x3 x4 x5 x6 O R' L X
      have hk := o.knd ht
      have ro' := sst_ro o bl x0 t
      have hX : ¬ bl = 0 → (sst s bl x0 t).2.2 < 2 ^ 31 ∧ h'.2 45 5 = lN (sst s bl x0 t).2.2 := fun z => ⟨sst_x bl (hs.elim (fun w => absurd w.2 z) (fun w => w.2.2.1)) t, X z⟩
      have rm := r_Rota_mostLacking R' o ro' ht L hbl hX
      have es : sst s bl x0 (t + 1) = (upd (sst s bl x0 t).1 t (who s (sst s bl x0 t).1 (sst s bl x0 t).2.1 t bl (sst s bl x0 t).2.2), lvU s (sst s bl x0 t).2.1 t (who s (sst s bl x0 t).1 (sst s bl x0 t).2.1 t bl (sst s bl x0 t).2.2), nlot bl (sst s bl x0 t).2.2 (cB (lkS s (sst s bl x0 t).1 (sst s bl x0 t).2.1 t (zP s)).2 (zP s))) := rfl
      rw [es] at ih
      have hw := who_ok o (sst s bl x0 t).1 (sst s bl x0 t).2.1 t bl (sst s bl x0 t).2.2
      have hc : ∀ n x, (lotH h' bl x n).1 = h'.1 ∧ (∀ i, (lotH h' bl x n).2 48 i = h'.2 48 i) ∧ onlyJ [46, 47] [48, 45] h (lotH h' bl x n) ∧ (¬ bl = 0 → h'.2 45 5 = lN x → (lotH h' bl x n).2 45 5 = lN (nlot bl x n)) := by
        intro n x
        unfold lotH nlot
        split
        · refine ⟨rfl, fun i => by rw [wJ_ne _ _ _ (by decide)], O.addJ (by decide), fun _ _ => wJ_same _ _ _ _⟩
        · exact ⟨rfl, fun _ => rfl, O, fun _ e => e⟩
      generalize (sst s bl x0 t).1 = f at *
      generalize (sst s bl x0 t).2.1 = lv at *
      generalize hxx : (sst s bl x0 t).2.2 = x at *
      generalize cB (lkS s f lv t (zP s)).2 (zP s) = n at *
      generalize hww : who s f lv t bl x = w at *
      obtain ⟨c1, c2, c3, c4⟩ := hc n x
      have R1 : RC s (upd f t w) (upd f t w) (layC (lotH h' bl x n) t w) := RC.lay (R'.sr (fun k i _ => by rw [c1])) t w
      have O1 : onlyJ [46, 47] [48, 45] h (layC (lotH h' bl x n) t w) := (c3.addI (by decide)).addI (by decide)
      have L1 : lvC s lv (layC (lotH h' bl x n) t w) := fun k p hk hp => by
        show (lotH h' bl x n).2 48 _ = _
        rw [c2]; exact L k p hk hp
      have X1 : ¬ bl = 0 → (layC (lotH h' bl x n) t w).2 45 5 = lN (nlot bl x n) := fun z => c4 z (X z)
      have inner : ∀ e, e ≤ zP s → ∀ h2 x6, onlyJ [46, 47] [48, 45] h h2 → RC s (upd f t w) (upd f t w) h2 → lvC s (lvH s lv t w e) h2 → (¬ bl = 0 → h2.2 45 5 = lN (nlot bl x n)) → Wp 4 j_Rota_layBySteps 67 [.ref 45, .int seed, .int (nI t), .int w, .int (nI (tK s t)), .int (nI e), x6] [] h2 (fun w h' => w = none ∧ RC s (sst s bl x0 (zT s)).1 (sst s bl x0 (zT s)).1 h' ∧ onlyJ [46, 47] [48, 45] h h') := by
        refine up_ind ?_ (fun e he ih2 => ?_)
        · intro h2 x6 O2 R2 L2 X2
          have ih := ih h2 (.int w) (.int (nI (tK s t))) (.int (nI (zP s))) x6 O2 R2 (fun k p hk hp => by
            rw [L2 k p hk hp]
            unfold lvH
            rw [if_pos hp]) X2
          (refine W1 rfl ?_; try refine Wp.norm (L' := [_, _, _, _, _, _, _]) rfl ?_)
          repeat (first | refine Wp.at ih rfl rfl ?_ rfl | (refine W1 rfl ?_; try refine Wp.norm (L' := [_, _, _, _, _, _, _]) rfl ?_) | refine brT (by first | assumption | decide | omega) ?_ | refine brF (by first | assumption | decide | omega) ?_ | refine brTn (by first | assumption | decide | omega) ?_ | refine brFn (by first | assumption | decide | omega) ?_ | ((first | change (_ → _) ∧ (_ → _) | change vp_in _ _ ∧ _ | change ¬ _ ∧ _); simp (disch := omega) only [nI_clamp, nI_leI, nI_ltI, nI_eq, nI_1, nI_add, nI_not_neg, nI_is_pos, nI_m1, nI_z, R2.P]) | refine And.intro (vp_in_nI (by omega) (by decide)) ?_ | refine And.intro (vp_lit (by decide)) ?_ | refine divJ (by decide) ?_ | refine divI (by decide) ?_)
          try change _ ∧ _
          first | rfl | (simp (disch := omega) only [nI_1, nI_add, nI_clamp] <;> first | done | rfl)
        · intro h2 x6 O2 R2 L2 X2
          have e6 : nI e * 6 + nI (tK s t) = nI (e * 6 + tK s t) := by rw [show (6 : Int32) = nI 6 from rfl, pk_mul, nI_add]
          have go : ∀ g, (g = if nI e = w then (720720 : Int32) else 0) → Wp 4 j_Rota_layBySteps 91 [.ref 45, .int seed, .int (nI t), .int w, .int (nI (tK s t)), .int (nI e), x6] [.int g] h2 (fun w h' => w = none ∧ RC s (sst s bl x0 (zT s)).1 (sst s bl x0 (zT s)).1 h' ∧ onlyJ [46, 47] [48, 45] h h') := by
            intro g hg
            have ih := ih2 (wJ h2 48 (e * 6 + tK s t) (h2.2 48 (e * 6 + tK s t) + (g - nI (dueN s e t)).toInt64)) (.int g) (O2.addJ (by decide)) (R2.sr (fun _ _ _ => rfl)) (by
              intro k p hk2 hp
              by_cases ek : k = tK s t ∧ p = e
              · obtain ⟨rfl, rfl⟩ := ek
                rw [wJ_same, L2 _ _ hk2 hp]
                unfold lvH lvU
                rw [if_neg (by omega), if_pos (by omega), if_pos rfl, hg]
              · have hne : p * 6 + k ≠ e * 6 + tK s t := by omega
                rw [wJ_ne2 _ _ hne, L2 k p hk2 hp]
                unfold lvH
                by_cases hpe : p < e
                · rw [if_pos hpe, if_pos (by omega)]
                · rw [if_neg hpe]
                  by_cases hpe2 : p = e
                  · rw [if_pos (by omega)]
                    unfold lvU
                    rw [if_neg (fun z => ek ⟨z, hpe2⟩)]
                  · rw [if_neg (by omega)]) (fun z => by rw [wJ_ne _ _ _ (by decide)]; exact X2 z)
            repeat (first | (refine W1 rfl ?_; try refine Wp.norm (L' := [_, _, _, _, _, _, _]) rfl ?_) | refine brT (by first | assumption | decide | omega) ?_ | refine brF (by first | assumption | decide | omega) ?_ | refine brTn (by first | assumption | decide | omega) ?_ | refine brFn (by first | assumption | decide | omega) ?_ | ((first | change (_ → _) ∧ (_ → _) | change vp_in _ _ ∧ _ | change ¬ _ ∧ _); simp (disch := omega) only [nI_clamp, nI_leI, nI_ltI, nI_eq, nI_1, nI_add, nI_not_neg, nI_is_pos, nI_m1, nI_z, e6]) | refine And.intro (vp_in_nI (by omega) (by decide)) ?_ | refine And.intro (vp_lit (by decide)) ?_ | refine divJ (by decide) ?_ | refine divI (by decide) ?_)
            try change _ ∧ _
            refine Cl.of (r_Calendar_dueOf R2 o he ht) (by decide) ?_
            repeat (first | refine Wp.at ih rfl rfl ?_ ?_ | (refine W1 rfl ?_; try refine Wp.norm (L' := [_, _, _, _, _, _, _]) rfl ?_) | refine brT (by first | assumption | decide | omega) ?_ | refine brF (by first | assumption | decide | omega) ?_ | refine brTn (by first | assumption | decide | omega) ?_ | refine brFn (by first | assumption | decide | omega) ?_ | ((first | change (_ → _) ∧ (_ → _) | change vp_in _ _ ∧ _ | change ¬ _ ∧ _); simp (disch := omega) only [nI_clamp, nI_leI, nI_ltI, nI_eq, nI_1, nI_add, nI_not_neg, nI_is_pos, nI_m1, nI_z, e6]) | refine And.intro (vp_in_nI (by omega) (by decide)) ?_ | refine And.intro (vp_lit (by decide)) ?_ | refine divJ (by decide) ?_ | refine divI (by decide) ?_)
            try change _ ∧ _
            · first | rfl | (simp (disch := omega) only [nI_1, nI_add, nI_clamp, e6] <;> first | done | rfl)
            · first | rfl | (simp (disch := omega) only [nI_1, nI_add, nI_clamp, e6] <;> first | done | rfl)
          repeat (first | (refine W1 rfl ?_; try refine Wp.norm (L' := [_, _, _, _, _, _, _]) rfl ?_) | refine brT (by first | assumption | decide | omega) ?_ | refine brF (by first | assumption | decide | omega) ?_ | refine brTn (by first | assumption | decide | omega) ?_ | refine brFn (by first | assumption | decide | omega) ?_ | ((first | change (_ → _) ∧ (_ → _) | change vp_in _ _ ∧ _ | change ¬ _ ∧ _); simp (disch := omega) only [nI_clamp, nI_leI, nI_ltI, nI_eq, nI_1, nI_add, nI_not_neg, nI_is_pos, nI_m1, nI_z, R2.P]) | refine And.intro (vp_in_nI (by omega) (by decide)) ?_ | refine And.intro (vp_lit (by decide)) ?_ | refine divJ (by decide) ?_ | refine divI (by decide) ?_)
          try change _ ∧ _
          refine ⟨fun q => ?_, fun q => ?_⟩
          · iterate 1 (refine W1 rfl ?_; try refine Wp.norm (L' := [_, _, _, _, _, _, _]) rfl ?_)
            exact go _ (by rw [if_neg q])
          · iterate 2 (refine W1 rfl ?_; try refine Wp.norm (L' := [_, _, _, _, _, _, _]) rfl ?_)
            exact go _ (by rw [if_pos q])
      have ih := inner 0 (Nat.zero_le _) (layC (lotH h' bl x n) t w) x6 O1 R1 (by rw [lvH_0]; exact L1) X1
      have hr1 : ∀ bb, bb = bl → Run 3 j_Rota_mostLacking [.ref 45, .int (nI t), .int bb] h' (some (.int w)) (lotH h' bl x n) := fun bb e => by rw [e]; exact rm
      rcases hs with ⟨h1, h2⟩ | ⟨h1, h2, _⟩
      · repeat (first | (refine W1 rfl ?_; try refine Wp.norm (L' := [_, _, _, _, _, _, _, _, _, _, _, _]) rfl ?_) | refine brT (by first | assumption | decide | omega) ?_ | refine brF (by first | assumption | decide | omega) ?_ | refine brTn (by first | assumption | decide | omega) ?_ | refine brFn (by first | assumption | decide | omega) ?_ | ((first | change (_ → _) ∧ (_ → _) | change vp_in _ _ ∧ _ | change ¬ _ ∧ _); simp (disch := omega) only [nI_clamp, nI_leI, nI_ltI, nI_eq, nI_1, nI_add, nI_not_neg, nI_is_pos, nI_m1, nI_z, R'.T]) | refine And.intro (vp_in_nI (by omega) (by decide)) ?_ | refine And.intro (vp_lit (by decide)) ?_ | refine divJ (by decide) ?_ | refine divI (by decide) ?_)
        try change _ ∧ _
        refine Cl.of (hr1 0 h2.symm) (by decide) ?_
        repeat (first | (refine W1 rfl ?_; try refine Wp.norm (L' := [_, _, _, _, _, _, _, _, _, _, _, _]) rfl ?_) | refine brT (by first | assumption | decide | omega) ?_ | refine brF (by first | assumption | decide | omega) ?_ | refine brTn (by first | assumption | decide | omega) ?_ | refine brFn (by first | assumption | decide | omega) ?_ | ((first | change (_ → _) ∧ (_ → _) | change vp_in _ _ ∧ _ | change ¬ _ ∧ _); simp (disch := omega) only [nI_clamp, nI_leI, nI_ltI, nI_eq, nI_1, nI_add, nI_not_neg, nI_is_pos, nI_m1, nI_z]) | refine And.intro (vp_in_nI (by omega) (by decide)) ?_ | refine And.intro (vp_lit (by decide)) ?_ | refine divJ (by decide) ?_ | refine divI (by decide) ?_)
        try change _ ∧ _
        refine Cl.of (r_Rota_lay w (by omega)) (by decide) ?_
        repeat (first | refine Wp.at ih rfl rfl ?_ rfl | (refine W1 rfl ?_; try refine Wp.norm (L' := [_, _, _, _, _, _, _, _, _, _, _, _]) rfl ?_) | refine brT (by first | assumption | decide | omega) ?_ | refine brF (by first | assumption | decide | omega) ?_ | refine brTn (by first | assumption | decide | omega) ?_ | refine brFn (by first | assumption | decide | omega) ?_ | ((first | change (_ → _) ∧ (_ → _) | change vp_in _ _ ∧ _ | change ¬ _ ∧ _); simp (disch := omega) only [nI_clamp, nI_leI, nI_ltI, nI_eq, nI_1, nI_add, nI_not_neg, nI_is_pos, nI_m1, nI_z, R1.knd]) | refine And.intro (vp_in_nI (by omega) (by decide)) ?_ | refine And.intro (vp_lit (by decide)) ?_ | refine divJ (by decide) ?_ | refine divI (by decide) ?_)
        try change _ ∧ _
        first | rfl | (simp (disch := omega) only [nI_1, nI_add, nI_clamp, R1.knd] <;> first | done | rfl)
      · repeat (first | (refine W1 rfl ?_; try refine Wp.norm (L' := [_, _, _, _, _, _, _, _, _, _, _, _]) rfl ?_) | refine brT (by first | assumption | decide | omega) ?_ | refine brF (by first | assumption | decide | omega) ?_ | refine brTn (by first | assumption | decide | omega) ?_ | refine brFn (by first | assumption | decide | omega) ?_ | ((first | change (_ → _) ∧ (_ → _) | change vp_in _ _ ∧ _ | change ¬ _ ∧ _); simp (disch := omega) only [nI_clamp, nI_leI, nI_ltI, nI_eq, nI_1, nI_add, nI_not_neg, nI_is_pos, nI_m1, nI_z, R'.T]) | refine And.intro (vp_in_nI (by omega) (by decide)) ?_ | refine And.intro (vp_lit (by decide)) ?_ | refine divJ (by decide) ?_ | refine divI (by decide) ?_)
        try change _ ∧ _
        refine Cl.of (hr1 1 h2.symm) (by decide) ?_
        repeat (first | (refine W1 rfl ?_; try refine Wp.norm (L' := [_, _, _, _, _, _, _, _, _, _, _, _]) rfl ?_) | refine brT (by first | assumption | decide | omega) ?_ | refine brF (by first | assumption | decide | omega) ?_ | refine brTn (by first | assumption | decide | omega) ?_ | refine brFn (by first | assumption | decide | omega) ?_ | ((first | change (_ → _) ∧ (_ → _) | change vp_in _ _ ∧ _ | change ¬ _ ∧ _); simp (disch := omega) only [nI_clamp, nI_leI, nI_ltI, nI_eq, nI_1, nI_add, nI_not_neg, nI_is_pos, nI_m1, nI_z]) | refine And.intro (vp_in_nI (by omega) (by decide)) ?_ | refine And.intro (vp_lit (by decide)) ?_ | refine divJ (by decide) ?_ | refine divI (by decide) ?_)
        try change _ ∧ _
        refine Cl.of (r_Rota_lay w (by omega)) (by decide) ?_
        repeat (first | refine Wp.at ih rfl rfl ?_ rfl | (refine W1 rfl ?_; try refine Wp.norm (L' := [_, _, _, _, _, _, _, _, _, _, _, _]) rfl ?_) | refine brT (by first | assumption | decide | omega) ?_ | refine brF (by first | assumption | decide | omega) ?_ | refine brTn (by first | assumption | decide | omega) ?_ | refine brFn (by first | assumption | decide | omega) ?_ | ((first | change (_ → _) ∧ (_ → _) | change vp_in _ _ ∧ _ | change ¬ _ ∧ _); simp (disch := omega) only [nI_clamp, nI_leI, nI_ltI, nI_eq, nI_1, nI_add, nI_not_neg, nI_is_pos, nI_m1, nI_z, R1.knd]) | refine And.intro (vp_in_nI (by omega) (by decide)) ?_ | refine And.intro (vp_lit (by decide)) ?_ | refine divJ (by decide) ?_ | refine divI (by decide) ?_)
        try change _ ∧ _
        first | rfl | (simp (disch := omega) only [nI_1, nI_add, nI_clamp, R1.knd] <;> first | done | rfl)
  obtain ⟨w, h', r, e, R', O⟩ := Run.ofP (d := 4) (j := j_Rota_layBySteps) (as := [.ref 45, .int seed]) (h := h) (P := fun w h' => w = none ∧ RC s (sst s bl x0 (zT s)).1 (sst s bl x0 (zT s)).1 h' ∧ onlyJ [46, 47] [48, 45] h h') rfl (by
    refine Wp.norm (L' := [_, _, _, _, _, _, _]) rfl ?_
    have Ob2 : onlyJ [46, 47] [48, 45] h hb := (Oa.mono (fun k z => z) (by simp)).trans (Ob.mono (by simp) (fun k z => by simp at z; rw [z]; decide))
    have ih := lp 0 (Nat.zero_le _) (wJ hb 45 5 seed.toInt64) .null .null .null .null (Ob2.addJ (by decide)) (Rb.sr (fun _ _ _ => rfl)) (fun k p hk hp => by
      rw [wJ_ne _ _ _ (by decide)]
      exact Ab _ (by omega)) (fun z => by
      rw [wJ_same]
      rcases hs with w | ⟨_, _, w1, w2⟩
      · exact absurd w.2 z
      · rw [w2, nI_l w1]
        rfl)
    repeat (first | (refine W1 rfl ?_; try refine Wp.norm (L' := [_, _, _, _, _, _, _]) rfl ?_) | refine brT (by first | assumption | decide | omega) ?_ | refine brF (by first | assumption | decide | omega) ?_ | refine brTn (by first | assumption | decide | omega) ?_ | refine brFn (by first | assumption | decide | omega) ?_ | ((first | change (_ → _) ∧ (_ → _) | change vp_in _ _ ∧ _ | change ¬ _ ∧ _); simp (disch := omega) only [nI_clamp, nI_leI, nI_ltI, nI_eq, nI_1, nI_add, nI_not_neg, nI_is_pos, nI_m1, nI_z]) | refine And.intro (vp_in_nI (by omega) (by decide)) ?_ | refine And.intro (vp_lit (by decide)) ?_ | refine divJ (by decide) ?_ | refine divI (by decide) ?_)
    try change _ ∧ _
    refine Cl.of ra (by decide) ?_
    repeat (first | (refine W1 rfl ?_; try refine Wp.norm (L' := [_, _, _, _, _, _, _]) rfl ?_) | refine brT (by first | assumption | decide | omega) ?_ | refine brF (by first | assumption | decide | omega) ?_ | refine brTn (by first | assumption | decide | omega) ?_ | refine brFn (by first | assumption | decide | omega) ?_ | ((first | change (_ → _) ∧ (_ → _) | change vp_in _ _ ∧ _ | change ¬ _ ∧ _); simp (disch := omega) only [nI_clamp, nI_leI, nI_ltI, nI_eq, nI_1, nI_add, nI_not_neg, nI_is_pos, nI_m1, nI_z]) | refine And.intro (vp_in_nI (by omega) (by decide)) ?_ | refine And.intro (vp_lit (by decide)) ?_ | refine divJ (by decide) ?_ | refine divI (by decide) ?_)
    try change _ ∧ _
    refine Cl.of rb (by decide) ?_
    repeat (first | refine Wp.at ih rfl rfl ?_ rfl | (refine W1 rfl ?_; try refine Wp.norm (L' := [_, _, _, _, _, _, _]) rfl ?_) | refine brT (by first | assumption | decide | omega) ?_ | refine brF (by first | assumption | decide | omega) ?_ | refine brTn (by first | assumption | decide | omega) ?_ | refine brFn (by first | assumption | decide | omega) ?_ | ((first | change (_ → _) ∧ (_ → _) | change vp_in _ _ ∧ _ | change ¬ _ ∧ _); simp (disch := omega) only [nI_clamp, nI_leI, nI_ltI, nI_eq, nI_1, nI_add, nI_not_neg, nI_is_pos, nI_m1, nI_z]) | refine And.intro (vp_in_nI (by omega) (by decide)) ?_ | refine And.intro (vp_lit (by decide)) ?_ | refine divJ (by decide) ?_ | refine divI (by decide) ?_)
    try change _ ∧ _
    first | rfl | (simp (disch := omega) only [nI_1, nI_add, nI_clamp] <;> first | done | rfl))
  subst e
  exact ⟨h', r, R', O⟩
theorem seed_cases (seed : Int32) : seed < -1 ∨ ∃ bl x0, (seed = -1 ∧ bl = (0 : Int32)) ∨ (¬ seed = -1 ∧ bl = (1 : Int32) ∧ x0 < 2 ^ 31 ∧ seed = nI x0) := by
  by_cases h1 : seed < -1
  · exact Or.inl h1
  · right
    by_cases h2 : seed = -1
    · exact ⟨0, 0, Or.inl ⟨h2, rfl⟩⟩
    · have h3 : ¬ seed < 0 := by
        rw [Int32.lt_iff_toInt_lt] at *
        rw [← Int32.toInt_inj] at h2
        rw [show (-1 : Int32).toInt = -1 from rfl] at *
        rw [Int32.toInt_zero]
        omega
      obtain ⟨j, hj, e⟩ := nI_of h3
      exact ⟨1, j, Or.inr ⟨h2, rfl, hj, e⟩⟩
theorem w_E_step (R : RC s c v h) (o : OK s) (ro : RO s c v) {seed bl : Int32} {x0 : Nat} (hs : (seed = -1 ∧ bl = 0) ∨ (¬ seed = -1 ∧ bl = 1 ∧ x0 < 2 ^ 31 ∧ seed = nI x0)) (hge : -1 ≤ seed) : ∃ h', Run 5 j_E_step [.ref 0, .int seed] h (some (.int (nI (laidN s bl x0 (zT s))))) h' ∧ RC s (sst s bl x0 (zT s)).1 (sst s bl x0 (zT s)).1 h' ∧ onlyJ [46, 47] [48, 45] h h' := by
  have hT := o.T; have hP := o.P; have hK := o.K; have hD := o.D; have hO := o.O; have hQ := o.Q; have hL := o.L
  obtain ⟨h', r, R', O⟩ := w_Rota_layBySteps R o ro hs
  refine ⟨h', ?_, R', O⟩
  have hlo := laid_open o bl x0 (zT s)
  refine Run.of rfl ?_
  refine Wp.norm (L' := [_, _]) rfl ?_
  repeat (first | (refine W1 rfl ?_; try refine Wp.norm (L' := [_, _]) rfl ?_) | refine brT (by first | assumption | decide | omega) ?_ | refine brF (by first | assumption | decide | omega) ?_ | refine brTn (by first | assumption | decide | omega) ?_ | refine brFn (by first | assumption | decide | omega) ?_ | ((first | change (_ → _) ∧ (_ → _) | change vp_in _ _ ∧ _ | change ¬ _ ∧ _); simp (disch := omega) only [nI_clamp, nI_leI, nI_ltI, nI_eq, nI_1, nI_add, nI_not_neg, nI_is_pos, nI_m1, nI_z]) | refine And.intro (vp_in_nI (by omega) (by decide)) ?_ | refine And.intro (vp_lit (by decide)) ?_ | refine divJ (by decide) ?_ | refine divI (by decide) ?_)
  try change _ ∧ _
  refine Cl.of r (by decide) ?_
  repeat (first | (refine W1 rfl ?_; try refine Wp.norm (L' := [_, _]) rfl ?_) | refine brT (by first | assumption | decide | omega) ?_ | refine brF (by first | assumption | decide | omega) ?_ | refine brTn (by first | assumption | decide | omega) ?_ | refine brFn (by first | assumption | decide | omega) ?_ | ((first | change (_ → _) ∧ (_ → _) | change vp_in _ _ ∧ _ | change ¬ _ ∧ _); simp (disch := omega) only [nI_clamp, nI_leI, nI_ltI, nI_eq, nI_1, nI_add, nI_not_neg, nI_is_pos, nI_m1, nI_z, R'.T]) | refine And.intro (vp_in_nI (by omega) (by decide)) ?_ | refine And.intro (vp_lit (by decide)) ?_ | refine divJ (by decide) ?_ | refine divI (by decide) ?_)
  try change _ ∧ _
  refine Cl.of (r_Rota_countOpen R' o) (by decide) ?_
  repeat (first | (refine W1 rfl ?_; try refine Wp.norm (L' := [_, _]) rfl ?_) | refine brT (by first | assumption | decide | omega) ?_ | refine brF (by first | assumption | decide | omega) ?_ | refine brTn (by first | assumption | decide | omega) ?_ | refine brFn (by first | assumption | decide | omega) ?_ | ((first | change (_ → _) ∧ (_ → _) | change vp_in _ _ ∧ _ | change ¬ _ ∧ _); simp (disch := omega) only [nI_clamp, nI_leI, nI_ltI, nI_eq, nI_1, nI_add, nI_not_neg, nI_is_pos, nI_m1, nI_z]) | refine And.intro (vp_in_nI (by omega) (by decide)) ?_ | refine And.intro (vp_lit (by decide)) ?_ | refine divJ (by decide) ?_ | refine divI (by decide) ?_)
  try change _ ∧ _
  rw [R'.T, pk_sub (by omega)]
  refine ⟨?_, rfl⟩
  congr 3
  omega
end STEP2
