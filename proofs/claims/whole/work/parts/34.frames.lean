/-! ===== FRAMES; SET, GIVE, FEED, END ===== -/
def keepC (k i : Nat) : Bool := bif Nat.blt k 65 then keep k i else false
def keepM (k i : Nat) : Bool := bif Nat.blt k 65 then false else keep k i
def keepX (k i : Nat) : Bool := bif [46, 47, 110, 111].contains k then false else keep k i
def SameK (K : Nat → Nat → Bool) (h h' : HP) : Prop := ∀ k i, K k i = true → h'.1 k i = h.1 k i
theorem SameK.refl (K : Nat → Nat → Bool) (h : HP) : SameK K h h := fun _ _ _ => rfl
theorem SameK.trans {K : Nat → Nat → Bool} {a b c : HP} (h1 : SameK K a b) (h2 : SameK K b c) : SameK K a c := fun k i hk => (h2 k i hk).trans (h1 k i hk)
theorem SameK.ofI {K : Nat → Nat → Bool} (h : HP) {k i : Nat} (x : Int32) (hk : K k i = false) : SameK K h (wI h k i x) := by
  intro k' i' h'
  by_cases e : k' = k
  · subst e
    by_cases e2 : i' = i
    · subst e2
      rw [hk] at h'
      cases h'
    · exact wI_ne2 h x e2
  · rw [wI_ne h i x e]
theorem SameK.addI {K : Nat → Nat → Bool} {h0 h : HP} {k i : Nat} {x : Int32} (h1 : SameK K h0 h) (hk : K k i = false) : SameK K h0 (wI h k i x) := h1.trans (SameK.ofI h x hk)
theorem TP.sx {h h' : HP} (S : SameK keepX h h') (t : TP h) : TP h' := by
  obtain ⟨n, h1, h2, h3, h4⟩ := t
  refine ⟨n, h1, ?_, ?_, fun i hi => ?_⟩
  · rw [S 1 1 rfl]; exact h2
  · rw [S 65 1 rfl]; exact h3
  · rw [S 2 i rfl, S 66 i rfl]; exact h4 i hi
theorem SMX.sx {h h' : HP} (S : SameK keepX h h') (t : SMX h) : SMX h' := by
  obtain ⟨h1, h2, h3, h4, h5, n, h6, h7, h8, h9⟩ := t
  unfold SMX
  rw [S 54 8 rfl, S 65 74 rfl, S 17 6 rfl, S 65 7 rfl, S 17 7 rfl, S 65 8 rfl, S 65 68 rfl, S 50 6 rfl, S 50 7 rfl, S 65 69 rfl, S 0 11 rfl, S 65 80 rfl]
  refine ⟨h1, h2, h3, h4, h5, n, h6, h7, h8, fun i hi => ?_⟩
  rw [S 64 i rfl, S 120 i rfl]
  exact h9 i hi
section FR
variable {s : ST} {c v : RT} {h h' : HP}
theorem RC.sc (S : SameK keepC h h') (R : RC s c v h) : RC s c v h' := by
  unfold RC
  have e := S
  refine ⟨?_, fun t ht => ?_, fun t ht => ?_, fun t ht => ?_, fun t ht => ?_, fun t ht => ?_, fun t ht => ?_⟩
  · rw [e 36 1 rfl, e 7 1 rfl, e 7 2 rfl, e 7 0 rfl, e 7 3 rfl, e 7 4 rfl]; exact R.1
  · rw [e 37 t rfl, e 38 t rfl, e 41 t rfl, e 39 t rfl, e 40 t rfl, e 42 t rfl, e 46 t rfl, e 47 t rfl]; exact R.2.1 t ht
  · rw [e 9 t rfl, e 12 t rfl, e 13 t rfl, e 8 t rfl]; exact R.2.2.1 t ht
  · rw [e 15 t rfl, e 14 t rfl]; exact R.2.2.2.1 t ht
  · rw [e 16 t rfl]; exact R.rst ht
  · rw [e 43 t rfl]; exact R.kfs ht
  · rw [e 44 t rfl]; exact R.dfs ht
theorem RM.sm (S : SameK keepM h h') (J : h'.2 = h.2) (R : RM s c v h) : RM s c v h' := by
  unfold RM
  have e := S
  refine ⟨?_, fun t ht => ?_, fun t ht => ?_, fun t ht => ?_, fun t ht => ?_⟩
  · rw [e 65 55 rfl, e 88 1 rfl, e 89 1 rfl, e 87 1 rfl, e 90 1 rfl]; exact R.1
  · rw [e 106 t rfl, e 107 t rfl, e 108 t rfl, e 109 t rfl, e 110 t rfl, e 111 t rfl]; exact R.2.1 t ht
  · rw [e 92 _ rfl, J]; exact R.2.2.1 t ht
  · rw [e 96 _ rfl, J]; exact R.2.2.2.1 t ht
  · rw [e 97 _ rfl, e 98 _ rfl, e 99 _ rfl, e 100 _ rfl]; exact R.2.2.2.2 t ht
/-- the class's rota changes -/
theorem RC.wcs {c' v' : RT} (R : RC s c v h) (S : ∀ k i, keepC k i = true → k ≠ 46 → k ≠ 47 → h'.1 k i = h.1 k i) (hc : ∀ t, t < zT s → h'.1 46 t = c' t) (hv : ∀ t, t < zT s → h'.1 47 t = v' t) : RC s c' v' h' := by
  unfold RC
  have e : ∀ k i, keepC k i = true → (k ≠ 46 ∧ k ≠ 47) → h'.1 k i = h.1 k i := fun k i a b => S k i a b.1 b.2
  refine ⟨?_, fun t ht => ?_, fun t ht => ?_, fun t ht => ?_, fun t ht => ?_, fun t ht => ?_, fun t ht => ?_⟩
  · rw [e 36 1 rfl (by decide), e 7 1 rfl (by decide), e 7 2 rfl (by decide), e 7 0 rfl (by decide), e 7 3 rfl (by decide), e 7 4 rfl (by decide)]; exact R.1
  · rw [e 37 t rfl (by decide), e 38 t rfl (by decide), e 41 t rfl (by decide), e 39 t rfl (by decide), e 40 t rfl (by decide), e 42 t rfl (by decide)]
    exact ⟨R.day ht, R.knd ht, R.num ht, R.msk ht, R.unt ht, R.byk ht, hc t ht, hv t ht⟩
  · rw [e 9 t rfl (by decide), e 12 t rfl (by decide), e 13 t rfl (by decide), e 8 t rfl (by decide)]; exact R.2.2.1 t ht
  · rw [e 15 t rfl (by decide), e 14 t rfl (by decide)]; exact R.2.2.2.1 t ht
  · rw [e 16 t rfl (by decide)]; exact R.rst ht
  · rw [e 43 t rfl (by decide)]; exact R.kfs ht
  · rw [e 44 t rfl (by decide)]; exact R.dfs ht
theorem RM.wcs {c' v' : RT} (R : RM s c v h) (S : ∀ k i, keepM k i = true → k ≠ 110 → k ≠ 111 → h'.1 k i = h.1 k i) (J : h'.2 = h.2) (hc : ∀ t, t < zT s → h'.1 110 t = c' t) (hv : ∀ t, t < zT s → h'.1 111 t = v' t) : RM s c' v' h' := by
  unfold RM
  have e : ∀ k i, keepM k i = true → (k ≠ 110 ∧ k ≠ 111) → h'.1 k i = h.1 k i := fun k i a b => S k i a b.1 b.2
  refine ⟨?_, fun t ht => ?_, fun t ht => ?_, fun t ht => ?_, fun t ht => ?_⟩
  · rw [e 65 55 rfl (by decide), e 88 1 rfl (by decide), e 89 1 rfl (by decide), e 87 1 rfl (by decide), e 90 1 rfl (by decide)]; exact R.1
  · rw [e 106 t rfl (by decide), e 107 t rfl (by decide), e 108 t rfl (by decide), e 109 t rfl (by decide)]
    exact ⟨R.day ht, R.knd ht, R.num ht, R.msk ht, hc t ht, hv t ht⟩
  · rw [e 92 _ rfl (by decide), J]; exact R.2.2.1 t ht
  · rw [e 96 _ rfl (by decide), J]; exact R.2.2.2.1 t ht
  · rw [e 97 _ rfl (by decide), e 98 _ rfl (by decide), e 99 _ rfl (by decide), e 100 _ rfl (by decide)]; exact R.2.2.2.2 t ht
theorem RC.c46 (R : RC s c v h) (t : Nat) (x : Int32) : RC s (upd c t x) v (wI h 46 t x) := by
  refine R.wcs (fun k i _ h1 _ => by rw [wI_ne h t x h1]) (fun u hu => ?_) (fun u hu => by rw [wI_ne h t x (by decide)]; exact R.srv hu)
  by_cases e : u = t
  · subst e
    rw [wI_same, pk_us]
  · rw [wI_ne2 h x e, pk_un e]
    exact R.cts hu
theorem RC.c47 (R : RC s c v h) (t : Nat) (x : Int32) : RC s c (upd v t x) (wI h 47 t x) := by
  refine R.wcs (fun k i _ _ h1 => by rw [wI_ne h t x h1]) (fun u hu => by rw [wI_ne h t x (by decide)]; exact R.cts hu) (fun u hu => ?_)
  by_cases e : u = t
  · subst e
    rw [wI_same, pk_us]
  · rw [wI_ne2 h x e, pk_un e]
    exact R.srv hu
theorem RM.c110 (R : RM s c v h) (t : Nat) (x : Int32) : RM s (upd c t x) v (wI h 110 t x) := by
  refine R.wcs (fun k i _ h1 _ => by rw [wI_ne h t x h1]) rfl (fun u hu => ?_) (fun u hu => by rw [wI_ne h t x (by decide)]; exact R.srv hu)
  by_cases e : u = t
  · subst e
    rw [wI_same, pk_us]
  · rw [wI_ne2 h x e, pk_un e]
    exact R.cts hu
theorem RM.c111 (R : RM s c v h) (t : Nat) (x : Int32) : RM s c (upd v t x) (wI h 111 t x) := by
  refine R.wcs (fun k i _ _ h1 => by rw [wI_ne h t x h1]) rfl (fun u hu => by rw [wI_ne h t x (by decide)]; exact R.cts hu) (fun u hu => ?_)
  by_cases e : u = t
  · subst e
    rw [wI_same, pk_us]
  · rw [wI_ne2 h x e, pk_un e]
    exact R.srv hu
theorem RC.lay (R : RC s c v h) (t : Nat) (x : Int32) : RC s (upd c t x) (upd v t x) (layC h t x) := (R.c46 t x).c47 t x
theorem RM.lay (R : RM s c v h) (t : Nat) (x : Int32) : RM s (upd c t x) (upd v t x) (layM h t x) := (R.c110 t x).c111 t x
theorem RM.inC {k i : Nat} {x : Int32} (R : RM s c v h) (hk : keepM k i = false) : RM s c v (wI h k i x) := R.sm (SameK.ofI h x hk) rfl
theorem RC.inM {k i : Nat} {x : Int32} (R : RC s c v h) (hk : keepC k i = false) : RC s c v (wI h k i x) := R.sc (SameK.ofI h x hk)
/-- the turn's person, or none -/
def pOK (s : ST) (x : Int32) : Prop := x = -1 ∨ ∃ p, p < zP s ∧ x = nI p
theorem RO.lay (ro : RO s c v) {x : Int32} (hx : pOK s x) (t : Nat) : RO s (upd c t x) (upd v t x) := by
  intro u hu
  by_cases e : u = t
  · subst e
    rw [pk_us, pk_us]
    rcases hx with h1 | ⟨p, hp, h1⟩
    · exact Or.inl ⟨h1, h1⟩
    · exact Or.inr ⟨p, p, hp, hp, h1, h1⟩
  · rw [pk_un e, pk_un e]
    exact ro u hu
theorem RO.giv (ro : RO s c v) (o : OK s) {p t : Nat} (hp : p < zP s) (ht : ¬ c t = -1) : RO s c (upd v t (nI p)) := by
  intro u hu
  by_cases e : u = t
  · subst e
    rw [pk_us]
    rcases ro u hu with ⟨h1, _⟩ | ⟨a, b, ha, hb, h1, h2⟩
    · exact absurd h1 ht
    · exact Or.inr ⟨a, p, ha, hp, h1, rfl⟩
  · rw [pk_un e]
    exact ro u hu
end FR
theorem o_set : op_15 Inv := fun x y h I => by
  obtain ⟨t, m, s, c, v, R, M, o, ro⟩ := id I
  have hT := o.T
  have hP := o.P
  by_cases hb : (0 ≤ x ∧ x < nI (zT s)) ∧ (y = -1 ∨ (0 ≤ y ∧ y < nI (zP s)))
  · obtain ⟨u, hu, rfl⟩ := (ix_cases x (n := zT s) (by omega)).resolve_right (fun z => z hb.1)
    have hy : pOK s y := by
      rcases hb.2 with e | e
      · exact Or.inl e
      · exact Or.inr ((ix_cases y (n := zP s) (by omega)).resolve_right (fun z => z e))
    have M1 : RM s c v (layC h u y) := (M.inC (k := 46) (i := u) (x := y) rfl).inC (k := 47) (i := u) (x := y) rfl
    have R1 := R.lay u y
    refine ⟨_, _, _, (r_E_set_ok y R.T hT hu (by rw [R.P]; exact hb.2)).d, (r_M_set_ok y M1.T hT hu (by rw [M1.T]; exact nI_pos' (by omega)) (by rw [M1.P]; exact nI_pos' (by omega)) (by rw [M1.P]; exact hb.2)).d, ?_⟩
    have S : SameK keepX h (layM (layC h u y) u y) := ((((SameK.refl keepX h).addI (k := 46) (i := u) (x := y) rfl).addI (k := 47) (i := u) (x := y) rfl).addI (k := 110) (i := u) (x := y) rfl).addI (k := 111) (i := u) (x := y) rfl
    exact ⟨t.sx S, m.sx S, s, _, _, (R1.inM (k := 110) (i := u) (x := y) rfl).inM (k := 111) (i := u) (x := y) rfl, M1.lay u y, o, ro.lay hy u⟩
  · refine ⟨_, _, _, (r_E_set_no x y (by rw [R.P, R.T]; exact hb)).d, (r_M_set_no x y (by rw [M.T]; exact nI_pos' (by omega)) (by rw [M.P]; exact nI_pos' (by omega)) (by rw [M.P, M.T]; exact hb)).d, I⟩
theorem o_give : op_16 Inv := fun x y h I => by
  obtain ⟨t, m, s, c, v, R, M, o, ro⟩ := id I
  have hT := o.T
  have hP := o.P
  rcases two_ix x y (a := zT s) (b := zP s) (by omega) (by omega) with ⟨u, p, hu, hp, rfl, rfl⟩ | hb
  · by_cases hc : c u = -1
    · have hv := (RO.opn ro o hu).mp hc
      refine ⟨_, _, _, (r_E_give_no (nI u) (nI p) R.T hT (fun z => z.2.2 (by rw [nI_clamp (by omega), R.cts hu]; exact hc))).d, (r_M_give_no (nI u) (nI p) M.T hT (by rw [M.T]; exact nI_pos' (by omega)) (by rw [M.P]; exact nI_pos' (by omega)) (fun z => z.2.2 (by rw [nI_clamp (by omega), M.srv hu]; exact hv))).d, I⟩
    · have hv : ¬ v u = -1 := fun z => hc ((RO.opn ro o hu).mpr z)
      have M1 : RM s c v (wI h 47 u (nI p)) := M.inC (k := 47) (i := u) (x := nI p) rfl
      have R1 := R.c47 u (nI p)
      refine ⟨_, _, _, (r_E_give_ok (nI p) R.T hT hu (by rw [R.P]; exact ix_ok hp (by omega)) (by rw [R.cts hu]; exact hc)).d, (r_M_give_ok (nI p) M1.T hT hu (by rw [M1.T]; exact nI_pos' (by omega)) (by rw [M1.P]; exact nI_pos' (by omega)) (by rw [M1.P]; exact ix_ok hp (by omega)) (by rw [M1.srv hu]; exact hv)).d, ?_⟩
      have S : SameK keepX h (wI (wI h 47 u (nI p)) 111 u (nI p)) := ((SameK.refl keepX h).addI (k := 47) (i := u) (x := nI p) rfl).addI (k := 111) (i := u) (x := nI p) rfl
      exact ⟨t.sx S, m.sx S, s, _, _, R1.inM (k := 111) (i := u) (x := nI p) rfl, M1.c111 u (nI p), o, ro.giv o hp hc⟩
  · have hb1 : ∀ q : Prop, ¬ ((0 ≤ x ∧ x < nI (zT s)) ∧ (0 ≤ y ∧ y < nI (zP s)) ∧ q) := fun q z => hb.elim (fun w => w z.1) (fun w => w z.2.1)
    exact ⟨_, _, _, (r_E_give_no x y R.T hT (by rw [R.T, R.P]; exact hb1 _)).d, (r_M_give_no x y M.T hT (by rw [M.T]; exact nI_pos' (by omega)) (by rw [M.P]; exact nI_pos' (by omega)) (by rw [M.T, M.P]; exact hb1 _)).d, I⟩
