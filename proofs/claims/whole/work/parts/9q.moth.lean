/-! ===== THE MODEL READS STATEMENTS: the others ===== -/
def OW (r : Nat) (h h' : HP) : Prop := (∀ k i, k ≠ 65 → k ≠ 103 → k ≠ 104 → ¬ (97 ≤ k ∧ k ≤ 102 ∧ i = r) → ¬ (k = 90 ∧ i = 0) → h'.1 k i = h.1 k i) ∧ (∀ k i, h'.2 k i = h.2 k i)
theorem OW.rfl (r : Nat) (h : HP) : OW r h h := ⟨fun _ _ _ _ _ _ _ => Eq.refl _, fun _ _ => Eq.refl _⟩
theorem OW.nf {r : Nat} {a b c : HP} (h1 : OW r a b) (h2 : NF b c) : OW r a c := ⟨fun k i x y z w v => (h2.1 k i x y z).trans (h1.1 k i x y z w v), fun k i => (h2.2 k i).trans (h1.2 k i)⟩
theorem OW.w {r k : Nat} {a b : HP} {x : Int32} (h1 : OW r a b) (hk : 97 ≤ k ∧ k ≤ 102) : OW r a (wI b k r x) := ⟨fun k' i a1 a2 a3 a4 a5 => by
  by_cases e : k' = k
  · subst e
    rw [wI_ne2 _ _ (by omega)]; exact h1.1 k' i a1 a2 a3 a4 a5
  · rw [wI_ne _ _ _ e]; exact h1.1 k' i a1 a2 a3 a4 a5, h1.2⟩
theorem OW.o {r : Nat} {a b : HP} {x : Int32} (h1 : OW r a b) : OW r a (wI b 90 0 x) := ⟨fun k' i a1 a2 a3 a4 a5 => by
  by_cases e : k' = 90
  · subst e
    rw [wI_ne2 _ _ (by omega)]; exact h1.1 90 i a1 a2 a3 a4 a5
  · rw [wI_ne _ _ _ e]; exact h1.1 k' i a1 a2 a3 a4 a5, h1.2⟩
section MOT
variable {b : Nat → Nat} {n i : Nat} {h h' : HP} {s : ST} {C W V : List Nat} {B d : Nat}
theorem DM.oth {s' : ST} (D : DM s h) (hz : zD s' = zD s ∧ zP s' = zP s ∧ zK s' = zK s ∧ zO s' = zO s + 1)
  (hp : ∀ a p, (a = 20 ∨ a = 5 ∨ a = 24 ∨ a = 25 ∨ a = 22 ∨ a = 8) → s' a p = s a p)
  (ho : ∀ a r, r < zO s → (a = 12 ∨ a = 13 ∨ a = 14 ∨ a = 15 ∨ a = 26 ∨ a = 27) → s' a r = s a r) (O : OW (zO s) h h') (h90 : h'.1 90 0 = nI (zO s + 1))
  (hn : h'.1 97 (zO s) = nI (oS s' (zO s)) ∧ h'.1 98 (zO s) = nI (oA s' (zO s)) ∧ (oS s' (zO s) ≠ 1 → h'.1 99 (zO s) = nI (oB s' (zO s))) ∧ (oS s' (zO s) = 3 → h'.1 100 (zO s) = nI (oC s' (zO s))) ∧ (oS s' (zO s) = 1 ∨ oS s' (zO s) = 2 → h'.1 101 (zO s) = nI (s' 26 (zO s)) ∧ h'.1 102 (zO s) = nI (s' 27 (zO s)))) : DM s' h' := by
  obtain ⟨⟨d1, d2, d3, d4⟩, d5, d6, d7⟩ := D
  obtain ⟨z1, z2, z3, z4⟩ := hz
  have e : ∀ k i, 87 ≤ k → k < 97 → k ≠ 90 → h'.1 k i = h.1 k i := fun k i a1 a2 a3 => O.1 k i (by omega) (by omega) (by omega) (by omega) (by omega)
  refine ⟨⟨?_, ?_, ?_, ?_⟩, fun p hq => ?_, fun p hq => ?_, fun r hr => ?_⟩
  · rw [e 87 _ (by decide) (by decide) (by decide), z1]; exact d1
  · rw [e 88 _ (by decide) (by decide) (by decide), z2]; exact d2
  · rw [e 89 _ (by decide) (by decide) (by decide), z3]; exact d3
  · rw [z4]; exact h90
  · rw [O.2, e 92 _ (by decide) (by decide) (by decide), e 93 _ (by decide) (by decide) (by decide), e 94 _ (by decide) (by decide) (by decide), show pN s' p = pN s p from hp 20 p (by omega), show pS s' p = pS s p from hp 5 p (by omega), hp 24 p (by omega), hp 25 p (by omega)]
    exact d5 p (by omega)
  · rw [O.2, e 96 _ (by decide) (by decide) (by decide), show kN s' p = kN s p from hp 22 p (by omega), show kW s' p = kW s p from hp 8 p (by omega)]
    exact d6 p (by omega)
  · by_cases c : r = zO s
    · subst c; exact hn
    · have hr : r < zO s := by omega
      have e2 : ∀ k, 97 ≤ k → k ≤ 102 → h'.1 k r = h.1 k r := fun k a1 a2 => O.1 k r (by omega) (by omega) (by omega) (by omega) (by omega)
      rw [e2 97 (by decide) (by decide), e2 98 (by decide) (by decide), e2 99 (by decide) (by decide), e2 100 (by decide) (by decide), e2 101 (by decide) (by decide), e2 102 (by decide) (by decide), show oS s' r = oS s r from ho 12 r hr (by omega), show oA s' r = oA s r from ho 13 r hr (by omega), show oB s' r = oB s r from ho 14 r hr (by omega), show oC s' r = oC s r from ho 15 r hr (by omega), ho 26 r hr (by omega), ho 27 r hr (by omega)]
      exact d7 r hr
theorem DM.w9 {k : Nat} {x : Int32} (D : DM s h) (hk : 97 ≤ k ∧ k ≤ 102) : DM s (wI h k (zO s) x) := by
  obtain ⟨⟨d1, d2, d3, d4⟩, d5, d6, d7⟩ := D
  have e : ∀ k' i, 87 ≤ k' → k' < 97 → (wI h k (zO s) x).1 k' i = h.1 k' i := fun k' i a1 a2 => by rw [wI_ne _ _ _ (by omega)]
  refine ⟨⟨?_, ?_, ?_, ?_⟩, fun p hq => ?_, fun p hq => ?_, fun r hr => ?_⟩
  · rw [e 87 _ (by decide) (by decide)]; exact d1
  · rw [e 88 _ (by decide) (by decide)]; exact d2
  · rw [e 89 _ (by decide) (by decide)]; exact d3
  · rw [e 90 _ (by decide) (by decide)]; exact d4
  · rw [e 92 _ (by decide) (by decide), e 93 _ (by decide) (by decide), e 94 _ (by decide) (by decide)]; exact d5 p hq
  · rw [e 96 _ (by decide) (by decide)]; exact d6 p hq
  · have e2 : ∀ k', (wI h k (zO s) x).1 k' r = h.1 k' r := fun k' => by
      by_cases c : k' = k
      · subst c; rw [wI_ne2 _ _ (by omega)]
      · rw [wI_ne _ _ _ c]
    rw [e2, e2, e2, e2, e2, e2]; exact d7 r hr
def PB (b : Nat → Nat) (n j : Nat) (C : List Nat) (s : ST) (h' : HP) : Prop := ∃ o i' C' s', LZ b n o i' h' ∧ (o = none → CM C' h' ∧ DM s' h' ∧ C'.length ≤ i' ∧ j < i') ∧ qGo b n (7, j, [], 0, C, s) (fin (ch o (ckS b n i' 59)) (7, i' + 1, [], 0, C', s'))
theorem PB.f {j f p : Nat} (L : LF f p h) (go : qGo b n (7, j, [], 0, C, s) (flt f p)) : PB b n j C s h := ⟨some (f, p), j, C, s, L, (fun z => by cases z), go⟩
theorem m_turn {j : Nat} (M : ML b n (j + 1) h) (D : DM s h) (G : GM s) (c : CM C h) (hl : C.length ≤ j) (hO : zO s < 60) (hS : qst b n (7, j, [], 0, C, s) = fin (foT b n s j) (3, j + 3, [], 0, C, sU (adO s 1 (kfi b n s (j + 1)) 0 0) 26 (zO s) C.length)) : ∃ w h', Run 8 j_M_other [.ref 65, .int 1] h w h' ∧ (w = none ∧ MX h h' ∧ PB b n j C s h') := by
  refine Run.ofP rfl ?_
  refine Wp.norm (L' := [_, _, _]) rfl ?_
  generalize hQQ : (fun (w : Option Value) (h' : HP) => w = none ∧ MX h h' ∧ PB b n j C s h') = QQ
  have eO := D.1.2.2.2
  have hC : ckC b n (zO s) 60 j = none := by unfold ckC; rw [if_pos hO]
  have F0 : MX h (wI h 97 (zO s) 1) := (MX.rfl h).w (by decide) hO
  have O0 : OW (zO s) h (wI h 97 (zO s) 1) := (OW.rfl _ h).w (by decide)
  obtain ⟨y1, h1, r1, F1, X1, e1⟩ := m_kindTold (s := s) (i := j + 1) (o := none) (h := wI h 97 (zO s) 1) (M.wx (by decide)) (fun _ => ⟨D.w9 (by decide), G⟩)
  rw [ch_n] at X1 e1
  generalize ho1 : ckK b n s (j + 1) = o1 at X1 e1
  have X1' : LZ b n o1 (j + 2) (wI h1 98 (zO s) y1) := LZ.wx X1 (by decide)
  have c1 : CM C (wI h1 98 (zO s) y1) := ((c.wx (k := 97) (by decide) (by decide)).lx F1).wx (by decide) (by decide)
  generalize hs1 : sU (adO s 1 (kfi b n s (j + 1)) 0 0) 26 (zO s) C.length = s1 at hS
  obtain ⟨w2, h2, r2, rfl, F2, T2⟩ := m_tested s1 X1' (fun _ => ⟨c1, by omega⟩) hO
  have FF : MX h h2 := ((F0.trans F1.mx).w (k := 98) (by decide) hO).trans F2
  have hfo : foT b n s j = ch o1 (ckO b n (j + 2) 8) := by unfold foT; rw [hC, ch_n, ho1]
  rw [hfo] at hS
  have e90 : h2.1 90 0 = nI (zO s) → Wp 8 j_M_other 139 [.ref 65, .int 1, .int (nI (zO s))] [] h2 QQ → Wp 8 j_M_other 0 [.ref 65, .int 1, .null] [] h QQ := fun e90 ih => by
    repeat (first | (refine W1 rfl ?_; try refine Wp.norm (L' := [_, _, _]) rfl ?_) | ((first | change (_ → _) ∧ (_ → _) | change vp_in _ _ ∧ _ | change ¬ _ ∧ _); simp (disch := omega) only [nI_clamp, nI_leI, nI_ltI, nI_eq, nI_1, nI_add, nI_not_neg, nI_is_pos, nI_m1, nI_z, eO, i32_c0]) | refine brT (by first | assumption | decide | omega) ?_ | refine brF (by first | assumption | decide | omega) ?_ | refine brTn (by first | assumption | decide | omega) ?_ | refine brFn (by first | assumption | decide | omega) ?_ | refine And.intro (vp_in_nI (by omega) (by decide)) ?_ | refine And.intro (vp_lit (by decide)) ?_ | refine divJ (by decide) ?_ | refine divI (by decide) ?_)
    try change _ ∧ _
    refine Cl.of r1 (by decide) ?_
    repeat (first | (refine W1 rfl ?_; try refine Wp.norm (L' := [_, _, _]) rfl ?_) | ((first | change (_ → _) ∧ (_ → _) | change vp_in _ _ ∧ _ | change ¬ _ ∧ _); simp (disch := omega) only [nI_clamp, nI_leI, nI_ltI, nI_eq, nI_1, nI_add, nI_not_neg, nI_is_pos, nI_m1, nI_z, eO, i32_c0]) | refine brT (by first | assumption | decide | omega) ?_ | refine brF (by first | assumption | decide | omega) ?_ | refine brTn (by first | assumption | decide | omega) ?_ | refine brFn (by first | assumption | decide | omega) ?_ | refine And.intro (vp_in_nI (by omega) (by decide)) ?_ | refine And.intro (vp_lit (by decide)) ?_ | refine divJ (by decide) ?_ | refine divI (by decide) ?_)
    try change _ ∧ _
    refine Cl.of r2 (by decide) ?_
    repeat (first | refine Wp.at ih rfl rfl ?_ rfl | (refine W1 rfl ?_; try refine Wp.norm (L' := [_, _, _]) rfl ?_) | ((first | change (_ → _) ∧ (_ → _) | change vp_in _ _ ∧ _ | change ¬ _ ∧ _); simp (disch := omega) only [nI_clamp, nI_leI, nI_ltI, nI_eq, nI_1, nI_add, nI_not_neg, nI_is_pos, nI_m1, nI_z]) | refine brT (by first | assumption | decide | omega) ?_ | refine brF (by first | assumption | decide | omega) ?_ | refine brTn (by first | assumption | decide | omega) ?_ | refine brFn (by first | assumption | decide | omega) ?_ | refine And.intro (vp_in_nI (by omega) (by decide)) ?_ | refine And.intro (vp_lit (by decide)) ?_ | refine divJ (by decide) ?_ | refine divI (by decide) ?_)
    try change _ ∧ _
    first | done | rfl | (simp (disch := omega) only [nI_1, nI_add, nI_clamp] <;> first | done | rfl)
  rcases T2 with ⟨i', C', hn, M2, c2, hl2, hi2, N2, go⟩ | ⟨f, p, L, hor⟩
  · have z1 := ch_none1 hn
    obtain ⟨a1, k1⟩ := e1 z1
    subst a1
    have O2 : OW (zO s) h h2 := (((((O0.nf F1.nf).w (k := 98) (x := nI (kfi b n s (j + 1))) (by decide)).w (k := 101) (x := nI C.length) (by decide)).w (k := 102) (x := nI C'.length) (by decide)).nf N2)
    have v97 : h2.1 97 (zO s) = nI 1 := by
      rw [N2.1 97 _ (by decide) (by decide) (by decide), wI_ne _ _ _ (by decide), wI_ne _ _ _ (by decide), wI_ne _ _ _ (by decide), F1.ne.1 97 _ (by decide), wI_same]; rfl
    have v98 : h2.1 98 (zO s) = nI (kfi b n s (j + 1)) := by
      rw [N2.1 98 _ (by decide) (by decide) (by decide), wI_ne _ _ _ (by decide), wI_ne _ _ _ (by decide), wI_same]
    have v101 : h2.1 101 (zO s) = nI C.length := by
      rw [N2.1 101 _ (by decide) (by decide) (by decide), wI_ne _ _ _ (by decide), wI_same]
    have v102 : h2.1 102 (zO s) = nI C'.length := by
      rw [N2.1 102 _ (by decide) (by decide) (by decide), wI_same]
    have v90 : h2.1 90 0 = nI (zO s) := by
      rw [N2.1 90 _ (by decide) (by decide) (by decide), wI_ne _ _ _ (by decide), wI_ne _ _ _ (by decide), wI_ne _ _ _ (by decide), F1.ne.1 90 _ (by decide), wI_ne _ _ _ (by decide)]; exact eO
    have D2 : DM (clo s1 C'.length) (wI h2 90 0 (nI (zO s + 1))) := by
      rw [← hs1]
      refine D.oth ⟨rfl, rfl, rfl, rfl⟩ (fun a p ha => ?_) (fun a r hr ha => ?_) O2.o rfl ⟨?_, ?_, fun z => ?_, fun z => ?_, fun _ => ⟨?_, ?_⟩⟩
      · rcases ha with rfl | rfl | rfl | rfl | rfl | rfl <;> rfl
      · have : r ≠ zO s := by omega
        rcases ha with rfl | rfl | rfl | rfl | rfl | rfl <;> simp [clo, adO, sU, this]
      · rw [wI_ne _ _ _ (by decide), v97]; simp [clo, adO, sU]
      · rw [wI_ne _ _ _ (by decide), v98]; simp [clo, adO, sU]
      · exact absurd (show oS (clo (sU (adO s 1 (kfi b n s (j + 1)) 0 0) 26 (zO s) C.length) C'.length) (zO s) = 1 by simp [clo, adO, sU]) z
      · exact absurd z (by simp [clo, adO, sU])
      · rw [wI_ne _ _ _ (by decide), v101]; simp [clo, adO, sU]
      · rw [wI_ne _ _ _ (by decide), v102]; simp [clo, adO, sU]
    refine e90 v90 ?_
    show Wp 8 j_M_other _ _ _ _ _
    repeat (first | (refine W1 rfl ?_; try refine Wp.norm (L' := [_, _, _]) rfl ?_) | ((first | change (_ → _) ∧ (_ → _) | change vp_in _ _ ∧ _ | change ¬ _ ∧ _); simp (disch := omega) only [nI_clamp, nI_leI, nI_ltI, nI_eq, nI_1, nI_add, nI_not_neg, nI_is_pos, nI_m1, nI_z, v90, i32_c0]) | refine brT (by first | assumption | decide | omega) ?_ | refine brF (by first | assumption | decide | omega) ?_ | refine brTn (by first | assumption | decide | omega) ?_ | refine brFn (by first | assumption | decide | omega) ?_ | refine And.intro (vp_in_nI (by omega) (by decide)) ?_ | refine And.intro (vp_lit (by decide)) ?_ | refine divJ (by decide) ?_ | refine divI (by decide) ?_)
    try change _ ∧ _
    try simp (disch := omega) only [v90, i32_c0, nI_1, nI_add]
    rw [← hQQ]
    refine ⟨rfl, FF.w (k := 90) (by decide) (by decide), none, i', C', clo s1 C'.length, M2.wx (by decide), fun _ => ⟨c2.wx (by decide) (by decide), D2, hl2, by omega⟩, ?_⟩
    rw [hn] at hS
    exact ((qGo.one hS).trans go).trans (qGo.one q6)
  · have v90 : True := trivial
    have ih : Wp 8 j_M_other 139 [.ref 65, .int 1, .int (nI (zO s))] [] h2 QQ := by
      repeat (first | (refine W1 rfl ?_; try refine Wp.norm (L' := [_, _, _]) rfl ?_) | ((first | change (_ → _) ∧ (_ → _) | change vp_in _ _ ∧ _ | change ¬ _ ∧ _); simp (disch := omega) only [nI_clamp, nI_leI, nI_ltI, nI_eq, nI_1, nI_add, nI_not_neg, nI_is_pos, nI_m1, nI_z, i32_c0]) | refine brT (by first | assumption | decide | omega) ?_ | refine brF (by first | assumption | decide | omega) ?_ | refine brTn (by first | assumption | decide | omega) ?_ | refine brFn (by first | assumption | decide | omega) ?_ | refine And.intro (vp_in_nI (by omega) (by decide)) ?_ | refine And.intro (vp_lit (by decide)) ?_ | refine divJ (by decide) ?_ | refine divI (by decide) ?_)
      try change _ ∧ _
      rw [← hQQ]
      refine ⟨rfl, FF.w (k := 90) (by decide) (by decide), PB.f (L.wx (by decide)) ?_⟩
      rcases hor with z | ⟨z, go⟩
      · rw [z] at hS; exact qGo.one hS
      · rw [z] at hS; exact (qGo.one hS).trans go
    show Wp 8 j_M_other _ _ _ _ _
    repeat (first | (refine W1 rfl ?_; try refine Wp.norm (L' := [_, _, _]) rfl ?_) | ((first | change (_ → _) ∧ (_ → _) | change vp_in _ _ ∧ _ | change ¬ _ ∧ _); simp (disch := omega) only [nI_clamp, nI_leI, nI_ltI, nI_eq, nI_1, nI_add, nI_not_neg, nI_is_pos, nI_m1, nI_z, eO, i32_c0]) | refine brT (by first | assumption | decide | omega) ?_ | refine brF (by first | assumption | decide | omega) ?_ | refine brTn (by first | assumption | decide | omega) ?_ | refine brFn (by first | assumption | decide | omega) ?_ | refine And.intro (vp_in_nI (by omega) (by decide)) ?_ | refine And.intro (vp_lit (by decide)) ?_ | refine divJ (by decide) ?_ | refine divI (by decide) ?_)
    try change _ ∧ _
    refine Cl.of r1 (by decide) ?_
    repeat (first | (refine W1 rfl ?_; try refine Wp.norm (L' := [_, _, _]) rfl ?_) | ((first | change (_ → _) ∧ (_ → _) | change vp_in _ _ ∧ _ | change ¬ _ ∧ _); simp (disch := omega) only [nI_clamp, nI_leI, nI_ltI, nI_eq, nI_1, nI_add, nI_not_neg, nI_is_pos, nI_m1, nI_z, eO, i32_c0]) | refine brT (by first | assumption | decide | omega) ?_ | refine brF (by first | assumption | decide | omega) ?_ | refine brTn (by first | assumption | decide | omega) ?_ | refine brFn (by first | assumption | decide | omega) ?_ | refine And.intro (vp_in_nI (by omega) (by decide)) ?_ | refine And.intro (vp_lit (by decide)) ?_ | refine divJ (by decide) ?_ | refine divI (by decide) ?_)
    try change _ ∧ _
    refine Cl.of r2 (by decide) ?_
    repeat (first | refine Wp.at ih rfl rfl ?_ rfl | (refine W1 rfl ?_; try refine Wp.norm (L' := [_, _, _]) rfl ?_) | ((first | change (_ → _) ∧ (_ → _) | change vp_in _ _ ∧ _ | change ¬ _ ∧ _); simp (disch := omega) only [nI_clamp, nI_leI, nI_ltI, nI_eq, nI_1, nI_add, nI_not_neg, nI_is_pos, nI_m1, nI_z]) | refine brT (by first | assumption | decide | omega) ?_ | refine brF (by first | assumption | decide | omega) ?_ | refine brTn (by first | assumption | decide | omega) ?_ | refine brFn (by first | assumption | decide | omega) ?_ | refine And.intro (vp_in_nI (by omega) (by decide)) ?_ | refine And.intro (vp_lit (by decide)) ?_ | refine divJ (by decide) ?_ | refine divI (by decide) ?_)
    try change _ ∧ _
    first | done | rfl | (simp (disch := omega) only [nI_1, nI_add, nI_clamp] <;> first | done | rfl)
theorem m_never {j : Nat} (M : ML b n (j + 1) h) (D : DM s h) (G : GM s) (c : CM C h) (hl : C.length ≤ j) (hO : zO s < 60) (hS : qst b n (7, j, [], 0, C, s) = fin (foV b n s j) (3, j + 4, [], 0, C, sU (adO s 2 (pfi s b n (j + 1)) (kfi b n s (j + 2)) 0) 26 (zO s) C.length)) : ∃ w h', Run 8 j_M_other [.ref 65, .int 2] h w h' ∧ (w = none ∧ MX h h' ∧ PB b n j C s h') := by
  refine Run.ofP rfl ?_
  refine Wp.norm (L' := [_, _, _]) rfl ?_
  generalize hQQ : (fun (w : Option Value) (h' : HP) => w = none ∧ MX h h' ∧ PB b n j C s h') = QQ
  have eO := D.1.2.2.2
  have hC : ckC b n (zO s) 60 j = none := by unfold ckC; rw [if_pos hO]
  have F0 : MX h (wI h 97 (zO s) 2) := (MX.rfl h).w (by decide) hO
  have O0 : OW (zO s) h (wI h 97 (zO s) 2) := (OW.rfl _ h).w (by decide)
  obtain ⟨y5, h5, r5, F5, X5, e5⟩ := m_personTold (s := s) (i := j + 1) (o := none) (but := 99) (x := -1) (h := wI h 97 (zO s) 2) (M.wx (by decide)) (fun _ => ⟨D.w9 (by decide), G⟩) (fun _ => Or.inl ⟨rfl, rfl⟩)
  rw [ch_n] at X5 e5
  generalize ho5 : ckP b n s (j + 1) 99 = o5 at X5 e5
  have X5' : LZ b n o5 (j + 2) (wI h5 98 (zO s) y5) := LZ.wx X5 (by decide)
  have c5 : CM C (wI h5 98 (zO s) y5) := ((c.wx (k := 97) (by decide) (by decide)).lx F5).wx (by decide) (by decide)
  have D5 : DM s (wI h5 98 (zO s) y5) := ((D.w9 (k := 97) (by decide)).lx F5).w9 (by decide)
  obtain ⟨y1, h1, r1, F1, X1, e1⟩ := m_kindTold (s := s) (i := j + 2) (o := o5) X5' (fun _ => ⟨D5, G⟩)
  generalize ho1 : ch o5 (ckK b n s (j + 2)) = o1 at X1 e1
  have X1' : LZ b n o1 (j + 3) (wI h1 99 (zO s) y1) := LZ.wx X1 (by decide)
  have c1 : CM C (wI h1 99 (zO s) y1) := (c5.lx F1).wx (by decide) (by decide)
  generalize hs1 : sU (adO s 2 (pfi s b n (j + 1)) (kfi b n s (j + 2)) 0) 26 (zO s) C.length = s1 at hS
  obtain ⟨w2, h2, r2, rfl, F2, T2⟩ := m_tested s1 X1' (fun _ => ⟨c1, by omega⟩) hO
  have FF : MX h h2 := ((((F0.trans F5.mx).w (k := 98) (by decide) hO).trans F1.mx).w (k := 99) (by decide) hO).trans F2
  have hfo : foV b n s j = ch o1 (ckO b n (j + 3) 8) := by unfold foV; rw [hC, ch_n, ho5, ho1]
  rw [hfo] at hS
  have e90 : Wp 8 j_M_other 139 [.ref 65, .int 2, .int (nI (zO s))] [] h2 QQ → Wp 8 j_M_other 0 [.ref 65, .int 2, .null] [] h QQ := fun ih => by
    repeat (first | (refine W1 rfl ?_; try refine Wp.norm (L' := [_, _, _]) rfl ?_) | ((first | change (_ → _) ∧ (_ → _) | change vp_in _ _ ∧ _ | change ¬ _ ∧ _); simp (disch := omega) only [nI_clamp, nI_leI, nI_ltI, nI_eq, nI_1, nI_add, nI_not_neg, nI_is_pos, nI_m1, nI_z, eO, i32_c0]) | refine brT (by first | assumption | decide | omega) ?_ | refine brF (by first | assumption | decide | omega) ?_ | refine brTn (by first | assumption | decide | omega) ?_ | refine brFn (by first | assumption | decide | omega) ?_ | refine And.intro (vp_in_nI (by omega) (by decide)) ?_ | refine And.intro (vp_lit (by decide)) ?_ | refine divJ (by decide) ?_ | refine divI (by decide) ?_)
    try change _ ∧ _
    refine Cl.of r5 (by decide) ?_
    repeat (first | (refine W1 rfl ?_; try refine Wp.norm (L' := [_, _, _]) rfl ?_) | ((first | change (_ → _) ∧ (_ → _) | change vp_in _ _ ∧ _ | change ¬ _ ∧ _); simp (disch := omega) only [nI_clamp, nI_leI, nI_ltI, nI_eq, nI_1, nI_add, nI_not_neg, nI_is_pos, nI_m1, nI_z, eO, i32_c0]) | refine brT (by first | assumption | decide | omega) ?_ | refine brF (by first | assumption | decide | omega) ?_ | refine brTn (by first | assumption | decide | omega) ?_ | refine brFn (by first | assumption | decide | omega) ?_ | refine And.intro (vp_in_nI (by omega) (by decide)) ?_ | refine And.intro (vp_lit (by decide)) ?_ | refine divJ (by decide) ?_ | refine divI (by decide) ?_)
    try change _ ∧ _
    refine Cl.of r1 (by decide) ?_
    repeat (first | (refine W1 rfl ?_; try refine Wp.norm (L' := [_, _, _]) rfl ?_) | ((first | change (_ → _) ∧ (_ → _) | change vp_in _ _ ∧ _ | change ¬ _ ∧ _); simp (disch := omega) only [nI_clamp, nI_leI, nI_ltI, nI_eq, nI_1, nI_add, nI_not_neg, nI_is_pos, nI_m1, nI_z, eO, i32_c0]) | refine brT (by first | assumption | decide | omega) ?_ | refine brF (by first | assumption | decide | omega) ?_ | refine brTn (by first | assumption | decide | omega) ?_ | refine brFn (by first | assumption | decide | omega) ?_ | refine And.intro (vp_in_nI (by omega) (by decide)) ?_ | refine And.intro (vp_lit (by decide)) ?_ | refine divJ (by decide) ?_ | refine divI (by decide) ?_)
    try change _ ∧ _
    refine Cl.of r2 (by decide) ?_
    repeat (first | refine Wp.at ih rfl rfl ?_ rfl | (refine W1 rfl ?_; try refine Wp.norm (L' := [_, _, _]) rfl ?_) | ((first | change (_ → _) ∧ (_ → _) | change vp_in _ _ ∧ _ | change ¬ _ ∧ _); simp (disch := omega) only [nI_clamp, nI_leI, nI_ltI, nI_eq, nI_1, nI_add, nI_not_neg, nI_is_pos, nI_m1, nI_z]) | refine brT (by first | assumption | decide | omega) ?_ | refine brF (by first | assumption | decide | omega) ?_ | refine brTn (by first | assumption | decide | omega) ?_ | refine brFn (by first | assumption | decide | omega) ?_ | refine And.intro (vp_in_nI (by omega) (by decide)) ?_ | refine And.intro (vp_lit (by decide)) ?_ | refine divJ (by decide) ?_ | refine divI (by decide) ?_)
    try change _ ∧ _
    first | done | rfl | (simp (disch := omega) only [nI_1, nI_add, nI_clamp] <;> first | done | rfl)
  rcases T2 with ⟨i', C', hn, M2, c2, hl2, hi2, N2, go⟩ | ⟨f, p, L, hor⟩
  · have z1 := ch_none1 hn
    have z5 := ch_none1 (ho1.trans z1)
    obtain ⟨a1, k1⟩ := e1 z1
    obtain ⟨a5, k5, _⟩ := e5 z5
    subst a1
    subst a5
    have O2 : OW (zO s) h h2 := (((((((O0.nf F5.nf).w (k := 98) (x := nI (pfi s b n (j + 1))) (by decide)).nf F1.nf).w (k := 99) (x := nI (kfi b n s (j + 2))) (by decide)).w (k := 101) (x := nI C.length) (by decide)).w (k := 102) (x := nI C'.length) (by decide)).nf N2)
    have v97 : h2.1 97 (zO s) = nI 2 := by
      rw [N2.1 97 _ (by decide) (by decide) (by decide), wI_ne _ _ _ (by decide), wI_ne _ _ _ (by decide), wI_ne _ _ _ (by decide), F1.ne.1 97 _ (by decide), wI_ne _ _ _ (by decide), F5.ne.1 97 _ (by decide), wI_same]; rfl
    have v98 : h2.1 98 (zO s) = nI (pfi s b n (j + 1)) := by
      rw [N2.1 98 _ (by decide) (by decide) (by decide), wI_ne _ _ _ (by decide), wI_ne _ _ _ (by decide), wI_ne _ _ _ (by decide), F1.ne.1 98 _ (by decide), wI_same]
    have v99 : h2.1 99 (zO s) = nI (kfi b n s (j + 2)) := by
      rw [N2.1 99 _ (by decide) (by decide) (by decide), wI_ne _ _ _ (by decide), wI_ne _ _ _ (by decide), wI_same]
    have v101 : h2.1 101 (zO s) = nI C.length := by
      rw [N2.1 101 _ (by decide) (by decide) (by decide), wI_ne _ _ _ (by decide), wI_same]
    have v102 : h2.1 102 (zO s) = nI C'.length := by
      rw [N2.1 102 _ (by decide) (by decide) (by decide), wI_same]
    have v90 : h2.1 90 0 = nI (zO s) := by
      rw [N2.1 90 _ (by decide) (by decide) (by decide), wI_ne _ _ _ (by decide), wI_ne _ _ _ (by decide), wI_ne _ _ _ (by decide), F1.ne.1 90 _ (by decide), wI_ne _ _ _ (by decide), F5.ne.1 90 _ (by decide), wI_ne _ _ _ (by decide)]; exact eO
    have D2 : DM (clo s1 C'.length) (wI h2 90 0 (nI (zO s + 1))) := by
      rw [← hs1]
      refine D.oth ⟨rfl, rfl, rfl, rfl⟩ (fun a p ha => ?_) (fun a r hr ha => ?_) O2.o rfl ⟨?_, ?_, fun z => ?_, fun z => ?_, fun _ => ⟨?_, ?_⟩⟩
      · rcases ha with rfl | rfl | rfl | rfl | rfl | rfl <;> rfl
      · have : r ≠ zO s := by omega
        rcases ha with rfl | rfl | rfl | rfl | rfl | rfl <;> simp [clo, adO, sU, this]
      · rw [wI_ne _ _ _ (by decide), v97]; simp [clo, adO, sU]
      · rw [wI_ne _ _ _ (by decide), v98]; simp [clo, adO, sU]
      · rw [wI_ne _ _ _ (by decide), v99]; simp [clo, adO, sU]
      · exact absurd z (by simp [clo, adO, sU])
      · rw [wI_ne _ _ _ (by decide), v101]; simp [clo, adO, sU]
      · rw [wI_ne _ _ _ (by decide), v102]; simp [clo, adO, sU]
    refine e90 ?_
    show Wp 8 j_M_other _ _ _ _ _
    repeat (first | (refine W1 rfl ?_; try refine Wp.norm (L' := [_, _, _]) rfl ?_) | ((first | change (_ → _) ∧ (_ → _) | change vp_in _ _ ∧ _ | change ¬ _ ∧ _); simp (disch := omega) only [nI_clamp, nI_leI, nI_ltI, nI_eq, nI_1, nI_add, nI_not_neg, nI_is_pos, nI_m1, nI_z, v90, i32_c0]) | refine brT (by first | assumption | decide | omega) ?_ | refine brF (by first | assumption | decide | omega) ?_ | refine brTn (by first | assumption | decide | omega) ?_ | refine brFn (by first | assumption | decide | omega) ?_ | refine And.intro (vp_in_nI (by omega) (by decide)) ?_ | refine And.intro (vp_lit (by decide)) ?_ | refine divJ (by decide) ?_ | refine divI (by decide) ?_)
    try change _ ∧ _
    try simp (disch := omega) only [v90, i32_c0, nI_1, nI_add]
    rw [← hQQ]
    refine ⟨rfl, FF.w (k := 90) (by decide) (by decide), none, i', C', clo s1 C'.length, M2.wx (by decide), fun _ => ⟨c2.wx (by decide) (by decide), D2, hl2, by omega⟩, ?_⟩
    rw [hn] at hS
    exact ((qGo.one hS).trans go).trans (qGo.one q6)
  · refine e90 ?_
    show Wp 8 j_M_other _ _ _ _ _
    repeat (first | (refine W1 rfl ?_; try refine Wp.norm (L' := [_, _, _]) rfl ?_) | ((first | change (_ → _) ∧ (_ → _) | change vp_in _ _ ∧ _ | change ¬ _ ∧ _); simp (disch := omega) only [nI_clamp, nI_leI, nI_ltI, nI_eq, nI_1, nI_add, nI_not_neg, nI_is_pos, nI_m1, nI_z, i32_c0]) | refine brT (by first | assumption | decide | omega) ?_ | refine brF (by first | assumption | decide | omega) ?_ | refine brTn (by first | assumption | decide | omega) ?_ | refine brFn (by first | assumption | decide | omega) ?_ | refine And.intro (vp_in_nI (by omega) (by decide)) ?_ | refine And.intro (vp_lit (by decide)) ?_ | refine divJ (by decide) ?_ | refine divI (by decide) ?_)
    try change _ ∧ _
    rw [← hQQ]
    refine ⟨rfl, FF.w (k := 90) (by decide) (by decide), PB.f (L.wx (by decide)) ?_⟩
    rcases hor with z | ⟨z, go⟩
    · rw [z] at hS; exact qGo.one hS
    · rw [z] at hS; exact (qGo.one hS).trans go
end MOT
