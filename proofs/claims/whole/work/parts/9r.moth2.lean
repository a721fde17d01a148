/-! ===== THE MODEL READS STATEMENTS: rests, pairs ===== -/
section MOU
variable {b : Nat → Nat} {n i : Nat} {h h' : HP} {s : ST} {C W V : List Nat} {B d : Nat}
theorem m_rest {j : Nat} (M : ML b n (j + 1) h) (D : DM s h) (G : GM s) (c : CM C h) (hl : C.length ≤ j) (hO : zO s < 60) (hS : qst b n (7, j, [], 0, C, s) = fin (foR b n s j) (7, j + 5, [], 0, C, adR s (kfi b n s (j + 1)) (kfi b n s (j + 2)) (tV b n (j + 3)))) : ∃ w h', Run 8 j_M_other [.ref 65, .int 3] h w h' ∧ (w = none ∧ MX h h' ∧ PB b n j C s h') := by
  refine Run.ofP rfl ?_
  refine Wp.norm (L' := [_, _, _]) rfl ?_
  generalize hQQ : (fun (w : Option Value) (h' : HP) => w = none ∧ MX h h' ∧ PB b n j C s h') = QQ
  have eO := D.1.2.2.2
  have hC : ckC b n (zO s) 60 j = none := by unfold ckC; rw [if_pos hO]
  have F0 : MX h (wI h 97 (zO s) 3) := (MX.rfl h).w (by decide) hO
  have O0 : OW (zO s) h (wI h 97 (zO s) 3) := (OW.rfl _ h).w (by decide)
  obtain ⟨y5, h5, r5, F5, X5, e5⟩ := m_kindTold (s := s) (i := j + 1) (o := none) (h := wI h 97 (zO s) 3) (M.wx (by decide)) (fun _ => ⟨D.w9 (by decide), G⟩)
  rw [ch_n] at X5 e5
  generalize ho5 : ckK b n s (j + 1) = o5 at X5 e5
  have X5' : LZ b n o5 (j + 2) (wI h5 98 (zO s) y5) := LZ.wx X5 (by decide)
  have c5 : CM C (wI h5 98 (zO s) y5) := ((c.wx (k := 97) (by decide) (by decide)).lx F5).wx (by decide) (by decide)
  have D5 : DM s (wI h5 98 (zO s) y5) := ((D.w9 (k := 97) (by decide)).lx F5).w9 (by decide)
  obtain ⟨y1, h1, r1, F1, X1, e1⟩ := m_kindTold (s := s) (i := j + 2) (o := o5) X5' (fun _ => ⟨D5, G⟩)
  generalize ho1 : ch o5 (ckK b n s (j + 2)) = o1 at X1 e1
  have X1' : LZ b n o1 (j + 3) (wI h1 99 (zO s) y1) := LZ.wx X1 (by decide)
  have c1 : CM C (wI h1 99 (zO s) y1) := (c5.lx F1).wx (by decide) (by decide)
  obtain ⟨_, h2, r2, y2, rfl, F2, X2, e2⟩ := m_number (l := 1) (u := 30) X1' (by decide) (by decide)
  generalize ho2 : ch o1 (ckN b n (j + 3) 1 30) = o2 at X2 e2
  have X2 : LZ b n o2 (j + 4) h2 := X2
  have X2' : LZ b n o2 (j + 4) (wI h2 100 (zO s) y2) := LZ.wx X2 (by decide)
  have c2 : CM C (wI h2 100 (zO s) y2) := (c1.lx F2).wx (by decide) (by decide)
  have FF : MX h (wI h2 100 (zO s) y2) := ((((((F0.trans F5.mx).w (k := 98) (by decide) hO).trans F1.mx).w (k := 99) (by decide) hO).trans F2.mx).w (k := 100) (by decide) hO)
  have hfo : foR b n s j = ch o2 (ckS b n (j + 4) 59) := by unfold foR; rw [hC, ch_n, ho5, ho1, ho2]
  rw [hfo] at hS
  have O2 : OW (zO s) h (wI h2 100 (zO s) y2) := (((((O0.nf F5.nf).w (k := 98) (x := y5) (by decide)).nf F1.nf).w (k := 99) (x := y1) (by decide)).nf F2.nf).w (k := 100) (by decide)
  have v90 : (wI h2 100 (zO s) y2).1 90 0 = nI (zO s) := by
    rw [wI_ne _ _ _ (by decide), F2.ne.1 90 _ (by decide), wI_ne _ _ _ (by decide), F1.ne.1 90 _ (by decide), wI_ne _ _ _ (by decide), F5.ne.1 90 _ (by decide), wI_ne _ _ _ (by decide)]; exact eO
  show Wp 8 j_M_other _ _ _ _ _
  repeat (first | (refine W1 rfl ?_; try refine Wp.norm (L' := [_, _, _]) rfl ?_) | ((first | change (_ → _) ∧ (_ → _) | change vp_in _ _ ∧ _ | change ¬ _ ∧ _); simp (disch := omega) only [nI_clamp, nI_leI, nI_ltI, nI_eq, nI_1, nI_add, nI_not_neg, nI_is_pos, nI_m1, nI_z, eO, i32_c0]) | refine brT (by first | assumption | decide | omega) ?_ | refine brF (by first | assumption | decide | omega) ?_ | refine brTn (by first | assumption | decide | omega) ?_ | refine brFn (by first | assumption | decide | omega) ?_ | refine And.intro (vp_in_nI (by omega) (by decide)) ?_ | refine And.intro (vp_lit (by decide)) ?_ | refine divJ (by decide) ?_ | refine divI (by decide) ?_)
  try change _ ∧ _
  refine Cl.of r5 (by decide) ?_
  repeat (first | (refine W1 rfl ?_; try refine Wp.norm (L' := [_, _, _]) rfl ?_) | ((first | change (_ → _) ∧ (_ → _) | change vp_in _ _ ∧ _ | change ¬ _ ∧ _); simp (disch := omega) only [nI_clamp, nI_leI, nI_ltI, nI_eq, nI_1, nI_add, nI_not_neg, nI_is_pos, nI_m1, nI_z, eO, i32_c0]) | refine brT (by first | assumption | decide | omega) ?_ | refine brF (by first | assumption | decide | omega) ?_ | refine brTn (by first | assumption | decide | omega) ?_ | refine brFn (by first | assumption | decide | omega) ?_ | refine And.intro (vp_in_nI (by omega) (by decide)) ?_ | refine And.intro (vp_lit (by decide)) ?_ | refine divJ (by decide) ?_ | refine divI (by decide) ?_)
  try change _ ∧ _
  refine Cl.of r1 (by decide) ?_
  repeat (first | (refine W1 rfl ?_; try refine Wp.norm (L' := [_, _, _]) rfl ?_) | ((first | change (_ → _) ∧ (_ → _) | change vp_in _ _ ∧ _ | change ¬ _ ∧ _); simp (disch := omega) only [nI_clamp, nI_leI, nI_ltI, nI_eq, nI_1, nI_add, nI_not_neg, nI_is_pos, nI_m1, nI_z, eO, i32_c0]) | refine brT (by first | assumption | decide | omega) ?_ | refine brF (by first | assumption | decide | omega) ?_ | refine brTn (by first | assumption | decide | omega) ?_ | refine brFn (by first | assumption | decide | omega) ?_ | refine And.intro (vp_in_nI (by omega) (by decide)) ?_ | refine And.intro (vp_lit (by decide)) ?_ | refine divJ (by decide) ?_ | refine divI (by decide) ?_)
  try change _ ∧ _
  refine Cl.of r2 (by decide) ?_
  repeat (first | (refine W1 rfl ?_; try refine Wp.norm (L' := [_, _, _]) rfl ?_) | ((first | change (_ → _) ∧ (_ → _) | change vp_in _ _ ∧ _ | change ¬ _ ∧ _); simp (disch := omega) only [nI_clamp, nI_leI, nI_ltI, nI_eq, nI_1, nI_add, nI_not_neg, nI_is_pos, nI_m1, nI_z, eO, i32_c0, v90]) | refine brT (by first | assumption | decide | omega) ?_ | refine brF (by first | assumption | decide | omega) ?_ | refine brTn (by first | assumption | decide | omega) ?_ | refine brFn (by first | assumption | decide | omega) ?_ | refine And.intro (vp_in_nI (by omega) (by decide)) ?_ | refine And.intro (vp_lit (by decide)) ?_ | refine divJ (by decide) ?_ | refine divI (by decide) ?_)
  try change _ ∧ _
  try simp (disch := omega) only [v90, i32_c0, nI_1, nI_add]
  rw [← hQQ]
  refine ⟨rfl, FF.w (k := 90) (by decide) (by decide), o2, j + 4, C, _, LZ.wx X2' (by decide), fun z => ?_, qGo.one hS⟩
  have z1 := ch_none1 (ho2.trans z)
  have z5 := ch_none1 (ho1.trans z1)
  have a2 := (e2 z).1
  have a1 := (e1 z1).1
  have a5 := (e5 z5).1
  subst a1
  subst a2
  subst a5
  refine ⟨c2.wx (by decide) (by decide), ?_, by omega, by omega⟩
  refine D.oth ⟨rfl, rfl, rfl, rfl⟩ (fun a p ha => ?_) (fun a r hr ha => ?_) O2.o rfl ⟨?_, ?_, fun z => ?_, fun z => ?_, fun z => ?_⟩
  · rcases ha with rfl | rfl | rfl | rfl | rfl | rfl <;> rfl
  · have : r ≠ zO s := by omega
    rcases ha with rfl | rfl | rfl | rfl | rfl | rfl <;> simp [adR, adO, sU, this]
  · rw [wI_ne _ _ _ (by decide), wI_ne _ _ _ (by decide), F2.ne.1 97 _ (by decide), wI_ne _ _ _ (by decide), F1.ne.1 97 _ (by decide), wI_ne _ _ _ (by decide), F5.ne.1 97 _ (by decide), wI_same]; simp [adR, adO, sU]; rfl
  · rw [wI_ne _ _ _ (by decide), wI_ne _ _ _ (by decide), F2.ne.1 98 _ (by decide), wI_ne _ _ _ (by decide), F1.ne.1 98 _ (by decide), wI_same]; simp [adR, adO, sU]
  · rw [wI_ne _ _ _ (by decide), wI_ne _ _ _ (by decide), F2.ne.1 99 _ (by decide), wI_same]; simp [adR, adO, sU]
  · rw [wI_ne _ _ _ (by decide), wI_same]; simp [adR, adO, sU]
  · exfalso
    have : oS (adR s (kfi b n s (j + 1)) (kfi b n s (j + 2)) (tV b n (j + 3))) (zO s) = 3 := by simp [adR, adO, sU]
    omega
theorem m_pair {j w : Nat} (hw : w = 4 ∨ w = 5) (M : ML b n (j + 1) h) (D : DM s h) (G : GM s) (c : CM C h) (hl : C.length ≤ j) (hO : zO s < 60) (hS : qst b n (7, j, [], 0, C, s) = fin (foJ b n s j) (7, j + 4, [], 0, C, adJ s w (pfi s b n (j + 1)) (pfi s b n (j + 2)))) : ∃ v h', Run 8 j_M_other [.ref 65, .int (nI w)] h v h' ∧ (v = none ∧ MX h h' ∧ PB b n j C s h') := by
  refine Run.ofP rfl ?_
  refine Wp.norm (L' := [_, _, _]) rfl ?_
  generalize hQQ : (fun (w : Option Value) (h' : HP) => w = none ∧ MX h h' ∧ PB b n j C s h') = QQ
  have eO := D.1.2.2.2
  have hP := G.1.1.1
  have hC : ckC b n (zO s) 60 j = none := by unfold ckC; rw [if_pos hO]
  have F0 : MX h (wI h 97 (zO s) (nI w)) := (MX.rfl h).w (by decide) hO
  have O0 : OW (zO s) h (wI h 97 (zO s) (nI w)) := (OW.rfl _ h).w (by decide)
  obtain ⟨y5, h5, r5, F5, X5, e5⟩ := m_personTold (s := s) (i := j + 1) (o := none) (but := 99) (x := -1) (h := wI h 97 (zO s) (nI w)) (M.wx (by decide)) (fun _ => ⟨D.w9 (by decide), G⟩) (fun _ => Or.inl ⟨rfl, rfl⟩)
  rw [ch_n] at X5 e5
  generalize ho5 : ckP b n s (j + 1) 99 = o5 at X5 e5
  have X5' : LZ b n o5 (j + 2) (wI h5 98 (zO s) y5) := LZ.wx X5 (by decide)
  have c5 : CM C (wI h5 98 (zO s) y5) := ((c.wx (k := 97) (by decide) (by decide)).lx F5).wx (by decide) (by decide)
  have D5 : DM s (wI h5 98 (zO s) y5) := ((D.w9 (k := 97) (by decide)).lx F5).w9 (by decide)
  obtain ⟨y1, h1, r1, F1, X1, e1⟩ := m_personTold (s := s) (i := j + 2) (o := o5) (but := pfi s b n (j + 1)) (x := y5) X5' (fun _ => ⟨D5, G⟩) (fun z => Or.inr ⟨by have := (e5 z).2.1; omega, (e5 z).1⟩)
  generalize ho1 : ch o5 (ckP b n s (j + 2) (pfi s b n (j + 1))) = o1 at X1 e1
  have X1' : LZ b n o1 (j + 3) (wI h1 99 (zO s) y1) := LZ.wx X1 (by decide)
  have c1 : CM C (wI h1 99 (zO s) y1) := (c5.lx F1).wx (by decide) (by decide)
  have e98 : (wI h5 98 (zO s) y5).1 98 (zO s) = y5 := wI_same _ _ _ _
  have FF : MX h (wI h1 99 (zO s) y1) := ((((F0.trans F5.mx).w (k := 98) (by decide) hO).trans F1.mx).w (k := 99) (by decide) hO)
  have hfo : foJ b n s j = ch o1 (ckS b n (j + 3) 59) := by unfold foJ; rw [hC, ch_n, ho5, ho1]
  rw [hfo] at hS
  have O2 : OW (zO s) h (wI h1 99 (zO s) y1) := (((O0.nf F5.nf).w (k := 98) (x := y5) (by decide)).nf F1.nf).w (k := 99) (x := y1) (by decide)
  have v90 : (wI h1 99 (zO s) y1).1 90 0 = nI (zO s) := by
    rw [wI_ne _ _ _ (by decide), F1.ne.1 90 _ (by decide), wI_ne _ _ _ (by decide), F5.ne.1 90 _ (by decide), wI_ne _ _ _ (by decide)]; exact eO
  have n1 : ¬ nI w = 1 := by rw [show (1 : Int32) = nI 1 from rfl, nI_eq (by omega) (by decide)]; omega
  have n2 : ¬ nI w = 2 := by rw [show (2 : Int32) = nI 2 from rfl, nI_eq (by omega) (by decide)]; omega
  have n3 : ¬ nI w = 3 := by rw [show (3 : Int32) = nI 3 from rfl, nI_eq (by omega) (by decide)]; omega
  show Wp 8 j_M_other _ _ _ _ _
  repeat (first | (refine W1 rfl ?_; try refine Wp.norm (L' := [_, _, _]) rfl ?_) | ((first | change (_ → _) ∧ (_ → _) | change vp_in _ _ ∧ _ | change ¬ _ ∧ _); simp (disch := omega) only [nI_clamp, nI_leI, nI_ltI, nI_eq, nI_1, nI_add, nI_not_neg, nI_is_pos, nI_m1, nI_z, eO, i32_c0]) | refine brT (by first | assumption | decide | omega) ?_ | refine brF (by first | assumption | decide | omega) ?_ | refine brTn (by first | assumption | decide | omega) ?_ | refine brFn (by first | assumption | decide | omega) ?_ | refine And.intro (vp_in_nI (by omega) (by decide)) ?_ | refine And.intro (vp_lit (by decide)) ?_ | refine divJ (by decide) ?_ | refine divI (by decide) ?_)
  try change _ ∧ _
  refine Cl.of r5 (by decide) ?_
  repeat (first | (refine W1 rfl ?_; try refine Wp.norm (L' := [_, _, _]) rfl ?_) | ((first | change (_ → _) ∧ (_ → _) | change vp_in _ _ ∧ _ | change ¬ _ ∧ _); simp (disch := omega) only [nI_clamp, nI_leI, nI_ltI, nI_eq, nI_1, nI_add, nI_not_neg, nI_is_pos, nI_m1, nI_z, eO, i32_c0, e98]) | refine brT (by first | assumption | decide | omega) ?_ | refine brF (by first | assumption | decide | omega) ?_ | refine brTn (by first | assumption | decide | omega) ?_ | refine brFn (by first | assumption | decide | omega) ?_ | refine And.intro (vp_in_nI (by omega) (by decide)) ?_ | refine And.intro (vp_lit (by decide)) ?_ | refine divJ (by decide) ?_ | refine divI (by decide) ?_)
  try change _ ∧ _
  refine Cl.ofA r1 (by first | done | rfl | (simp (disch := omega) only [nI_1, nI_add, nI_clamp, e98] <;> first | done | rfl)) (by decide) ?_
  repeat (first | (refine W1 rfl ?_; try refine Wp.norm (L' := [_, _, _]) rfl ?_) | ((first | change (_ → _) ∧ (_ → _) | change vp_in _ _ ∧ _ | change ¬ _ ∧ _); simp (disch := omega) only [nI_clamp, nI_leI, nI_ltI, nI_eq, nI_1, nI_add, nI_not_neg, nI_is_pos, nI_m1, nI_z, eO, i32_c0, v90]) | refine brT (by first | assumption | decide | omega) ?_ | refine brF (by first | assumption | decide | omega) ?_ | refine brTn (by first | assumption | decide | omega) ?_ | refine brFn (by first | assumption | decide | omega) ?_ | refine And.intro (vp_in_nI (by omega) (by decide)) ?_ | refine And.intro (vp_lit (by decide)) ?_ | refine divJ (by decide) ?_ | refine divI (by decide) ?_)
  try change _ ∧ _
  try simp (disch := omega) only [v90, i32_c0, nI_1, nI_add]
  rw [← hQQ]
  refine ⟨rfl, FF.w (k := 90) (by decide) (by decide), o1, j + 3, C, _, LZ.wx X1' (by decide), fun z => ?_, qGo.one hS⟩
  have z5 := ch_none1 (ho1.trans z)
  have a1 := (e1 z).1
  have a5 := (e5 z5).1
  subst a1
  subst a5
  refine ⟨c1.wx (by decide) (by decide), ?_, by omega, by omega⟩
  refine D.oth ⟨?_, ?_, ?_, ?_⟩ (fun a p ha => ?_) (fun a r hr ha => ?_) O2.o rfl ⟨?_, ?_, fun z => ?_, fun z => ?_, fun z => ?_⟩
  · rcases hw with rfl | rfl <;> rfl
  · rcases hw with rfl | rfl <;> rfl
  · rcases hw with rfl | rfl <;> rfl
  · rcases hw with rfl | rfl <;> rfl
  · rcases hw with rfl | rfl <;> (rcases ha with rfl | rfl | rfl | rfl | rfl | rfl <;> rfl)
  · have : r ≠ zO s := by omega
    rcases hw with rfl | rfl <;> (rcases ha with rfl | rfl | rfl | rfl | rfl | rfl <;> simp [adJ, jnM, adO, sU, this])
  · rw [wI_ne _ _ _ (by decide), wI_ne _ _ _ (by decide), F1.ne.1 97 _ (by decide), wI_ne _ _ _ (by decide), F5.ne.1 97 _ (by decide), wI_same]
    rcases hw with rfl | rfl <;> simp [adJ, jnM, adO, sU]
  · rw [wI_ne _ _ _ (by decide), wI_ne _ _ _ (by decide), F1.ne.1 98 _ (by decide), wI_same]
    rcases hw with rfl | rfl <;> simp [adJ, jnM, adO, sU]
  · rw [wI_ne _ _ _ (by decide), wI_same]
    rcases hw with rfl | rfl <;> simp [adJ, jnM, adO, sU]
  · exfalso
    have : oS (adJ s w (pfi s b n (j + 1)) (pfi s b n (j + 2))) (zO s) = w := by rcases hw with rfl | rfl <;> simp [adJ, jnM, adO, sU]
    omega
  · exfalso
    have : oS (adJ s w (pfi s b n (j + 1)) (pfi s b n (j + 2))) (zO s) = w := by rcases hw with rfl | rfl <;> simp [adJ, jnM, adO, sU]
    omega
end MOU
