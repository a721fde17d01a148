/-! ===== ILL: choose ===== -/
section ILL5
variable {s : ST} {c v : RT} {h : HP} {tt : Nat → Nat} {m x : Nat} {bd : Int64}
/-- what choose leaves -/
def chP (s : ST) (c v : RT) (tt : Nat → Nat) (m x : Nat) (bd : Int64) (hB : HP) (k : Nat) (res : RS) (h : HP) (w : Option Value) (h' : HP) : Prop := w = some (.int (if res.1 = none then 0 else 1)) ∧ ilF s c tt m hB h' ∧ MV s c tt m bd h' ∧ h'.1 57 11 = nI res.2 ∧ (∀ i, i < (k + 1) * 6 → h'.1 61 i = h.1 61 i) ∧ (∀ d, d < k → h'.1 60 d = h.1 60 d) ∧ ∀ cc, res.1 = some cc → ∀ d, d < m → h'.1 60 d = nI (cc d) ∧ cc d < zP s
theorem w_choose {hB : HP} (B : ilB s c v tt m bd hB) (o : OK s) (T : tOK s tt m v) (hbd : ¬ bd < 0) : ∀ r k ch w h, k + r = m → (∀ d, d < k → ch d < zP s) → ilF s c tt m hB h → MV s c tt m bd h → h.1 57 11 = nI w → w < 2000 → (∀ d, d < k → h.1 60 d = nI (ch d)) → rowK s v tt m x ch k h → ∃ wv h', Run (5 + r) j_Illness_choose [.ref 57, .int (nI k)] h wv h' ∧ chP s c v tt m x bd hB k (srD s c v tt m x bd r k ch w) h wv h' := by
  have hT := o.T; have hP := o.P; have hK := o.K; have hD := o.D; have hO := o.O; have hQ := o.Q; have hL := o.L
  have h6 := T.1
  intro r
  induction r with
  | zero =>
    intro k ch w h hkm hc F M W hw C L
    obtain rfl : k = m := by omega
    have hcn := F.cnt B
    obtain ⟨_, h2, r2, rfl, F2, M2, G2⟩ := w_doAllFit (h := wI h 57 11 (nI (w + 1))) B o T hbd F.a11 M hc (fun d hd => by rw [wI_ne _ _ _ (by decide)]; exact C d hd)
    refine ⟨some (.int (bI (fitB s c tt k bd ch))), h2, ?_, ?_⟩
    · refine Run.of rfl ?_
      refine Wp.norm (L' := [_, _, _, _]) rfl ?_
      repeat (first | (refine W1 rfl ?_; try refine Wp.norm (L' := [_, _, _, _]) rfl ?_) | ((first | change (_ → _) ∧ (_ → _) | change vp_in _ _ ∧ _ | change ¬ _ ∧ _); simp (disch := omega) only [nI_clamp, nI_leI, nI_ltI, nI_eq, nI_1, nI_add, nI_not_neg, nI_is_pos, nI_m1, nI_z, hcn, W]) | refine brT (by first | assumption | decide | omega) ?_ | refine brF (by first | assumption | decide | omega) ?_ | refine brTn (by first | assumption | decide | omega) ?_ | refine brFn (by first | assumption | decide | omega) ?_ | refine And.intro (vp_in_nI (by omega) (by decide)) ?_ | refine And.intro (vp_lit (by decide)) ?_ | refine divJ (by decide) ?_ | refine divI (by decide) ?_)
      try change _ ∧ _
      refine Cl.ofH r2 rfl (by rw [W, nI_1]) (by decide) ?_
      repeat (first | (refine W1 rfl ?_; try refine Wp.norm (L' := [_, _, _, _]) rfl ?_) | ((first | change (_ → _) ∧ (_ → _) | change vp_in _ _ ∧ _ | change ¬ _ ∧ _); simp (disch := omega) only [nI_clamp, nI_leI, nI_ltI, nI_eq, nI_1, nI_add, nI_not_neg, nI_is_pos, nI_m1, nI_z]) | refine brT (by first | assumption | decide | omega) ?_ | refine brF (by first | assumption | decide | omega) ?_ | refine brTn (by first | assumption | decide | omega) ?_ | refine brFn (by first | assumption | decide | omega) ?_ | refine And.intro (vp_in_nI (by omega) (by decide)) ?_ | refine And.intro (vp_lit (by decide)) ?_ | refine divJ (by decide) ?_ | refine divI (by decide) ?_)
      try change _ ∧ _
      cases fitB s c tt k bd ch
      · exact ⟨Or.inl rfl, rfl, rfl⟩
      · exact ⟨Or.inr rfl, rfl, rfl⟩
    · have e : srD s c v tt k x bd 0 k ch w = if fitB s c tt k bd ch = true then (some ch, w + 1) else (none, w + 1) := rfl
      have hw2 : h2.1 57 11 = nI (w + 1) := by rw [G2 57 11 (by decide), wI_same]
      have h61 : ∀ i, h2.1 61 i = h.1 61 i := fun i => by rw [G2 61 i (by decide), wI_ne _ _ _ (by decide)]
      have h60 : ∀ i, h2.1 60 i = h.1 60 i := fun i => by rw [G2 60 i (by decide), wI_ne _ _ _ (by decide)]
      cases hf : fitB s c tt k bd ch with
      | true =>
        rw [e, hf, if_pos rfl]
        exact ⟨rfl, F2, M2, hw2, fun i _ => h61 i, fun d _ => h60 d, fun cc hcc d hd => by
          cases hcc
          exact ⟨by rw [h60]; exact C d hd, hc d hd⟩⟩
      | false =>
        rw [e, hf, if_neg (by decide)]
        exact ⟨rfl, F2, M2, hw2, fun i _ => h61 i, fun d _ => h60 d, fun cc hcc => by cases hcc⟩
  | succ r ihr =>
    intro k ch w h hkm hc F M W hw C L
    have hk : k < m := by omega
    have hrow : ∀ q, q < 32 → bt (h.1 61 (k * 6 + k)) q = cnd s v tt x ch k q := fun q hq => by rw [L k (Nat.le_refl _) hk q hq, cnd_lft o T hk hc]
    obtain ⟨res, hres⟩ : ∃ res, srD s c v tt m x bd (r + 1) k ch w = res := ⟨_, rfl⟩
    rw [hres]
    refine Run.ofP rfl ?_
    refine Wp.norm (L' := [_, _, _, _]) rfl ?_
    have e6 : nI k * 6 + nI k = nI (k * 6 + k) := by rw [show (6 : Int32) = nI 6 from rfl, pk_mul, nI_add]
    have lp : ∀ p, p ≤ zP s → ∀ w h', w ≤ 2000 → goL (cnd s v tt x ch k) (fun p w' => srD s c v tt m x bd r (k + 1) (upN ch k p) w') (zP s - p) p w = res → ilF s c tt m hB h' → MV s c tt m bd h' → h'.1 57 11 = nI w → (∀ i, i < (k + 1) * 6 → h'.1 61 i = h.1 61 i) → (∀ d, d < k → h'.1 60 d = h.1 60 d) → Wp (5 + (r + 1)) j_Illness_choose 43 [.ref 57, .int (nI k), .int (h.1 61 (k * 6 + k)), .int (nI p)] [] h' (chP s c v tt m x bd hB k res h) := by
      refine up_ind ?_ (fun p hp ih => ?_)
      · intro w h' hw2 hg F' M' W' R1 R2
        have R' := F'.RC B
        rw [Nat.sub_self] at hg
        repeat (first | (refine W1 rfl ?_; try refine Wp.norm (L' := [_, _, _, _]) rfl ?_) | ((first | change (_ → _) ∧ (_ → _) | change vp_in _ _ ∧ _ | change ¬ _ ∧ _); simp (disch := omega) only [nI_clamp, nI_leI, nI_ltI, nI_eq, nI_1, nI_add, nI_not_neg, nI_is_pos, nI_m1, nI_z, R'.P]) | refine brT (by first | assumption | decide | omega) ?_ | refine brF (by first | assumption | decide | omega) ?_ | refine brTn (by first | assumption | decide | omega) ?_ | refine brFn (by first | assumption | decide | omega) ?_ | refine And.intro (vp_in_nI (by omega) (by decide)) ?_ | refine And.intro (vp_lit (by decide)) ?_ | refine divJ (by decide) ?_ | refine divI (by decide) ?_)
        try change _ ∧ _
        rw [← hg]
        exact ⟨Or.inl rfl, rfl, F', M', W', R1, R2, fun cc hcc => by cases hcc⟩
      · intro w h' hw2 hg F' M' W' R1 R2
        have R' := F'.RC B
        rw [show zP s - p = zP s - (p + 1) + 1 by omega, goL_s] at hg
        by_cases h2k : 2000 ≤ w
        · rw [if_pos h2k] at hg
          repeat (first | (refine W1 rfl ?_; try refine Wp.norm (L' := [_, _, _, _]) rfl ?_) | ((first | change (_ → _) ∧ (_ → _) | change vp_in _ _ ∧ _ | change ¬ _ ∧ _); simp (disch := omega) only [nI_clamp, nI_leI, nI_ltI, nI_eq, nI_1, nI_add, nI_not_neg, nI_is_pos, nI_m1, nI_z, R'.P, W', show (2000 : Int32) = nI 2000 from rfl]) | refine brT (by first | assumption | decide | omega) ?_ | refine brF (by first | assumption | decide | omega) ?_ | refine brTn (by first | assumption | decide | omega) ?_ | refine brFn (by first | assumption | decide | omega) ?_ | refine And.intro (vp_in_nI (by omega) (by decide)) ?_ | refine And.intro (vp_lit (by decide)) ?_ | refine divJ (by decide) ?_ | refine divI (by decide) ?_)
          try change _ ∧ _
          rw [← hg]
          exact ⟨Or.inl rfl, rfl, F', M', W', R1, R2, fun cc hcc => by cases hcc⟩
        · rw [if_neg h2k] at hg
          repeat (first | (refine W1 rfl ?_; try refine Wp.norm (L' := [_, _, _, _]) rfl ?_) | ((first | change (_ → _) ∧ (_ → _) | change vp_in _ _ ∧ _ | change ¬ _ ∧ _); simp (disch := omega) only [nI_clamp, nI_leI, nI_ltI, nI_eq, nI_1, nI_add, nI_not_neg, nI_is_pos, nI_m1, nI_z, R'.P, W', show (2000 : Int32) = nI 2000 from rfl]) | refine brT (by first | assumption | decide | omega) ?_ | refine brF (by first | assumption | decide | omega) ?_ | refine brTn (by first | assumption | decide | omega) ?_ | refine brFn (by first | assumption | decide | omega) ?_ | refine And.intro (vp_in_nI (by omega) (by decide)) ?_ | refine And.intro (vp_lit (by decide)) ?_ | refine divJ (by decide) ?_ | refine divI (by decide) ?_)
          try change _ ∧ _
          rw [shr1 _ (by omega), hrow p (by omega)]
          cases hcd : cnd s v tt x ch k p with
          | false =>
            rw [hcd, if_neg (by decide)] at hg
            have ih := ih w h' hw2 hg F' M' W' R1 R2
            refine brT rfl ?_
            repeat (first | refine Wp.at ih rfl rfl ?_ rfl | (refine W1 rfl ?_; try refine Wp.norm (L' := [_, _, _, _]) rfl ?_) | ((first | change (_ → _) ∧ (_ → _) | change vp_in _ _ ∧ _ | change ¬ _ ∧ _); simp (disch := omega) only [nI_clamp, nI_leI, nI_ltI, nI_eq, nI_1, nI_add, nI_not_neg, nI_is_pos, nI_m1, nI_z]) | refine brT (by first | assumption | decide | omega) ?_ | refine brF (by first | assumption | decide | omega) ?_ | refine brTn (by first | assumption | decide | omega) ?_ | refine brFn (by first | assumption | decide | omega) ?_ | refine And.intro (vp_in_nI (by omega) (by decide)) ?_ | refine And.intro (vp_lit (by decide)) ?_ | refine divJ (by decide) ?_ | refine divI (by decide) ?_)
            try change _ ∧ _
            first | done | rfl | (simp (disch := omega) only [nI_1, nI_add, nI_clamp] <;> first | done | rfl)
          | true =>
            rw [hcd, if_pos rfl] at hg
            refine brF (by decide) ?_
            have F1 : ilF s c tt m hB (wI h' 60 k (nI p)) := F'.a60 (Or.inl rfl)
            have L1 : rowK s v tt m x ch k (wI h' 60 k (nI p)) := fun n h1 h2 q hq => by
              rw [wI_ne _ _ _ (by decide), R1 _ (by omega)]
              exact L n h1 h2 q hq
            obtain ⟨wv, h2, r2, F2, G2, J2, hor⟩ := w_leaveOthers (x := x) (ch := ch) B o T F1 hk hp L1
            have M2 : MV s c tt m bd h2 := fun p' q' h1 h2' => by rw [J2]; exact M' p' q' h1 h2'
            have W2 : h2.1 57 11 = nI w := by rw [G2 57 11 (Or.inl (by decide)), wI_ne _ _ _ (by decide)]; exact W'
            have R12 : ∀ i, i < (k + 1) * 6 → h2.1 61 i = h.1 61 i := fun i hi => by rw [G2 61 i (Or.inr hi), wI_ne _ _ _ (by decide)]; exact R1 i hi
            have R22 : ∀ d, d < k → h2.1 60 d = h.1 60 d := fun d hd => by rw [G2 60 d (Or.inl (by decide)), wI_ne2 _ _ (by omega)]; exact R2 d hd
            have hcu : ∀ d, d < k + 1 → upN ch k p d < zP s := fun d hd => by
              by_cases e : d = k
              · rw [e, upN_k]; exact hp
              · rw [upN_o ch p e]; exact hc d (by omega)
            rcases hor with ⟨rfl, L2⟩ | ⟨rfl, hdead⟩
            · obtain ⟨wv3, h3, r3, C3⟩ := ihr (k + 1) (upN ch k p) w h2 (by omega) hcu F2 M2 W2 (by omega) (fun d hd => by
                by_cases e : d = k
                · rw [e, upN_k, G2 60 k (Or.inl (by decide)), wI_same]
                · rw [upN_o ch p e, R22 d (by omega)]; exact C d (by omega)) L2
              obtain ⟨rfl, F3, M3, W3, R13, R23, S3⟩ := C3
              have hle := srD_le (s := s) (c := c) (v := v) (tt := tt) (m := m) (x := x) (bd := bd) r (k + 1) (upN ch k p) w (by omega)
              repeat (first | (refine W1 rfl ?_; try refine Wp.norm (L' := [_, _, _, _]) rfl ?_) | ((first | change (_ → _) ∧ (_ → _) | change vp_in _ _ ∧ _ | change ¬ _ ∧ _); simp (disch := omega) only [nI_clamp, nI_leI, nI_ltI, nI_eq, nI_1, nI_add, nI_not_neg, nI_is_pos, nI_m1, nI_z, R'.P]) | refine brT (by first | assumption | decide | omega) ?_ | refine brF (by first | assumption | decide | omega) ?_ | refine brTn (by first | assumption | decide | omega) ?_ | refine brFn (by first | assumption | decide | omega) ?_ | refine And.intro (vp_in_nI (by omega) (by decide)) ?_ | refine And.intro (vp_lit (by decide)) ?_ | refine divJ (by decide) ?_ | refine divI (by decide) ?_)
              try change _ ∧ _
              refine Cl.of r2 (by omega) ?_
              repeat (first | (refine W1 rfl ?_; try refine Wp.norm (L' := [_, _, _, _]) rfl ?_) | ((first | change (_ → _) ∧ (_ → _) | change vp_in _ _ ∧ _ | change ¬ _ ∧ _); simp (disch := omega) only [nI_clamp, nI_leI, nI_ltI, nI_eq, nI_1, nI_add, nI_not_neg, nI_is_pos, nI_m1, nI_z]) | refine brT (by first | assumption | decide | omega) ?_ | refine brF (by first | assumption | decide | omega) ?_ | refine brTn (by first | assumption | decide | omega) ?_ | refine brFn (by first | assumption | decide | omega) ?_ | refine And.intro (vp_in_nI (by omega) (by decide)) ?_ | refine And.intro (vp_lit (by decide)) ?_ | refine divJ (by decide) ?_ | refine divI (by decide) ?_)
              try change _ ∧ _
              refine Cl.ofA (d' := 5 + r) r3 (by first | done | rfl | (simp (disch := omega) only [nI_1, nI_add, nI_clamp] <;> first | done | rfl)) (by omega) ?_
              obtain ⟨nx, hnx⟩ : ∃ nx, srD s c v tt m x bd r (k + 1) (upN ch k p) w = nx := ⟨_, rfl⟩
              rw [hnx] at W3 S3 hle ⊢
              have hg : (if nx.1 = none then goL (cnd s v tt x ch k) (fun p w' => srD s c v tt m x bd r (k + 1) (upN ch k p) w') (zP s - (p + 1)) (p + 1) nx.2 else nx) = res := by rw [← hnx]; exact hg
              by_cases hn : nx.1 = none
              · rw [if_pos hn] at hg ⊢
                have ih := ih nx.2 h3 hle hg F3 M3 W3 (fun i hi => by rw [R13 i (by omega)]; exact R12 i hi) (fun d hd => by rw [R23 d (by omega)]; exact R22 d hd)
                repeat (first | refine Wp.at ih rfl rfl ?_ rfl | (refine W1 rfl ?_; try refine Wp.norm (L' := [_, _, _, _]) rfl ?_) | ((first | change (_ → _) ∧ (_ → _) | change vp_in _ _ ∧ _ | change ¬ _ ∧ _); simp (disch := omega) only [nI_clamp, nI_leI, nI_ltI, nI_eq, nI_1, nI_add, nI_not_neg, nI_is_pos, nI_m1, nI_z]) | refine brT (by first | assumption | decide | omega) ?_ | refine brF (by first | assumption | decide | omega) ?_ | refine brTn (by first | assumption | decide | omega) ?_ | refine brFn (by first | assumption | decide | omega) ?_ | refine And.intro (vp_in_nI (by omega) (by decide)) ?_ | refine And.intro (vp_lit (by decide)) ?_ | refine divJ (by decide) ?_ | refine divI (by decide) ?_)
                try change _ ∧ _
                first | done | rfl | (simp (disch := omega) only [nI_1, nI_add, nI_clamp] <;> first | done | rfl)
              · rw [if_neg hn] at hg ⊢
                repeat (first | (refine W1 rfl ?_; try refine Wp.norm (L' := [_, _, _, _]) rfl ?_) | ((first | change (_ → _) ∧ (_ → _) | change vp_in _ _ ∧ _ | change ¬ _ ∧ _); simp (disch := omega) only [nI_clamp, nI_leI, nI_ltI, nI_eq, nI_1, nI_add, nI_not_neg, nI_is_pos, nI_m1, nI_z]) | refine brT (by first | assumption | decide | omega) ?_ | refine brF (by first | assumption | decide | omega) ?_ | refine brTn (by first | assumption | decide | omega) ?_ | refine brFn (by first | assumption | decide | omega) ?_ | refine And.intro (vp_in_nI (by omega) (by decide)) ?_ | refine And.intro (vp_lit (by decide)) ?_ | refine divJ (by decide) ?_ | refine divI (by decide) ?_)
                try change _ ∧ _
                rw [← hg]
                exact ⟨Or.inr rfl, by rw [if_neg hn], F3, M3, W3, fun i hi => by rw [R13 i (by omega)]; exact R12 i hi, fun d hd => by rw [R23 d (by omega)]; exact R22 d hd, S3⟩
            · obtain ⟨n, n1, n2, n3⟩ := hdead
              have hd0 := dead (c := c) (bd := bd) o T r (k + 1) (upN ch k p) w (by omega) hcu ⟨n, n1, n2, n3⟩
              have hg : goL (cnd s v tt x ch k) (fun p w' => srD s c v tt m x bd r (k + 1) (upN ch k p) w') (zP s - (p + 1)) (p + 1) w = res := by
                rw [← hg]
                show _ = if (srD s c v tt m x bd r (k + 1) (upN ch k p) w).1 = none then goL _ _ _ _ (srD s c v tt m x bd r (k + 1) (upN ch k p) w).2 else _
                rw [hd0, if_pos rfl]
              have ih := ih w h2 hw2 hg F2 M2 W2 R12 R22
              repeat (first | (refine W1 rfl ?_; try refine Wp.norm (L' := [_, _, _, _]) rfl ?_) | ((first | change (_ → _) ∧ (_ → _) | change vp_in _ _ ∧ _ | change ¬ _ ∧ _); simp (disch := omega) only [nI_clamp, nI_leI, nI_ltI, nI_eq, nI_1, nI_add, nI_not_neg, nI_is_pos, nI_m1, nI_z, R'.P]) | refine brT (by first | assumption | decide | omega) ?_ | refine brF (by first | assumption | decide | omega) ?_ | refine brTn (by first | assumption | decide | omega) ?_ | refine brFn (by first | assumption | decide | omega) ?_ | refine And.intro (vp_in_nI (by omega) (by decide)) ?_ | refine And.intro (vp_lit (by decide)) ?_ | refine divJ (by decide) ?_ | refine divI (by decide) ?_)
              try change _ ∧ _
              refine Cl.of r2 (by omega) ?_
              repeat (first | refine Wp.at ih rfl rfl ?_ rfl | (refine W1 rfl ?_; try refine Wp.norm (L' := [_, _, _, _]) rfl ?_) | ((first | change (_ → _) ∧ (_ → _) | change vp_in _ _ ∧ _ | change ¬ _ ∧ _); simp (disch := omega) only [nI_clamp, nI_leI, nI_ltI, nI_eq, nI_1, nI_add, nI_not_neg, nI_is_pos, nI_m1, nI_z]) | refine brT (by first | assumption | decide | omega) ?_ | refine brF (by first | assumption | decide | omega) ?_ | refine brTn (by first | assumption | decide | omega) ?_ | refine brFn (by first | assumption | decide | omega) ?_ | refine And.intro (vp_in_nI (by omega) (by decide)) ?_ | refine And.intro (vp_lit (by decide)) ?_ | refine divJ (by decide) ?_ | refine divI (by decide) ?_)
              try change _ ∧ _
              first | done | rfl | (simp (disch := omega) only [nI_1, nI_add, nI_clamp] <;> first | done | rfl)
    have hcn := F.cnt B
    have ih := lp 0 (Nat.zero_le _) w h (by omega) hres F M W (fun _ _ => rfl) (fun _ _ => rfl)
    repeat (first | refine Wp.at ih rfl rfl ?_ rfl | (refine W1 rfl ?_; try refine Wp.norm (L' := [_, _, _, _]) rfl ?_) | ((first | change (_ → _) ∧ (_ → _) | change vp_in _ _ ∧ _ | change ¬ _ ∧ _); simp (disch := omega) only [nI_clamp, nI_leI, nI_ltI, nI_eq, nI_1, nI_add, nI_not_neg, nI_is_pos, nI_m1, nI_z, hcn, show (6 : Int32) = nI 6 from rfl, pk_mul]) | refine brT (by first | assumption | decide | omega) ?_ | refine brF (by first | assumption | decide | omega) ?_ | refine brTn (by first | assumption | decide | omega) ?_ | refine brFn (by first | assumption | decide | omega) ?_ | refine And.intro (vp_in_nI (by omega) (by decide)) ?_ | refine And.intro (vp_lit (by decide)) ?_ | refine divJ (by decide) ?_ | refine divI (by decide) ?_)
    try change _ ∧ _
    first | done | rfl | (simp (disch := omega) only [nI_1, nI_add, nI_clamp, e6] <;> first | done | rfl)
end ILL5
