/-! ===== STEP: who lacks most ===== -/
theorem nI_le1 {n : Nat} (h : n < 2 ^ 31) : (nI n ≤ 1) ↔ n ≤ 1 := by rw [show (1 : Int32) = nI 1 from rfl, nI_leI h (by decide)]
abbrev LV : Type := Nat → Nat → Int64
def lak (s : ST) (lv : LV) (t p : Nat) : Int64 := (nI (dueN s p t)).toInt64 - lv (tK s t) p
def lkS (s : ST) (v : RT) (lv : LV) (t : Nat) : Nat → Int64 × (Nat → Bool)
  | 0 => (0, fun _ => false)
  | i + 1 => if ablB s v t i = true then (if cB (lkS s v lv t i).2 i = 0 ∨ (lkS s v lv t i).1 < lak s lv t i then (lak s lv t i, fun q => decide (q = i)) else if lak s lv t i = (lkS s v lv t i).1 then ((lkS s v lv t i).1, fun q => (lkS s v lv t i).2 q || decide (q = i)) else lkS s v lv t i) else lkS s v lv t i
theorem cB_0 {B : Nat → Bool} : ∀ {n}, (∀ q, q < n → B q = false) → cB B n = 0
  | 0, _ => rfl
  | n + 1, h => by rw [cB_s, cB_0 (fun q hq => h q (by omega)), h n (by omega)]; rfl
theorem cB_congr {B B' : Nat → Bool} {n : Nat} (h : ∀ q, q < n → B q = B' q) : cB B n = cB B' n := cnt_congr (fun i hi => by rw [h i hi])
section LACK
variable {s : ST} {c v : RT} {h : HP} {lv : LV} {t : Nat}
theorem lkS_lt : ∀ i q, (lkS s v lv t i).2 q = true → q < i
  | 0, q, h => by cases h
  | i + 1, q, h => by
    unfold lkS at h
    split at h
    · split at h
      · have : q = i := by simpa using h
        omega
      · split at h
        · simp only [Bool.or_eq_true, decide_eq_true_eq] at h
          rcases h with h | h
          · have := lkS_lt i q h; omega
          · omega
        · have := lkS_lt i q h; omega
    · have := lkS_lt i q h; omega
theorem lkS_ge {i q : Nat} (hq : i ≤ q) : (lkS s v lv t i).2 q = false := by
  cases e : (lkS s v lv t i).2 q with
  | false => rfl
  | true => have := lkS_lt i q e; omega
theorem lk_skip {i : Nat} (ha : ablB s v t i = false) : lkS s v lv t (i + 1) = lkS s v lv t i := by
  have e : lkS s v lv t (i + 1) = _ := lkS.eq_2 s v lv t i
  rw [e, if_neg (by rw [ha]; decide)]
theorem lk_new {i : Nat} (ha : ablB s v t i = true) (hn : cB (lkS s v lv t i).2 i = 0 ∨ (lkS s v lv t i).1 < lak s lv t i) : lkS s v lv t (i + 1) = (lak s lv t i, fun q => decide (q = i)) := by
  have e : lkS s v lv t (i + 1) = _ := lkS.eq_2 s v lv t i
  rw [e, if_pos ha, if_pos hn]
theorem lk_eq {i : Nat} (ha : ablB s v t i = true) (hn : ¬ (cB (lkS s v lv t i).2 i = 0 ∨ (lkS s v lv t i).1 < lak s lv t i)) (he : lak s lv t i = (lkS s v lv t i).1) : lkS s v lv t (i + 1) = ((lkS s v lv t i).1, fun q => (lkS s v lv t i).2 q || decide (q = i)) := by
  have e : lkS s v lv t (i + 1) = _ := lkS.eq_2 s v lv t i
  rw [e, if_pos ha, if_neg hn, if_pos he]
theorem lk_no {i : Nat} (ha : ablB s v t i = true) (hn : ¬ (cB (lkS s v lv t i).2 i = 0 ∨ (lkS s v lv t i).1 < lak s lv t i)) (he : ¬ lak s lv t i = (lkS s v lv t i).1) : lkS s v lv t (i + 1) = lkS s v lv t i := by
  have e : lkS s v lv t (i + 1) = _ := lkS.eq_2 s v lv t i
  rw [e, if_pos ha, if_neg hn, if_neg he]
theorem cB_one (i : Nat) : cB (fun q => decide (q = i)) (i + 1) = 1 := by
  rw [cB_s, cB_0 (fun q hq => by simp; omega)]
  simp
theorem cB_more {B : Nat → Bool} {i : Nat} : cB (fun q => B q || decide (q = i)) (i + 1) = cB B i + 1 := by
  rw [cB_s, cB_congr (B' := B) (fun q hq => by simp; intro e; omega)]
  simp
theorem cB_same {B : Nat → Bool} {i : Nat} (hb : B i = false) : cB B (i + 1) = cB B i := by
  rw [cB_s, hb]
  simp
/-- whose turn it is -/
def plc (bl : Int32) (x n : Nat) : Nat := if ¬ bl = 0 ∧ 1 < n then nxL x / 256 % n else 0
def nlot (bl : Int32) (x n : Nat) : Nat := if ¬ bl = 0 ∧ 1 < n then nxL x else x
def who (s : ST) (v : RT) (lv : LV) (t : Nat) (bl : Int32) (x : Nat) : Int32 := if cB (lkS s v lv t (zP s)).2 (zP s) = 0 then -1 else fnd (lkS s v lv t (zP s)).2 (plc bl x (cB (lkS s v lv t (zP s)).2 (zP s))) 16
def lotH (h : HP) (bl : Int32) (x n : Nat) : HP := if ¬ bl = 0 ∧ 1 < n then wJ h 45 5 (lN (nxL x)) else h
theorem plc_lt {bl : Int32} {x n : Nat} (hn : 0 < n) : plc bl x n < n := by
  unfold plc
  split
  · exact Nat.mod_lt _ hn
  · exact hn
theorem cB_16 (o : OK s) : cB (lkS s v lv t (zP s)).2 16 = cB (lkS s v lv t (zP s)).2 (zP s) := by
  have hP := o.P
  have : ∀ k, cB (lkS s v lv t (zP s)).2 (zP s + k) = cB (lkS s v lv t (zP s)).2 (zP s) := by
    intro k
    induction k with
    | zero => rfl
    | succ k ih => rw [← Nat.add_assoc, cB_same (lkS_ge (by omega)), ih]
  have e := this (16 - zP s)
  rw [show zP s + (16 - zP s) = 16 by omega] at e
  exact e
theorem r_Rota_mostLacking (R : RC s c v h) (o : OK s) (ro : RO s c v) (ht : t < zT s) (hl : ∀ k p, k < zK s → p < zP s → h.2 48 (p * 6 + k) = lv k p) {bl : Int32} (hbl : bl = 0 ∨ bl = 1) {x : Nat} (hx : ¬ bl = 0 → x < 2 ^ 31 ∧ h.2 45 5 = lN x) : Run 3 j_Rota_mostLacking [.ref 45, .int (nI t), .int bl] h (some (.int (who s v lv t bl x))) (lotH h bl x (cB (lkS s v lv t (zP s)).2 (zP s))) := by
  have hT := o.T; have hP := o.P; have hK := o.K; have hD := o.D; have hO := o.O; have hQ := o.Q; have hL := o.L
  have hk := o.knd ht
  obtain ⟨y, r1, B1⟩ := w_Rota_ableFor R o ro ht
  have lp : ∀ i, i ≤ zP s → ∀ l x10, (∀ q, q < 32 → bt l q = (lkS s v lv t i).2 q) → Wp 3 j_Rota_mostLacking 29 [.ref 45, .int (nI t), .int bl, .int y, .int (nI (tK s t)), .int l, .int (nI (cB (lkS s v lv t i).2 i)), .long (lkS s v lv t i).1, .null, .int (nI i), x10, .null] [] h (fun v' h2 => v' = some (.int (who s v lv t bl x)) ∧ h2 = lotH h bl x (cB (lkS s v lv t (zP s)).2 (zP s))) := by
    refine up_ind ?_ (fun i hi ih => ?_)
    · intro l x10 A
      have hcl : cB (lkS s v lv t (zP s)).2 (zP s) ≤ zP s := cnt_le _ _
      have rb := fun h => r_Rota_bitInPlace (h := h) (x := l) (B := (lkS s v lv t (zP s)).2) (j := plc bl x (cB (lkS s v lv t (zP s)).2 (zP s))) (fun q hq => A q (by omega))
      rw [cB_16 o] at rb
      unfold who lotH
      generalize hn : cB (lkS s v lv t (zP s)).2 (zP s) = n at *
      repeat (first | (refine W1 rfl ?_; try refine Wp.norm (L' := [_, _, _, _, _, _, _, _, _, _, _, _]) rfl ?_) | refine brT (by first | assumption | decide | omega) ?_ | refine brF (by first | assumption | decide | omega) ?_ | refine brTn (by first | assumption | decide | omega) ?_ | refine brFn (by first | assumption | decide | omega) ?_ | ((first | change (_ → _) ∧ (_ → _) | change vp_in _ _ ∧ _ | change ¬ _ ∧ _); simp (disch := omega) only [nI_clamp, nI_leI, nI_ltI, nI_eq, nI_1, nI_add, nI_not_neg, nI_is_pos, nI_m1, nI_z, R.P]) | refine And.intro (vp_in_nI (by omega) (by decide)) ?_ | refine And.intro (vp_lit (by decide)) ?_ | refine divJ (by decide) ?_ | refine divI (by decide) ?_)
      try change _ ∧ _
      refine ⟨fun q0 => ?_, fun q0 => ?_⟩
      · rw [if_neg q0]
        have hpl := plc_lt (bl := bl) (x := x) (n := n) (by omega)
        repeat (first | (refine W1 rfl ?_; try refine Wp.norm (L' := [_, _, _, _, _, _, _, _, _, _, _, _]) rfl ?_) | refine brT (by first | assumption | decide | omega) ?_ | refine brF (by first | assumption | decide | omega) ?_ | refine brTn (by first | assumption | decide | omega) ?_ | refine brFn (by first | assumption | decide | omega) ?_ | ((first | change (_ → _) ∧ (_ → _) | change vp_in _ _ ∧ _ | change ¬ _ ∧ _); simp (disch := omega) only [nI_clamp, nI_leI, nI_ltI, nI_eq, nI_1, nI_add, nI_not_neg, nI_is_pos, nI_m1, nI_z]) | refine And.intro (vp_in_nI (by omega) (by decide)) ?_ | refine And.intro (vp_lit (by decide)) ?_ | refine divJ (by decide) ?_ | refine divI (by decide) ?_)
        try change _ ∧ _
        rcases hbl with rfl | rfl
        · rw [if_neg (fun z => z.1 rfl)]
          have e : plc 0 x n = 0 := by unfold plc; rw [if_neg (fun z => z.1 rfl)]
          rw [e] at rb ⊢
          refine brT rfl ?_
          repeat (first | (refine W1 rfl ?_; try refine Wp.norm (L' := [_, _, _, _, _, _, _, _, _, _, _, _]) rfl ?_) | refine brT (by first | assumption | decide | omega) ?_ | refine brF (by first | assumption | decide | omega) ?_ | refine brTn (by first | assumption | decide | omega) ?_ | refine brFn (by first | assumption | decide | omega) ?_ | ((first | change (_ → _) ∧ (_ → _) | change vp_in _ _ ∧ _ | change ¬ _ ∧ _); simp (disch := omega) only [nI_clamp, nI_leI, nI_ltI, nI_eq, nI_1, nI_add, nI_not_neg, nI_is_pos, nI_m1, nI_z]) | refine And.intro (vp_in_nI (by omega) (by decide)) ?_ | refine And.intro (vp_lit (by decide)) ?_ | refine divJ (by decide) ?_ | refine divI (by decide) ?_)
          try change _ ∧ _
          refine Cl.of (rb h (by omega)) (by decide) ?_
          repeat (first | (refine W1 rfl ?_; try refine Wp.norm (L' := [_, _, _, _, _, _, _, _, _, _, _, _]) rfl ?_) | refine brT (by first | assumption | decide | omega) ?_ | refine brF (by first | assumption | decide | omega) ?_ | refine brTn (by first | assumption | decide | omega) ?_ | refine brFn (by first | assumption | decide | omega) ?_ | ((first | change (_ → _) ∧ (_ → _) | change vp_in _ _ ∧ _ | change ¬ _ ∧ _); simp (disch := omega) only [nI_clamp, nI_leI, nI_ltI, nI_eq, nI_1, nI_add, nI_not_neg, nI_is_pos, nI_m1, nI_z]) | refine And.intro (vp_in_nI (by omega) (by decide)) ?_ | refine And.intro (vp_lit (by decide)) ?_ | refine divJ (by decide) ?_ | refine divI (by decide) ?_)
          try change _ ∧ _
          try first | exact ⟨rfl, rfl⟩ | exact ⟨Or.inr rfl, rfl, rfl⟩ | exact ⟨Or.inl rfl, rfl, rfl⟩ | exact ⟨trivial, trivial⟩ | exact ⟨rfl, trivial⟩ | exact ⟨Or.inr rfl, rfl, trivial⟩ | exact ⟨Or.inl rfl, rfl, trivial⟩
        · obtain ⟨hx1, hx2⟩ := hx (by decide)
          refine brF (by decide) ?_
          repeat (first | (refine W1 rfl ?_; try refine Wp.norm (L' := [_, _, _, _, _, _, _, _, _, _, _, _]) rfl ?_) | refine brT (by first | assumption | decide | omega) ?_ | refine brF (by first | assumption | decide | omega) ?_ | refine brTn (by first | assumption | decide | omega) ?_ | refine brFn (by first | assumption | decide | omega) ?_ | ((first | change (_ → _) ∧ (_ → _) | change vp_in _ _ ∧ _ | change ¬ _ ∧ _); simp (disch := omega) only [nI_clamp, nI_leI, nI_ltI, nI_eq, nI_1, nI_add, nI_not_neg, nI_is_pos, nI_m1, nI_z, nI_le1]) | refine And.intro (vp_in_nI (by omega) (by decide)) ?_ | refine And.intro (vp_lit (by decide)) ?_ | refine divJ (by decide) ?_ | refine divI (by decide) ?_)
          try change _ ∧ _
          refine ⟨fun q1 => ?_, fun q1 => ?_⟩
          · rw [if_neg (fun z => by omega)]
            have e : plc 1 x n = 0 := by unfold plc; rw [if_neg (fun z => by omega)]
            rw [e] at rb ⊢
            repeat (first | (refine W1 rfl ?_; try refine Wp.norm (L' := [_, _, _, _, _, _, _, _, _, _, _, _]) rfl ?_) | refine brT (by first | assumption | decide | omega) ?_ | refine brF (by first | assumption | decide | omega) ?_ | refine brTn (by first | assumption | decide | omega) ?_ | refine brFn (by first | assumption | decide | omega) ?_ | ((first | change (_ → _) ∧ (_ → _) | change vp_in _ _ ∧ _ | change ¬ _ ∧ _); simp (disch := omega) only [nI_clamp, nI_leI, nI_ltI, nI_eq, nI_1, nI_add, nI_not_neg, nI_is_pos, nI_m1, nI_z]) | refine And.intro (vp_in_nI (by omega) (by decide)) ?_ | refine And.intro (vp_lit (by decide)) ?_ | refine divJ (by decide) ?_ | refine divI (by decide) ?_)
            try change _ ∧ _
            refine Cl.of (rb h (by omega)) (by decide) ?_
            repeat (first | (refine W1 rfl ?_; try refine Wp.norm (L' := [_, _, _, _, _, _, _, _, _, _, _, _]) rfl ?_) | refine brT (by first | assumption | decide | omega) ?_ | refine brF (by first | assumption | decide | omega) ?_ | refine brTn (by first | assumption | decide | omega) ?_ | refine brFn (by first | assumption | decide | omega) ?_ | ((first | change (_ → _) ∧ (_ → _) | change vp_in _ _ ∧ _ | change ¬ _ ∧ _); simp (disch := omega) only [nI_clamp, nI_leI, nI_ltI, nI_eq, nI_1, nI_add, nI_not_neg, nI_is_pos, nI_m1, nI_z]) | refine And.intro (vp_in_nI (by omega) (by decide)) ?_ | refine And.intro (vp_lit (by decide)) ?_ | refine divJ (by decide) ?_ | refine divI (by decide) ?_)
            try change _ ∧ _
            try first | exact ⟨rfl, rfl⟩ | exact ⟨Or.inr rfl, rfl, rfl⟩ | exact ⟨Or.inl rfl, rfl, rfl⟩ | exact ⟨trivial, trivial⟩ | exact ⟨rfl, trivial⟩ | exact ⟨Or.inr rfl, rfl, trivial⟩ | exact ⟨Or.inl rfl, rfl, trivial⟩
          · rw [if_pos (show ¬ (1 : Int32) = 0 ∧ 1 < n from ⟨by decide, by omega⟩)]
            have e : plc 1 x n = nxL x / 256 % n := by unfold plc; rw [if_pos (show ¬ (1 : Int32) = 0 ∧ 1 < n from ⟨by decide, by omega⟩)]
            rw [e] at rb hpl ⊢
            repeat (first | (refine W1 rfl ?_; try refine Wp.norm (L' := [_, _, _, _, _, _, _, _, _, _, _, _]) rfl ?_) | refine brT (by first | assumption | decide | omega) ?_ | refine brF (by first | assumption | decide | omega) ?_ | refine brTn (by first | assumption | decide | omega) ?_ | refine brFn (by first | assumption | decide | omega) ?_ | ((first | change (_ → _) ∧ (_ → _) | change vp_in _ _ ∧ _ | change ¬ _ ∧ _); simp (disch := omega) only [nI_clamp, nI_leI, nI_ltI, nI_eq, nI_1, nI_add, nI_not_neg, nI_is_pos, nI_m1, nI_z]) | refine And.intro (vp_in_nI (by omega) (by decide)) ?_ | refine And.intro (vp_lit (by decide)) ?_ | refine divJ (by decide) ?_ | refine divI (by decide) ?_)
            try change _ ∧ _
            refine Cl.of (r_Rota_drawn hx1 hx2 (by omega) (by omega)) (by decide) ?_
            repeat (first | (refine W1 rfl ?_; try refine Wp.norm (L' := [_, _, _, _, _, _, _, _, _, _, _, _]) rfl ?_) | refine brT (by first | assumption | decide | omega) ?_ | refine brF (by first | assumption | decide | omega) ?_ | refine brTn (by first | assumption | decide | omega) ?_ | refine brFn (by first | assumption | decide | omega) ?_ | ((first | change (_ → _) ∧ (_ → _) | change vp_in _ _ ∧ _ | change ¬ _ ∧ _); simp (disch := omega) only [nI_clamp, nI_leI, nI_ltI, nI_eq, nI_1, nI_add, nI_not_neg, nI_is_pos, nI_m1, nI_z]) | refine And.intro (vp_in_nI (by omega) (by decide)) ?_ | refine And.intro (vp_lit (by decide)) ?_ | refine divJ (by decide) ?_ | refine divI (by decide) ?_)
            try change _ ∧ _
            refine Cl.of (rb _ hpl) (by decide) ?_
            repeat (first | (refine W1 rfl ?_; try refine Wp.norm (L' := [_, _, _, _, _, _, _, _, _, _, _, _]) rfl ?_) | refine brT (by first | assumption | decide | omega) ?_ | refine brF (by first | assumption | decide | omega) ?_ | refine brTn (by first | assumption | decide | omega) ?_ | refine brFn (by first | assumption | decide | omega) ?_ | ((first | change (_ → _) ∧ (_ → _) | change vp_in _ _ ∧ _ | change ¬ _ ∧ _); simp (disch := omega) only [nI_clamp, nI_leI, nI_ltI, nI_eq, nI_1, nI_add, nI_not_neg, nI_is_pos, nI_m1, nI_z]) | refine And.intro (vp_in_nI (by omega) (by decide)) ?_ | refine And.intro (vp_lit (by decide)) ?_ | refine divJ (by decide) ?_ | refine divI (by decide) ?_)
            try change _ ∧ _
            try first | exact ⟨rfl, rfl⟩ | exact ⟨Or.inr rfl, rfl, rfl⟩ | exact ⟨Or.inl rfl, rfl, rfl⟩ | exact ⟨trivial, trivial⟩ | exact ⟨rfl, trivial⟩ | exact ⟨Or.inr rfl, rfl, trivial⟩ | exact ⟨Or.inl rfl, rfl, trivial⟩
      · rw [if_pos q0]
        repeat (first | (refine W1 rfl ?_; try refine Wp.norm (L' := [_, _, _, _, _, _, _, _, _, _, _, _]) rfl ?_) | refine brT (by first | assumption | decide | omega) ?_ | refine brF (by first | assumption | decide | omega) ?_ | refine brTn (by first | assumption | decide | omega) ?_ | refine brFn (by first | assumption | decide | omega) ?_ | ((first | change (_ → _) ∧ (_ → _) | change vp_in _ _ ∧ _ | change ¬ _ ∧ _); simp (disch := omega) only [nI_clamp, nI_leI, nI_ltI, nI_eq, nI_1, nI_add, nI_not_neg, nI_is_pos, nI_m1, nI_z]) | refine And.intro (vp_in_nI (by omega) (by decide)) ?_ | refine And.intro (vp_lit (by decide)) ?_ | refine divJ (by decide) ?_ | refine divI (by decide) ?_)
        try change _ ∧ _
        rw [if_neg (fun z => by omega)]
        try first | exact ⟨rfl, rfl⟩ | exact ⟨Or.inr rfl, rfl, rfl⟩ | exact ⟨Or.inl rfl, rfl, rfl⟩ | exact ⟨trivial, trivial⟩ | exact ⟨rfl, trivial⟩ | exact ⟨Or.inr rfl, rfl, trivial⟩ | exact ⟨Or.inl rfl, rfl, trivial⟩
    · intro l x10 A
      have hci : cB (lkS s v lv t i).2 i ≤ i := cnt_le _ _
      have e6 : nI i * 6 + nI (tK s t) = nI (i * 6 + tK s t) := by rw [show (6 : Int32) = nI 6 from rfl, pk_mul, nI_add]
      repeat (first | (refine W1 rfl ?_; try refine Wp.norm (L' := [_, _, _, _, _, _, _, _, _, _, _, _]) rfl ?_) | refine brT (by first | assumption | decide | omega) ?_ | refine brF (by first | assumption | decide | omega) ?_ | refine brTn (by first | assumption | decide | omega) ?_ | refine brFn (by first | assumption | decide | omega) ?_ | ((first | change (_ → _) ∧ (_ → _) | change vp_in _ _ ∧ _ | change ¬ _ ∧ _); simp (disch := omega) only [nI_clamp, nI_leI, nI_ltI, nI_eq, nI_1, nI_add, nI_not_neg, nI_is_pos, nI_m1, nI_z, R.P]) | refine And.intro (vp_in_nI (by omega) (by decide)) ?_ | refine And.intro (vp_lit (by decide)) ?_ | refine divJ (by decide) ?_ | refine divI (by decide) ?_)
      try change _ ∧ _
      rw [shr1 y (by omega), B1 i (by omega)]
      cases ha : ablB s v t i with
      | false =>
        rw [lk_skip ha, cB_same (lkS_ge (Nat.le_refl _))] at ih
        have ih := ih l x10 A
        refine brT rfl ?_
        repeat (first | refine Wp.at ih rfl rfl ?_ rfl | (refine W1 rfl ?_; try refine Wp.norm (L' := [_, _, _, _, _, _, _, _, _, _, _, _]) rfl ?_) | refine brT (by first | assumption | decide | omega) ?_ | refine brF (by first | assumption | decide | omega) ?_ | refine brTn (by first | assumption | decide | omega) ?_ | refine brFn (by first | assumption | decide | omega) ?_ | ((first | change (_ → _) ∧ (_ → _) | change vp_in _ _ ∧ _ | change ¬ _ ∧ _); simp (disch := omega) only [nI_clamp, nI_leI, nI_ltI, nI_eq, nI_1, nI_add, nI_not_neg, nI_is_pos, nI_m1, nI_z]) | refine And.intro (vp_in_nI (by omega) (by decide)) ?_ | refine And.intro (vp_lit (by decide)) ?_ | refine divJ (by decide) ?_ | refine divI (by decide) ?_)
        try change _ ∧ _
        first | rfl | (simp (disch := omega) only [nI_1, nI_add, nI_clamp] <;> first | done | rfl)
      | true =>
        refine brF (by decide) ?_
        repeat (first | (refine W1 rfl ?_; try refine Wp.norm (L' := [_, _, _, _, _, _, _, _, _, _, _, _]) rfl ?_) | refine brT (by first | assumption | decide | omega) ?_ | refine brF (by first | assumption | decide | omega) ?_ | refine brTn (by first | assumption | decide | omega) ?_ | refine brFn (by first | assumption | decide | omega) ?_ | ((first | change (_ → _) ∧ (_ → _) | change vp_in _ _ ∧ _ | change ¬ _ ∧ _); simp (disch := omega) only [nI_clamp, nI_leI, nI_ltI, nI_eq, nI_1, nI_add, nI_not_neg, nI_is_pos, nI_m1, nI_z]) | refine And.intro (vp_in_nI (by omega) (by decide)) ?_ | refine And.intro (vp_lit (by decide)) ?_ | refine divJ (by decide) ?_ | refine divI (by decide) ?_)
        try change _ ∧ _
        refine Cl.of (r_Calendar_dueOf R o hi ht) (by decide) ?_
        repeat (first | (refine W1 rfl ?_; try refine Wp.norm (L' := [_, _, _, _, _, _, _, _, _, _, _, _]) rfl ?_) | refine brT (by first | assumption | decide | omega) ?_ | refine brF (by first | assumption | decide | omega) ?_ | refine brTn (by first | assumption | decide | omega) ?_ | refine brFn (by first | assumption | decide | omega) ?_ | ((first | change (_ → _) ∧ (_ → _) | change vp_in _ _ ∧ _ | change ¬ _ ∧ _); simp (disch := omega) only [nI_clamp, nI_leI, nI_ltI, nI_eq, nI_1, nI_add, nI_not_neg, nI_is_pos, nI_m1, nI_z, e6]) | refine And.intro (vp_in_nI (by omega) (by decide)) ?_ | refine And.intro (vp_lit (by decide)) ?_ | refine divJ (by decide) ?_ | refine divI (by decide) ?_)
        try change _ ∧ _
        rw [show (nI (dueN s i t)).toInt64 - h.2 48 (i * 6 + tK s t) = lak s lv t i by rw [hl (tK s t) i hk hi]; rfl]
        have A100 : (cB (lkS s v lv t i).2 i = 0 ∨ (lkS s v lv t i).1 < lak s lv t i) → Wp 3 j_Rota_mostLacking 90 [.ref 45, .int (nI t), .int bl, .int y, .int (nI (tK s t)), .int l, .int (nI (cB (lkS s v lv t i).2 i)), .long (lkS s v lv t i).1, .null, .int (nI i), .long (lak s lv t i), .null] [] h (fun v' h2 => v' = some (.int (who s v lv t bl x)) ∧ h2 = lotH h bl x (cB (lkS s v lv t (zP s)).2 (zP s))) := by
          intro hn
          rw [lk_new ha hn, cB_one] at ih
          have ih := ih ((0 : Int32) ||| (1 <<< (nI i &&& 31))) (.long (lak s lv t i)) (fun q hq => by
            rw [bt_or, bt_zero, bt_shl (by omega) hq]; rfl)
          repeat (first | (refine W1 rfl ?_; try refine Wp.norm (L' := [_, _, _, _, _, _, _, _, _, _, _, _]) rfl ?_) | refine brT (by first | assumption | decide | omega) ?_ | refine brF (by first | assumption | decide | omega) ?_ | refine brTn (by first | assumption | decide | omega) ?_ | refine brFn (by first | assumption | decide | omega) ?_ | ((first | change (_ → _) ∧ (_ → _) | change vp_in _ _ ∧ _ | change ¬ _ ∧ _); simp (disch := omega) only [nI_clamp, nI_leI, nI_ltI, nI_eq, nI_1, nI_add, nI_not_neg, nI_is_pos, nI_m1, nI_z]) | refine And.intro (vp_in_nI (by omega) (by decide)) ?_ | refine And.intro (vp_lit (by decide)) ?_ | refine divJ (by decide) ?_ | refine divI (by decide) ?_)
          try change _ ∧ _
          rw [lgc_eq]
          refine brFn rfl ?_
          repeat (first | refine Wp.at ih rfl rfl ?_ rfl | (refine W1 rfl ?_; try refine Wp.norm (L' := [_, _, _, _, _, _, _, _, _, _, _, _]) rfl ?_) | refine brT (by first | assumption | decide | omega) ?_ | refine brF (by first | assumption | decide | omega) ?_ | refine brTn (by first | assumption | decide | omega) ?_ | refine brFn (by first | assumption | decide | omega) ?_ | ((first | change (_ → _) ∧ (_ → _) | change vp_in _ _ ∧ _ | change ¬ _ ∧ _); simp (disch := omega) only [nI_clamp, nI_leI, nI_ltI, nI_eq, nI_1, nI_add, nI_not_neg, nI_is_pos, nI_m1, nI_z]) | refine And.intro (vp_in_nI (by omega) (by decide)) ?_ | refine And.intro (vp_lit (by decide)) ?_ | refine divJ (by decide) ?_ | refine divI (by decide) ?_)
          try change _ ∧ _
          first | rfl | (simp (disch := omega) only [nI_1, nI_add, nI_clamp] <;> first | done | rfl)
        refine ⟨fun q0 => ?_, fun q0 => ?_⟩
        · exact A100 (Or.inl q0)
        · repeat (first | (refine W1 rfl ?_; try refine Wp.norm (L' := [_, _, _, _, _, _, _, _, _, _, _, _]) rfl ?_) | refine brT (by first | assumption | decide | omega) ?_ | refine brF (by first | assumption | decide | omega) ?_ | refine brTn (by first | assumption | decide | omega) ?_ | refine brFn (by first | assumption | decide | omega) ?_ | ((first | change (_ → _) ∧ (_ → _) | change vp_in _ _ ∧ _ | change ¬ _ ∧ _); simp (disch := omega) only [nI_clamp, nI_leI, nI_ltI, nI_eq, nI_1, nI_add, nI_not_neg, nI_is_pos, nI_m1, nI_z]) | refine And.intro (vp_in_nI (by omega) (by decide)) ?_ | refine And.intro (vp_lit (by decide)) ?_ | refine divJ (by decide) ?_ | refine divI (by decide) ?_)
          try change _ ∧ _
          rw [lgc_le]
          refine ⟨fun q1 => ?_, fun q1 => ?_⟩
          · have hn : ¬ (cB (lkS s v lv t i).2 i = 0 ∨ (lkS s v lv t i).1 < lak s lv t i) := fun z => z.elim q0 (fun w => absurd w (Int64.not_lt.mpr q1))
            repeat (first | (refine W1 rfl ?_; try refine Wp.norm (L' := [_, _, _, _, _, _, _, _, _, _, _, _]) rfl ?_) | refine brT (by first | assumption | decide | omega) ?_ | refine brF (by first | assumption | decide | omega) ?_ | refine brTn (by first | assumption | decide | omega) ?_ | refine brFn (by first | assumption | decide | omega) ?_ | ((first | change (_ → _) ∧ (_ → _) | change vp_in _ _ ∧ _ | change ¬ _ ∧ _); simp (disch := omega) only [nI_clamp, nI_leI, nI_ltI, nI_eq, nI_1, nI_add, nI_not_neg, nI_is_pos, nI_m1, nI_z]) | refine And.intro (vp_in_nI (by omega) (by decide)) ?_ | refine And.intro (vp_lit (by decide)) ?_ | refine divJ (by decide) ?_ | refine divI (by decide) ?_)
            try change _ ∧ _
            rw [lgc_eq]
            refine ⟨fun q2 => ?_, fun q2 => ?_⟩
            · rw [lk_no ha hn q2, cB_same (lkS_ge (Nat.le_refl _))] at ih
              have ih := ih l (.long (lak s lv t i)) A
              repeat (first | refine Wp.at ih rfl rfl ?_ rfl | (refine W1 rfl ?_; try refine Wp.norm (L' := [_, _, _, _, _, _, _, _, _, _, _, _]) rfl ?_) | refine brT (by first | assumption | decide | omega) ?_ | refine brF (by first | assumption | decide | omega) ?_ | refine brTn (by first | assumption | decide | omega) ?_ | refine brFn (by first | assumption | decide | omega) ?_ | ((first | change (_ → _) ∧ (_ → _) | change vp_in _ _ ∧ _ | change ¬ _ ∧ _); simp (disch := omega) only [nI_clamp, nI_leI, nI_ltI, nI_eq, nI_1, nI_add, nI_not_neg, nI_is_pos, nI_m1, nI_z]) | refine And.intro (vp_in_nI (by omega) (by decide)) ?_ | refine And.intro (vp_lit (by decide)) ?_ | refine divJ (by decide) ?_ | refine divI (by decide) ?_)
              try change _ ∧ _
              first | rfl | (simp (disch := omega) only [nI_1, nI_add, nI_clamp] <;> first | done | rfl)
            · rw [lk_eq ha hn q2, cB_more] at ih
              have ih := ih (l ||| (1 <<< (nI i &&& 31))) (.long (lak s lv t i)) (fun q hq => by
                rw [bt_or, bt_shl (by omega) hq, A q hq])
              repeat (first | refine Wp.at ih rfl rfl ?_ rfl | (refine W1 rfl ?_; try refine Wp.norm (L' := [_, _, _, _, _, _, _, _, _, _, _, _]) rfl ?_) | refine brT (by first | assumption | decide | omega) ?_ | refine brF (by first | assumption | decide | omega) ?_ | refine brTn (by first | assumption | decide | omega) ?_ | refine brFn (by first | assumption | decide | omega) ?_ | ((first | change (_ → _) ∧ (_ → _) | change vp_in _ _ ∧ _ | change ¬ _ ∧ _); simp (disch := omega) only [nI_clamp, nI_leI, nI_ltI, nI_eq, nI_1, nI_add, nI_not_neg, nI_is_pos, nI_m1, nI_z]) | refine And.intro (vp_in_nI (by omega) (by decide)) ?_ | refine And.intro (vp_lit (by decide)) ?_ | refine divJ (by decide) ?_ | refine divI (by decide) ?_)
              try change _ ∧ _
              first | rfl | (simp (disch := omega) only [nI_1, nI_add, nI_clamp] <;> first | done | rfl)
          · have ih := A100 (Or.inr (Int64.not_le.mp q1))
            repeat (first | refine Wp.at ih rfl rfl ?_ rfl | (refine W1 rfl ?_; try refine Wp.norm (L' := [_, _, _, _, _, _, _, _, _, _, _, _]) rfl ?_) | refine brT (by first | assumption | decide | omega) ?_ | refine brF (by first | assumption | decide | omega) ?_ | refine brTn (by first | assumption | decide | omega) ?_ | refine brFn (by first | assumption | decide | omega) ?_ | ((first | change (_ → _) ∧ (_ → _) | change vp_in _ _ ∧ _ | change ¬ _ ∧ _); simp (disch := omega) only [nI_clamp, nI_leI, nI_ltI, nI_eq, nI_1, nI_add, nI_not_neg, nI_is_pos, nI_m1, nI_z]) | refine And.intro (vp_in_nI (by omega) (by decide)) ?_ | refine And.intro (vp_lit (by decide)) ?_ | refine divJ (by decide) ?_ | refine divI (by decide) ?_)
            try change _ ∧ _
            first | rfl | (simp (disch := omega) only [nI_1, nI_add, nI_clamp] <;> first | done | rfl)
  refine Run.of rfl ?_
  refine Wp.norm (L' := [_, _, _, _, _, _, _, _, _, _, _, _]) rfl ?_
  repeat (first | (refine W1 rfl ?_; try refine Wp.norm (L' := [_, _, _, _, _, _, _, _, _, _, _, _]) rfl ?_) | refine brT (by first | assumption | decide | omega) ?_ | refine brF (by first | assumption | decide | omega) ?_ | refine brTn (by first | assumption | decide | omega) ?_ | refine brFn (by first | assumption | decide | omega) ?_ | ((first | change (_ → _) ∧ (_ → _) | change vp_in _ _ ∧ _ | change ¬ _ ∧ _); simp (disch := omega) only [nI_clamp, nI_leI, nI_ltI, nI_eq, nI_1, nI_add, nI_not_neg, nI_is_pos, nI_m1, nI_z]) | refine And.intro (vp_in_nI (by omega) (by decide)) ?_ | refine And.intro (vp_lit (by decide)) ?_ | refine divJ (by decide) ?_ | refine divI (by decide) ?_)
  try change _ ∧ _
  refine Cl.of r1 (by decide) ?_
  have ih := lp 0 (Nat.zero_le _) 0 .null (fun q hq => bt_zero q)
  repeat (first | refine Wp.at ih rfl rfl ?_ rfl | (refine W1 rfl ?_; try refine Wp.norm (L' := [_, _, _, _, _, _, _, _, _, _, _, _]) rfl ?_) | refine brT (by first | assumption | decide | omega) ?_ | refine brF (by first | assumption | decide | omega) ?_ | refine brTn (by first | assumption | decide | omega) ?_ | refine brFn (by first | assumption | decide | omega) ?_ | ((first | change (_ → _) ∧ (_ → _) | change vp_in _ _ ∧ _ | change ¬ _ ∧ _); simp (disch := omega) only [nI_clamp, nI_leI, nI_ltI, nI_eq, nI_1, nI_add, nI_not_neg, nI_is_pos, nI_m1, nI_z]) | refine And.intro (vp_in_nI (by omega) (by decide)) ?_ | refine And.intro (vp_lit (by decide)) ?_ | refine divJ (by decide) ?_ | refine divI (by decide) ?_)
  try change _ ∧ _
  first | rfl | (simp (disch := omega) only [nI_1, nI_add, nI_clamp, R.knd] <;> first | done | rfl)
end LACK
