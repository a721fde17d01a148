/-! ===== TESTS ARE TRIED: the model ===== -/
def HX (h h' : HP) : Prop := (∀ k i, ¬ (k = 65 ∧ i = 54) → h'.1 k i = h.1 k i) ∧ (∀ k i, k ≠ 105 → h'.2 k i = h.2 k i)
theorem HX.rfl (h : HP) : HX h h := ⟨fun _ _ _ => Eq.refl _, fun _ _ _ => Eq.refl _⟩
theorem HX.trans {a b c : HP} (h1 : HX a b) (h2 : HX b c) : HX a c := ⟨fun k i x => (h2.1 k i x).trans (h1.1 k i x), fun k i x => (h2.2 k i x).trans (h1.2 k i x)⟩
theorem HX.w {h h' : HP} {x : Int32} (F : HX h h') : HX h (wI h' 65 54 x) := ⟨fun k i z => by
  rw [← F.1 k i z]
  by_cases e : k = 65
  · subst e
    rw [wI_ne2 _ _ (fun y => z ⟨Eq.refl _, y⟩)]
  · rw [wI_ne _ _ _ e], F.2⟩
theorem HX.j {h h' : HP} {k : Nat} {x : Int64} (F : HX h h') : HX h (wJ h' 105 k x) := ⟨F.1, fun k' i z => by rw [← F.2 k' i z, wJ_2, if_neg z]⟩
def PV : List Int → HP → Prop
  | [], _ => True
  | v :: S, h => h.2 105 S.length = lI v ∧ PV S h
section MTR
variable {h h' : HP}
theorem PV.w {k : Nat} {x : Int64} : ∀ {S : List Int}, PV S h → S.length ≤ k → PV S (wJ h 105 k x)
  | [], _, _ => trivial
  | v :: S, hS, hk => by
    have hk : S.length + 1 ≤ k := hk
    refine ⟨?_, PV.w hS.2 (by omega)⟩
    rw [← hS.1]
    simp only [wJ, va_up, vp_updL, reduceIte]
    rw [if_neg (by omega)]
theorem PV.i {x : Int32} : ∀ {S : List Int}, PV S h → PV S (wI h 65 54 x)
  | [], _ => trivial
  | _ :: _, hS => ⟨hS.1, PV.i hS.2⟩
theorem clE_id {v : Int} (hv : bE v) : clE v = v := by
  unfold clE bE at *
  rw [if_neg (by omega), if_neg (by omega)]
/-- the pile with one more -/
def pT (h : HP) (k : Nat) (v : Int) : HP := wI (wJ h 105 k (lI v)) 65 54 (nI (k + 1))
theorem r_puts {k : Nat} (hk : k < 1000) (e : h.1 65 54 = nI k) (x : Int64) : Run 0 j_M_puts [.ref 65, .long x] h none (pT h k (clE x.toInt)) := by
  have t1 : (1000000000 : Int64).toInt = 1000000000 := rfl
  have t2 : (-1000000000 : Int64).toInt = -1000000000 := rfl
  have ex : ∀ z : Int64, (wJ h 105 k z).1 65 54 = nI k := fun _ => e
  unfold pT clE
  by_cases c1 : x ≤ 1000000000
  · have c1' := c1
    rw [Int64.le_iff_toInt_le, t1] at c1'
    rw [if_neg (by omega)]
    by_cases c2 : -1000000000 ≤ x
    · have c2' := c2
      rw [Int64.le_iff_toInt_le, t2] at c2'
      rw [if_neg (by omega), show lI x.toInt = x from Int64.ofInt_toInt x]
      refine Run.of rfl ?_
      refine Wp.norm (L' := [_, _, _]) rfl ?_
      repeat (first | (refine W1 rfl ?_; try refine Wp.norm (L' := [_, _, _]) rfl ?_) | ((first | change (_ → _) ∧ (_ → _) | change vp_in _ _ ∧ _ | change ¬ _ ∧ _); simp (disch := omega) only [nI_clamp, nI_leI, nI_ltI, nI_eq, nI_1, nI_add, nI_not_neg, nI_is_pos, nI_m1, nI_z, e, lgc_le, lgc_ge, ex]) | refine brT (by first | assumption | decide | omega) ?_ | refine brF (by first | assumption | decide | omega) ?_ | refine brTn (by first | assumption | decide | omega) ?_ | refine brFn (by first | assumption | decide | omega) ?_ | refine And.intro (vp_in_nI (by omega) (by decide)) ?_ | refine And.intro (vp_lit (by decide)) ?_ | refine divJ (by decide) ?_ | refine divI (by decide) ?_)
      try change _ ∧ _
      try simp (disch := omega) only [e, ex, nI_clamp, nI_1, nI_add]
      first | done | exact ⟨rfl, rfl⟩ | exact ⟨trivial, rfl⟩ | exact ⟨trivial, trivial⟩
    · have c2' := c2
      rw [Int64.le_iff_toInt_le, t2] at c2'
      rw [if_pos (by omega), show lI (-1000000000) = -1000000000 from rfl]
      refine Run.of rfl ?_
      refine Wp.norm (L' := [_, _, _]) rfl ?_
      repeat (first | (refine W1 rfl ?_; try refine Wp.norm (L' := [_, _, _]) rfl ?_) | ((first | change (_ → _) ∧ (_ → _) | change vp_in _ _ ∧ _ | change ¬ _ ∧ _); simp (disch := omega) only [nI_clamp, nI_leI, nI_ltI, nI_eq, nI_1, nI_add, nI_not_neg, nI_is_pos, nI_m1, nI_z, e, lgc_le, lgc_ge, ex]) | refine brT (by first | assumption | decide | omega) ?_ | refine brF (by first | assumption | decide | omega) ?_ | refine brTn (by first | assumption | decide | omega) ?_ | refine brFn (by first | assumption | decide | omega) ?_ | refine And.intro (vp_in_nI (by omega) (by decide)) ?_ | refine And.intro (vp_lit (by decide)) ?_ | refine divJ (by decide) ?_ | refine divI (by decide) ?_)
      try change _ ∧ _
      try simp (disch := omega) only [e, ex, nI_clamp, nI_1, nI_add]
      first | done | exact ⟨rfl, rfl⟩ | exact ⟨trivial, rfl⟩ | exact ⟨trivial, trivial⟩
  · have c1' := c1
    rw [Int64.le_iff_toInt_le, t1] at c1'
    rw [if_pos (by omega), show lI 1000000000 = 1000000000 from rfl]
    refine Run.of rfl ?_
    refine Wp.norm (L' := [_, _, _]) rfl ?_
    repeat (first | (refine W1 rfl ?_; try refine Wp.norm (L' := [_, _, _]) rfl ?_) | ((first | change (_ → _) ∧ (_ → _) | change vp_in _ _ ∧ _ | change ¬ _ ∧ _); simp (disch := omega) only [nI_clamp, nI_leI, nI_ltI, nI_eq, nI_1, nI_add, nI_not_neg, nI_is_pos, nI_m1, nI_z, e, lgc_le, lgc_ge, ex]) | refine brT (by first | assumption | decide | omega) ?_ | refine brF (by first | assumption | decide | omega) ?_ | refine brTn (by first | assumption | decide | omega) ?_ | refine brFn (by first | assumption | decide | omega) ?_ | refine And.intro (vp_in_nI (by omega) (by decide)) ?_ | refine And.intro (vp_lit (by decide)) ?_ | refine divJ (by decide) ?_ | refine divI (by decide) ?_)
    try change _ ∧ _
    try simp (disch := omega) only [e, ex, nI_clamp, nI_1, nI_add]
    first | done | exact ⟨rfl, rfl⟩ | exact ⟨trivial, rfl⟩ | exact ⟨trivial, trivial⟩
theorem lq_div {a b : Int} (ha : bE a) (hb : bE b) : lI a / lI b = lI (a.tdiv b) := by
  refine i64_of ?_
  have := (td_b (b := b) ha).1
  rw [Int64.toInt_div, ha.l, hb.l]
  unfold bE at this
  exact bm64 (by omega) (by omega)
theorem lq_mul {a b : Int} (ha : bE a) (hb : bE b) : lI a * lI b = lI (a * b) ∧ (lI a * lI b).toInt = a * b := by
  have h3 : (a * b).natAbs ≤ 1000000000 * 1000000000 := by
    rw [Int.natAbs_mul]
    unfold bE at ha hb
    exact Nat.mul_le_mul (by omega) (by omega)
  have : (lI a * lI b).toInt = a * b := by
    rw [Int64.toInt_mul, ha.l, hb.l]
    exact bm64 (by omega) (by omega)
  exact ⟨i64_of this, this⟩
theorem lq_sub {a b : Int} (ha : bE a) (hb : bE b) : lI a - lI b = lI (a - b) ∧ (lI a - lI b).toInt = a - b := by
  have : (lI a - lI b).toInt = a - b := by
    rw [Int64.toInt_sub, ha.l, hb.l]
    unfold bE at ha hb
    exact bm64 (by omega) (by omega)
  exact ⟨i64_of this, this⟩
theorem lq_add {a b : Int} (ha : bE a) (hb : bE b) : (lI a + lI b).toInt = a + b := by
  rw [Int64.toInt_add, ha.l, hb.l]
  unfold bE at ha hb
  exact bm64 (by omega) (by omega)
theorem r_floor {a b : Int} (h : HP) (ha : bE a) (hb : bE b) (h0 : b ≠ 0) : Run 0 j_M_floor [.long (lI a), .long (lI b)] h (some (.long (lI (flE a b)))) h := by
  have hn : ¬ lI b = 0 := fun z => h0 ((lI_eq hb bE_0).mp z)
  have ed := lq_div ha hb
  obtain ⟨t1, t2⟩ := td_b (b := b) ha
  have em := (lq_mul t1 hb).1
  have ee := lI_eq t2 ha
  have la : (lI a < 0) ↔ a < 0 := lI_lt ha bE_0
  have lb : (lI b < 0) ↔ b < 0 := lI_lt hb bE_0
  have la' : (0 ≤ lI a) ↔ 0 ≤ a := lI_le bE_0 ha
  have lb' : (0 ≤ lI b) ↔ 0 ≤ b := lI_le bE_0 hb
  have es : lI (a.tdiv b) - 1 = lI (a.tdiv b - 1) := (lq_sub t1 bE_1).1
  unfold flE
  by_cases c2 : a.tdiv b * b = a
  · rw [if_neg (fun z => z.1 c2)]
    have ee := ee.mpr c2
    refine Run.of rfl ?_
    refine Wp.norm (L' := [_, _, _, _, _, _]) rfl ?_
    repeat (first | (refine W1 rfl ?_; try refine Wp.norm (L' := [_, _, _, _, _, _]) rfl ?_) | ((first | change (_ → _) ∧ (_ → _) | change vp_in _ _ ∧ _ | change ¬ _ ∧ _); simp (disch := omega) only [nI_clamp, nI_leI, nI_ltI, nI_eq, nI_1, nI_add, nI_not_neg, nI_is_pos, nI_m1, nI_z]) | refine brT (by first | assumption | decide | omega) ?_ | refine brF (by first | assumption | decide | omega) ?_ | refine brTn (by first | assumption | decide | omega) ?_ | refine brFn (by first | assumption | decide | omega) ?_ | refine And.intro (vp_in_nI (by omega) (by decide)) ?_ | refine And.intro (vp_lit (by decide)) ?_ | refine divJ (by decide) ?_ | refine divI (by decide) ?_)
    try change _ ∧ _
    refine ⟨hn, ?_⟩
    show Wp 0 j_M_floor _ _ _ _ _
    rw [ed]
    repeat (first | (refine W1 rfl ?_; try refine Wp.norm (L' := [_, _, _, _, _, _]) rfl ?_) | ((first | change (_ → _) ∧ (_ → _) | change vp_in _ _ ∧ _ | change ¬ _ ∧ _); simp (disch := omega) only [nI_clamp, nI_leI, nI_ltI, nI_eq, nI_1, nI_add, nI_not_neg, nI_is_pos, nI_m1, nI_z, em, lgc_eq]) | refine brT (by first | assumption | decide | omega) ?_ | refine brF (by first | assumption | decide | omega) ?_ | refine brTn (by first | assumption | decide | omega) ?_ | refine brFn (by first | assumption | decide | omega) ?_ | refine And.intro (vp_in_nI (by omega) (by decide)) ?_ | refine And.intro (vp_lit (by decide)) ?_ | refine divJ (by decide) ?_ | refine divI (by decide) ?_)
    try change _ ∧ _
    try first | exact ⟨rfl, rfl⟩ | exact ⟨Or.inr rfl, rfl, rfl⟩ | exact ⟨Or.inl rfl, rfl, rfl⟩ | exact ⟨trivial, trivial⟩ | exact ⟨rfl, trivial⟩ | exact ⟨Or.inr rfl, rfl, trivial⟩ | exact ⟨Or.inl rfl, rfl, trivial⟩
  · have ee : ¬ lI (a.tdiv b * b) = lI a := fun z => c2 (ee.mp z)
    by_cases ca : 0 ≤ a
    · have la' := la'.mpr ca
      by_cases cb : 0 ≤ b
      · have lb' := lb'.mpr cb
        rw [if_neg (fun z => z.2 (by omega))]
        refine Run.of rfl ?_
        refine Wp.norm (L' := [_, _, _, _, _, _]) rfl ?_
        repeat (first | (refine W1 rfl ?_; try refine Wp.norm (L' := [_, _, _, _, _, _]) rfl ?_) | ((first | change (_ → _) ∧ (_ → _) | change vp_in _ _ ∧ _ | change ¬ _ ∧ _); simp (disch := omega) only [nI_clamp, nI_leI, nI_ltI, nI_eq, nI_1, nI_add, nI_not_neg, nI_is_pos, nI_m1, nI_z]) | refine brT (by first | assumption | decide | omega) ?_ | refine brF (by first | assumption | decide | omega) ?_ | refine brTn (by first | assumption | decide | omega) ?_ | refine brFn (by first | assumption | decide | omega) ?_ | refine And.intro (vp_in_nI (by omega) (by decide)) ?_ | refine And.intro (vp_lit (by decide)) ?_ | refine divJ (by decide) ?_ | refine divI (by decide) ?_)
        try change _ ∧ _
        refine ⟨hn, ?_⟩
        show Wp 0 j_M_floor _ _ _ _ _
        rw [ed]
        repeat (first | (refine W1 rfl ?_; try refine Wp.norm (L' := [_, _, _, _, _, _]) rfl ?_) | ((first | change (_ → _) ∧ (_ → _) | change vp_in _ _ ∧ _ | change ¬ _ ∧ _); simp (disch := omega) only [nI_clamp, nI_leI, nI_ltI, nI_eq, nI_1, nI_add, nI_not_neg, nI_is_pos, nI_m1, nI_z, em, lgc_eq, lgc_ge]) | refine brT (by first | assumption | decide | omega) ?_ | refine brF (by first | assumption | decide | omega) ?_ | refine brTn (by first | assumption | decide | omega) ?_ | refine brFn (by first | assumption | decide | omega) ?_ | refine And.intro (vp_in_nI (by omega) (by decide)) ?_ | refine And.intro (vp_lit (by decide)) ?_ | refine divJ (by decide) ?_ | refine divI (by decide) ?_)
        try change _ ∧ _
        try first | exact ⟨rfl, rfl⟩ | exact ⟨Or.inr rfl, rfl, rfl⟩ | exact ⟨Or.inl rfl, rfl, rfl⟩ | exact ⟨trivial, trivial⟩ | exact ⟨rfl, trivial⟩ | exact ⟨Or.inr rfl, rfl, trivial⟩ | exact ⟨Or.inl rfl, rfl, trivial⟩
      · have lb' : ¬ 0 ≤ lI b := fun z => cb (lb'.mp z)
        rw [if_pos ⟨c2, by omega⟩]
        refine Run.of rfl ?_
        refine Wp.norm (L' := [_, _, _, _, _, _]) rfl ?_
        repeat (first | (refine W1 rfl ?_; try refine Wp.norm (L' := [_, _, _, _, _, _]) rfl ?_) | ((first | change (_ → _) ∧ (_ → _) | change vp_in _ _ ∧ _ | change ¬ _ ∧ _); simp (disch := omega) only [nI_clamp, nI_leI, nI_ltI, nI_eq, nI_1, nI_add, nI_not_neg, nI_is_pos, nI_m1, nI_z]) | refine brT (by first | assumption | decide | omega) ?_ | refine brF (by first | assumption | decide | omega) ?_ | refine brTn (by first | assumption | decide | omega) ?_ | refine brFn (by first | assumption | decide | omega) ?_ | refine And.intro (vp_in_nI (by omega) (by decide)) ?_ | refine And.intro (vp_lit (by decide)) ?_ | refine divJ (by decide) ?_ | refine divI (by decide) ?_)
        try change _ ∧ _
        refine ⟨hn, ?_⟩
        show Wp 0 j_M_floor _ _ _ _ _
        rw [ed]
        repeat (first | (refine W1 rfl ?_; try refine Wp.norm (L' := [_, _, _, _, _, _]) rfl ?_) | ((first | change (_ → _) ∧ (_ → _) | change vp_in _ _ ∧ _ | change ¬ _ ∧ _); simp (disch := omega) only [nI_clamp, nI_leI, nI_ltI, nI_eq, nI_1, nI_add, nI_not_neg, nI_is_pos, nI_m1, nI_z, em, lgc_eq, lgc_ge]) | refine brT (by first | assumption | decide | omega) ?_ | refine brF (by first | assumption | decide | omega) ?_ | refine brTn (by first | assumption | decide | omega) ?_ | refine brFn (by first | assumption | decide | omega) ?_ | refine And.intro (vp_in_nI (by omega) (by decide)) ?_ | refine And.intro (vp_lit (by decide)) ?_ | refine divJ (by decide) ?_ | refine divI (by decide) ?_)
        try change _ ∧ _
        exact ⟨congrArg (fun z => some (Value.long z)) es, rfl⟩
    · have la' : ¬ 0 ≤ lI a := fun z => ca (la'.mp z)
      by_cases cb : 0 ≤ b
      · have lb' := lb'.mpr cb
        rw [if_pos ⟨c2, by omega⟩]
        refine Run.of rfl ?_
        refine Wp.norm (L' := [_, _, _, _, _, _]) rfl ?_
        repeat (first | (refine W1 rfl ?_; try refine Wp.norm (L' := [_, _, _, _, _, _]) rfl ?_) | ((first | change (_ → _) ∧ (_ → _) | change vp_in _ _ ∧ _ | change ¬ _ ∧ _); simp (disch := omega) only [nI_clamp, nI_leI, nI_ltI, nI_eq, nI_1, nI_add, nI_not_neg, nI_is_pos, nI_m1, nI_z]) | refine brT (by first | assumption | decide | omega) ?_ | refine brF (by first | assumption | decide | omega) ?_ | refine brTn (by first | assumption | decide | omega) ?_ | refine brFn (by first | assumption | decide | omega) ?_ | refine And.intro (vp_in_nI (by omega) (by decide)) ?_ | refine And.intro (vp_lit (by decide)) ?_ | refine divJ (by decide) ?_ | refine divI (by decide) ?_)
        try change _ ∧ _
        refine ⟨hn, ?_⟩
        show Wp 0 j_M_floor _ _ _ _ _
        rw [ed]
        repeat (first | (refine W1 rfl ?_; try refine Wp.norm (L' := [_, _, _, _, _, _]) rfl ?_) | ((first | change (_ → _) ∧ (_ → _) | change vp_in _ _ ∧ _ | change ¬ _ ∧ _); simp (disch := omega) only [nI_clamp, nI_leI, nI_ltI, nI_eq, nI_1, nI_add, nI_not_neg, nI_is_pos, nI_m1, nI_z, em, lgc_eq, lgc_ge]) | refine brT (by first | assumption | decide | omega) ?_ | refine brF (by first | assumption | decide | omega) ?_ | refine brTn (by first | assumption | decide | omega) ?_ | refine brFn (by first | assumption | decide | omega) ?_ | refine And.intro (vp_in_nI (by omega) (by decide)) ?_ | refine And.intro (vp_lit (by decide)) ?_ | refine divJ (by decide) ?_ | refine divI (by decide) ?_)
        try change _ ∧ _
        exact ⟨congrArg (fun z => some (Value.long z)) es, rfl⟩
      · have lb' : ¬ 0 ≤ lI b := fun z => cb (lb'.mp z)
        rw [if_neg (fun z => z.2 (by omega))]
        refine Run.of rfl ?_
        refine Wp.norm (L' := [_, _, _, _, _, _]) rfl ?_
        repeat (first | (refine W1 rfl ?_; try refine Wp.norm (L' := [_, _, _, _, _, _]) rfl ?_) | ((first | change (_ → _) ∧ (_ → _) | change vp_in _ _ ∧ _ | change ¬ _ ∧ _); simp (disch := omega) only [nI_clamp, nI_leI, nI_ltI, nI_eq, nI_1, nI_add, nI_not_neg, nI_is_pos, nI_m1, nI_z]) | refine brT (by first | assumption | decide | omega) ?_ | refine brF (by first | assumption | decide | omega) ?_ | refine brTn (by first | assumption | decide | omega) ?_ | refine brFn (by first | assumption | decide | omega) ?_ | refine And.intro (vp_in_nI (by omega) (by decide)) ?_ | refine And.intro (vp_lit (by decide)) ?_ | refine divJ (by decide) ?_ | refine divI (by decide) ?_)
        try change _ ∧ _
        refine ⟨hn, ?_⟩
        show Wp 0 j_M_floor _ _ _ _ _
        rw [ed]
        repeat (first | (refine W1 rfl ?_; try refine Wp.norm (L' := [_, _, _, _, _, _]) rfl ?_) | ((first | change (_ → _) ∧ (_ → _) | change vp_in _ _ ∧ _ | change ¬ _ ∧ _); simp (disch := omega) only [nI_clamp, nI_leI, nI_ltI, nI_eq, nI_1, nI_add, nI_not_neg, nI_is_pos, nI_m1, nI_z, em, lgc_eq, lgc_ge]) | refine brT (by first | assumption | decide | omega) ?_ | refine brF (by first | assumption | decide | omega) ?_ | refine brTn (by first | assumption | decide | omega) ?_ | refine brFn (by first | assumption | decide | omega) ?_ | refine And.intro (vp_in_nI (by omega) (by decide)) ?_ | refine And.intro (vp_lit (by decide)) ?_ | refine divJ (by decide) ?_ | refine divI (by decide) ?_)
        try change _ ∧ _
        try first | exact ⟨rfl, rfl⟩ | exact ⟨Or.inr rfl, rfl, rfl⟩ | exact ⟨Or.inl rfl, rfl, rfl⟩ | exact ⟨trivial, trivial⟩ | exact ⟨rfl, trivial⟩ | exact ⟨Or.inr rfl, rfl, trivial⟩ | exact ⟨Or.inl rfl, rfl, trivial⟩
end MTR
