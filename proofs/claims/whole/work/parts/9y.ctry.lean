/-! ===== TESTS ARE TRIED: the class ===== -/
def lfE (c d : Nat) : Int := if 1000 ≤ c then ((c - 1000 : Nat) : Int) else if c = 6 then (d : Int) else if c = 7 then ((d / 7 : Nat) : Int) else if c = 8 then ((d % 7 : Nat) : Int) else 1
def evS (c d : Nat) (S : List Int) : List Int :=
  if (1000 ≤ c ∧ c < 11000) ∨ c = 6 ∨ c = 7 ∨ c = 8 ∨ c = 17 then lfE c d :: S
  else if c = 16 then (match S with | x :: S' => (1 - x) :: S' | [] => [])
  else (match S with | b :: a :: S' => opE c a b :: S' | _ => [])
def evL : List Nat → Nat → List Int → List Int
  | [], _, S => S
  | c :: C, d, S => evL C d (evS c d S)
def VT : List Bool → List Int → Prop
  | [], [] => True
  | t :: B, v :: S => (if t = true then v = 0 ∨ v = 1 else bE v) ∧ VT B S
  | _, _ => False
theorem VT.len : ∀ {B : List Bool} {S : List Int}, VT B S → S.length = B.length
  | [], [], _ => rfl
  | _ :: _, _ :: _, h => by show _ + 1 = _ + 1; rw [VT.len h.2]
  | [], _ :: _, h => False.elim h
  | _ :: _, [], h => False.elim h
theorem VT.ex {t : Bool} {B : List Bool} {S : List Int} (h : VT (t :: B) S) : ∃ v S', S = v :: S' ∧ (if t = true then v = 0 ∨ v = 1 else bE v) ∧ VT B S' := by
  cases S with
  | nil => exact False.elim h
  | cons v S' => exact ⟨v, S', rfl, h⟩
theorem b01 {v : Int} (h : v = 0 ∨ v = 1) : bE v := by rcases h with rfl | rfl <;> (unfold bE; omega)
theorem nI_iI (k : Nat) : nI k = iI (k : Int) := rfl
/-- what a code does to a typed stack -/
theorem ty_ev {c d : Nat} {B B' : List Bool} {S : List Int} (hd : d < 200) (ht : tyS c B = some B') (hv : VT B S) :
  (((1000 ≤ c ∧ c < 11000) ∨ c = 6 ∨ c = 7 ∨ c = 8 ∨ c = 17) ∧ evS c d S = lfE c d :: S ∧ bE (lfE c d) ∧ VT B' (lfE c d :: S) ∧ S.length < 60) ∨
  (c = 16 ∧ ∃ x S', S = x :: S' ∧ (x = 0 ∨ x = 1) ∧ evS c d S = (1 - x) :: S' ∧ VT B' ((1 - x) :: S')) ∨
  (((1 ≤ c ∧ c ≤ 5) ∨ (11 ≤ c ∧ c ≤ 15)) ∧ ∃ x y S', S = y :: x :: S' ∧ bE x ∧ bE y ∧ (c = 14 ∨ c = 15 → (x = 0 ∨ x = 1) ∧ (y = 0 ∨ y = 1)) ∧ evS c d S = opE c x y :: S' ∧ VT B' (opE c x y :: S')) := by
  have hl := hv.len
  unfold tyS at ht
  by_cases c1 : (1000 ≤ c ∧ c < 11000) ∨ c = 6 ∨ c = 7 ∨ c = 8
  · rw [if_pos c1] at ht
    by_cases c2 : B.length < 60
    · rw [if_pos c2] at ht
      cases ht
      have hb : bE (lfE c d) := by
        unfold lfE bE
        split
        · omega
        split
        · omega
        split
        · omega
        split <;> omega
      left
      refine ⟨by omega, ?_, hb, ⟨?_, hv⟩, by omega⟩
      · unfold evS; rw [if_pos (by omega)]
      · rw [if_neg (by decide)]; exact hb
    · rw [if_neg c2] at ht; cases ht
  · rw [if_neg c1] at ht
    by_cases c17 : c = 17
    · rw [if_pos c17] at ht
      by_cases c2 : B.length < 60
      · rw [if_pos c2] at ht
        cases ht
        have hb : lfE c d = 1 := by subst c17; rfl
        left
        refine ⟨by omega, ?_, ?_, ⟨?_, hv⟩, by omega⟩
        · unfold evS; rw [if_pos (by omega)]
        · rw [hb]; exact bE_1
        · rw [if_pos rfl]; exact Or.inr hb
      · rw [if_neg c2] at ht; cases ht
    · rw [if_neg c17] at ht
      by_cases c16 : c = 16
      · rw [if_pos c16] at ht
        right; left
        cases B with
        | nil => cases ht
        | cons t B =>
          cases t with
          | false => cases ht
          | true =>
            cases ht
            obtain ⟨v, S', rfl, h1, h2⟩ := hv.ex
            rw [if_pos rfl] at h1
            refine ⟨c16, v, S', rfl, h1, ?_, ?_, h2⟩
            · unfold evS; rw [if_neg (by omega), if_pos c16]
            · rw [if_pos rfl]; omega
      · rw [if_neg c16] at ht
        right; right
        by_cases c5 : 1 ≤ c ∧ c ≤ 5
        · rw [if_pos c5] at ht
          match B, ht, hv with
          | false :: false :: B, ht, hv =>
            cases ht
            obtain ⟨y, S1, rfl, h1, h2⟩ := hv.ex
            obtain ⟨x, S', rfl, h3, h4⟩ := h2.ex
            rw [if_neg (by decide)] at h1 h3
            refine ⟨Or.inl c5, x, y, S', rfl, h3, h1, fun z => by omega, ?_, ?_, h4⟩
            · unfold evS; rw [if_neg (by omega), if_neg c16]
            · rw [if_neg (by decide)]; exact (op_b h3 h1).1
          | [], ht, _ => cases ht
          | [false], ht, _ => cases ht
          | true :: _, ht, _ => cases ht
          | false :: true :: _, ht, _ => cases ht
        · rw [if_neg c5] at ht
          by_cases c11 : 11 ≤ c ∧ c ≤ 13
          · rw [if_pos c11] at ht
            match B, ht, hv with
            | false :: false :: B, ht, hv =>
              cases ht
              obtain ⟨y, S1, rfl, h1, h2⟩ := hv.ex
              obtain ⟨x, S', rfl, h3, h4⟩ := h2.ex
              rw [if_neg (by decide)] at h1 h3
              refine ⟨Or.inr (by omega), x, y, S', rfl, h3, h1, fun z => by omega, ?_, ?_, h4⟩
              · unfold evS; rw [if_neg (by omega), if_neg c16]
              · rw [if_pos rfl]; exact (op_b h3 h1).2 (by omega)
            | [], ht, _ => cases ht
            | [false], ht, _ => cases ht
            | true :: _, ht, _ => cases ht
            | false :: true :: _, ht, _ => cases ht
          · rw [if_neg c11] at ht
            by_cases c14 : c = 14 ∨ c = 15
            · rw [if_pos c14] at ht
              match B, ht, hv with
              | true :: true :: B, ht, hv =>
                cases ht
                obtain ⟨y, S1, rfl, h1, h2⟩ := hv.ex
                obtain ⟨x, S', rfl, h3, h4⟩ := h2.ex
                rw [if_pos rfl] at h1 h3
                refine ⟨Or.inr (by omega), x, y, S', rfl, b01 h3, b01 h1, fun z => ⟨h3, h1⟩, ?_, ?_, h4⟩
                · unfold evS; rw [if_neg (by omega), if_neg c16]
                · rw [if_pos rfl]; exact (op_b (b01 h3) (b01 h1)).2 (by omega)
              | [], ht, _ => cases ht
              | [true], ht, _ => cases ht
              | false :: _, ht, _ => cases ht
              | true :: false :: _, ht, _ => cases ht
            · rw [if_neg c14] at ht; cases ht
section CTR
variable {h h' : HP}
theorem r_within (h : HP) (x : Int64) : Run 1 j_Tests_within [.long x] h (some (.int (iI (clE x.toInt)))) h := by
  have t1 : (1000000000 : Int64).toInt = 1000000000 := rfl
  have t2 : (-1000000000 : Int64).toInt = -1000000000 := rfl
  have e : (mxJ (-1000000000) (mnJ 1000000000 x)).toInt32 = iI (clE x.toInt) := by
    refine i32_of ?_
    rw [Int64.toInt_toInt32]
    have hb := clE_b x.toInt
    have : (mxJ (-1000000000) (mnJ 1000000000 x)).toInt = clE x.toInt := by
      unfold mxJ mnJ clE
      by_cases c1 : x < 1000000000
      · rw [if_pos c1]
        rw [Int64.lt_iff_toInt_lt, t1] at c1
        by_cases c2 : -1000000000 < x
        · rw [if_pos c2]
          rw [Int64.lt_iff_toInt_lt, t2] at c2
          rw [if_neg (by omega), if_neg (by omega)]
        · rw [if_neg c2, t2]
          rw [Int64.lt_iff_toInt_lt, t2] at c2
          rw [if_neg (by omega)]
          split <;> omega
      · rw [if_neg c1, if_pos (by decide), t1]
        rw [Int64.lt_iff_toInt_lt, t1] at c1
        split
        · rfl
        · split <;> omega
    rw [this]
    unfold bE at hb
    exact bm32 (by omega) (by omega)
  refine Run.of rfl ?_
  refine Wp.norm (L' := [_, _]) rfl ?_
  repeat (first | (refine W1 rfl ?_; try refine Wp.norm (L' := [_, _]) rfl ?_) | ((first | change (_ → _) ∧ (_ → _) | change vp_in _ _ ∧ _ | change ¬ _ ∧ _); simp (disch := omega) only [nI_clamp, nI_leI, nI_ltI, nI_eq, nI_1, nI_add, nI_not_neg, nI_is_pos, nI_m1, nI_z]) | refine brT (by first | assumption | decide | omega) ?_ | refine brF (by first | assumption | decide | omega) ?_ | refine brTn (by first | assumption | decide | omega) ?_ | refine brFn (by first | assumption | decide | omega) ?_ | refine And.intro (vp_in_nI (by omega) (by decide)) ?_ | refine And.intro (vp_lit (by decide)) ?_ | refine divJ (by decide) ?_ | refine divI (by decide) ?_)
  try change _ ∧ _
  refine Cl.of (r_minJ h _ _) (by decide) ?_
  show Wp 1 j_Tests_within _ _ _ _ _
  repeat (first | (refine W1 rfl ?_; try refine Wp.norm (L' := [_, _]) rfl ?_) | ((first | change (_ → _) ∧ (_ → _) | change vp_in _ _ ∧ _ | change ¬ _ ∧ _); simp (disch := omega) only [nI_clamp, nI_leI, nI_ltI, nI_eq, nI_1, nI_add, nI_not_neg, nI_is_pos, nI_m1, nI_z]) | refine brT (by first | assumption | decide | omega) ?_ | refine brF (by first | assumption | decide | omega) ?_ | refine brTn (by first | assumption | decide | omega) ?_ | refine brFn (by first | assumption | decide | omega) ?_ | refine And.intro (vp_in_nI (by omega) (by decide)) ?_ | refine And.intro (vp_lit (by decide)) ?_ | refine divJ (by decide) ?_ | refine divI (by decide) ?_)
  try change _ ∧ _
  refine Cl.of (r_maxJ h _ _) (by decide) ?_
  show Wp 1 j_Tests_within _ _ _ _ _
  repeat (first | (refine W1 rfl ?_; try refine Wp.norm (L' := [_, _]) rfl ?_) | ((first | change (_ → _) ∧ (_ → _) | change vp_in _ _ ∧ _ | change ¬ _ ∧ _); simp (disch := omega) only [nI_clamp, nI_leI, nI_ltI, nI_eq, nI_1, nI_add, nI_not_neg, nI_is_pos, nI_m1, nI_z]) | refine brT (by first | assumption | decide | omega) ?_ | refine brF (by first | assumption | decide | omega) ?_ | refine brTn (by first | assumption | decide | omega) ?_ | refine brFn (by first | assumption | decide | omega) ?_ | refine And.intro (vp_in_nI (by omega) (by decide)) ?_ | refine And.intro (vp_lit (by decide)) ?_ | refine divJ (by decide) ?_ | refine divI (by decide) ?_)
  try change _ ∧ _
  exact ⟨congrArg (fun z => some (Value.int z)) e, rfl⟩
theorem r_fdiv {a b : Int} (h : HP) (ha : bE a) (hb : bE b) (h0 : b ≠ 0) : Run 0 j_Math_floorDiv [.int (iI a), .int (iI b)] h (some (.int (iI (flE a b)))) h := by
  have hn : ¬ iI b = 0 := fun z => h0 ((iI_eq hb bE_0).mp z)
  have ed := q_div ha hb
  have hx := q_xor ha hb
  obtain ⟨t1, t2⟩ := td_b (b := b) ha
  have em := q_mul t1 hb t2
  have ee := iI_eq t2 ha
  have hf := (fl_b ha hb h0).1
  unfold flE at hf ⊢
  by_cases c1 : ((a < 0) ↔ (b < 0))
  · have hx := hx.mpr c1
    rw [if_neg (fun z => z.2 c1)]
    refine Run.of rfl ?_
    refine Wp.norm (L' := [_, _, _]) rfl ?_
    repeat (first | (refine W1 rfl ?_; try refine Wp.norm (L' := [_, _, _]) rfl ?_) | ((first | change (_ → _) ∧ (_ → _) | change vp_in _ _ ∧ _ | change ¬ _ ∧ _); simp (disch := omega) only [nI_clamp, nI_leI, nI_ltI, nI_eq, nI_1, nI_add, nI_not_neg, nI_is_pos, nI_m1, nI_z]) | refine brT (by first | assumption | decide | omega) ?_ | refine brF (by first | assumption | decide | omega) ?_ | refine brTn (by first | assumption | decide | omega) ?_ | refine brFn (by first | assumption | decide | omega) ?_ | refine And.intro (vp_in_nI (by omega) (by decide)) ?_ | refine And.intro (vp_lit (by decide)) ?_ | refine divJ (by decide) ?_ | refine divI (by decide) ?_)
    try change _ ∧ _
    refine ⟨hn, ?_⟩
    show Wp 0 j_Math_floorDiv _ _ _ _ _
    rw [ed]
    repeat (first | (refine W1 rfl ?_; try refine Wp.norm (L' := [_, _, _]) rfl ?_) | ((first | change (_ → _) ∧ (_ → _) | change vp_in _ _ ∧ _ | change ¬ _ ∧ _); simp (disch := omega) only [nI_clamp, nI_leI, nI_ltI, nI_eq, nI_1, nI_add, nI_not_neg, nI_is_pos, nI_m1, nI_z]) | refine brT (by first | assumption | decide | omega) ?_ | refine brF (by first | assumption | decide | omega) ?_ | refine brTn (by first | assumption | decide | omega) ?_ | refine brFn (by first | assumption | decide | omega) ?_ | refine And.intro (vp_in_nI (by omega) (by decide)) ?_ | refine And.intro (vp_lit (by decide)) ?_ | refine divJ (by decide) ?_ | refine divI (by decide) ?_)
    try change _ ∧ _
    try first | exact ⟨rfl, rfl⟩ | exact ⟨Or.inr rfl, rfl, rfl⟩ | exact ⟨Or.inl rfl, rfl, rfl⟩ | exact ⟨trivial, trivial⟩ | exact ⟨rfl, trivial⟩ | exact ⟨Or.inr rfl, rfl, trivial⟩ | exact ⟨Or.inl rfl, rfl, trivial⟩
  · have hx : ¬ 0 ≤ iI a ^^^ iI b := fun z => c1 (hx.mp z)
    by_cases c2 : a.tdiv b * b = a
    · rw [if_neg (fun z => z.1 c2)]
      have ee := ee.mpr c2
      refine Run.of rfl ?_
      refine Wp.norm (L' := [_, _, _]) rfl ?_
      repeat (first | (refine W1 rfl ?_; try refine Wp.norm (L' := [_, _, _]) rfl ?_) | ((first | change (_ → _) ∧ (_ → _) | change vp_in _ _ ∧ _ | change ¬ _ ∧ _); simp (disch := omega) only [nI_clamp, nI_leI, nI_ltI, nI_eq, nI_1, nI_add, nI_not_neg, nI_is_pos, nI_m1, nI_z]) | refine brT (by first | assumption | decide | omega) ?_ | refine brF (by first | assumption | decide | omega) ?_ | refine brTn (by first | assumption | decide | omega) ?_ | refine brFn (by first | assumption | decide | omega) ?_ | refine And.intro (vp_in_nI (by omega) (by decide)) ?_ | refine And.intro (vp_lit (by decide)) ?_ | refine divJ (by decide) ?_ | refine divI (by decide) ?_)
      try change _ ∧ _
      refine ⟨hn, ?_⟩
      show Wp 0 j_Math_floorDiv _ _ _ _ _
      rw [ed]
      repeat (first | (refine W1 rfl ?_; try refine Wp.norm (L' := [_, _, _]) rfl ?_) | ((first | change (_ → _) ∧ (_ → _) | change vp_in _ _ ∧ _ | change ¬ _ ∧ _); simp (disch := omega) only [nI_clamp, nI_leI, nI_ltI, nI_eq, nI_1, nI_add, nI_not_neg, nI_is_pos, nI_m1, nI_z, em]) | refine brT (by first | assumption | decide | omega) ?_ | refine brF (by first | assumption | decide | omega) ?_ | refine brTn (by first | assumption | decide | omega) ?_ | refine brFn (by first | assumption | decide | omega) ?_ | refine And.intro (vp_in_nI (by omega) (by decide)) ?_ | refine And.intro (vp_lit (by decide)) ?_ | refine divJ (by decide) ?_ | refine divI (by decide) ?_)
      try change _ ∧ _
      try first | exact ⟨rfl, rfl⟩ | exact ⟨Or.inr rfl, rfl, rfl⟩ | exact ⟨Or.inl rfl, rfl, rfl⟩ | exact ⟨trivial, trivial⟩ | exact ⟨rfl, trivial⟩ | exact ⟨Or.inr rfl, rfl, trivial⟩ | exact ⟨Or.inl rfl, rfl, trivial⟩
    · rw [if_pos ⟨c2, c1⟩] at hf ⊢
      have ee : ¬ iI (a.tdiv b * b) = iI a := fun z => c2 (ee.mp z)
      have es : iI (a.tdiv b) - 1 = iI (a.tdiv b - 1) := q_sub t1 bE_1 hf
      refine Run.of rfl ?_
      refine Wp.norm (L' := [_, _, _]) rfl ?_
      repeat (first | (refine W1 rfl ?_; try refine Wp.norm (L' := [_, _, _]) rfl ?_) | ((first | change (_ → _) ∧ (_ → _) | change vp_in _ _ ∧ _ | change ¬ _ ∧ _); simp (disch := omega) only [nI_clamp, nI_leI, nI_ltI, nI_eq, nI_1, nI_add, nI_not_neg, nI_is_pos, nI_m1, nI_z]) | refine brT (by first | assumption | decide | omega) ?_ | refine brF (by first | assumption | decide | omega) ?_ | refine brTn (by first | assumption | decide | omega) ?_ | refine brFn (by first | assumption | decide | omega) ?_ | refine And.intro (vp_in_nI (by omega) (by decide)) ?_ | refine And.intro (vp_lit (by decide)) ?_ | refine divJ (by decide) ?_ | refine divI (by decide) ?_)
      try change _ ∧ _
      refine ⟨hn, ?_⟩
      show Wp 0 j_Math_floorDiv _ _ _ _ _
      rw [ed]
      repeat (first | (refine W1 rfl ?_; try refine Wp.norm (L' := [_, _, _]) rfl ?_) | ((first | change (_ → _) ∧ (_ → _) | change vp_in _ _ ∧ _ | change ¬ _ ∧ _); simp (disch := omega) only [nI_clamp, nI_leI, nI_ltI, nI_eq, nI_1, nI_add, nI_not_neg, nI_is_pos, nI_m1, nI_z, em]) | refine brT (by first | assumption | decide | omega) ?_ | refine brF (by first | assumption | decide | omega) ?_ | refine brTn (by first | assumption | decide | omega) ?_ | refine brFn (by first | assumption | decide | omega) ?_ | refine And.intro (vp_in_nI (by omega) (by decide)) ?_ | refine And.intro (vp_lit (by decide)) ?_ | refine divJ (by decide) ?_ | refine divI (by decide) ?_)
      try change _ ∧ _
      exact ⟨congrArg (fun z => some (Value.int z)) es, rfl⟩
theorem r_fmod {a b : Int} (h : HP) (ha : bE a) (hb : bE b) (h0 : b ≠ 0) : Run 0 j_Math_floorMod [.int (iI a), .int (iI b)] h (some (.int (iI (a - b * flE a b)))) h := by
  have hn : ¬ iI b = 0 := fun z => h0 ((iI_eq hb bE_0).mp z)
  have ed := q_div ha hb
  have hx := q_xor ha hb
  obtain ⟨t1, t2⟩ := td_b (b := b) ha
  have em := q_mul t1 hb t2
  have hc : b * a.tdiv b = a.tdiv b * b := Int.mul_comm _ _
  have hxx : b * (a.tdiv b - 1) = b * a.tdiv b - b := by rw [Int.mul_sub, Int.mul_one]
  have hm : a.tmod b = a - b * a.tdiv b := Int.tmod_def a b
  have hr : (a.tmod b).natAbs < b.natAbs := by
    rw [Int.natAbs_tmod]
    exact Nat.mod_lt _ (by omega)
  have hb' : bE (a - a.tdiv b * b) := by unfold bE at *; omega
  have es : iI a - iI (a.tdiv b * b) = iI (a - a.tdiv b * b) := q_sub ha t2 hb'
  have ez := iI_eq hb' bE_0
  have hf := (fl_b ha hb h0).2
  unfold flE at hf ⊢
  by_cases c1 : ((a < 0) ↔ (b < 0))
  · have hx := hx.mpr c1
    rw [if_neg (fun z => z.2 c1), hc]
    refine Run.of rfl ?_
    refine Wp.norm (L' := [_, _, _]) rfl ?_
    repeat (first | (refine W1 rfl ?_; try refine Wp.norm (L' := [_, _, _]) rfl ?_) | ((first | change (_ → _) ∧ (_ → _) | change vp_in _ _ ∧ _ | change ¬ _ ∧ _); simp (disch := omega) only [nI_clamp, nI_leI, nI_ltI, nI_eq, nI_1, nI_add, nI_not_neg, nI_is_pos, nI_m1, nI_z]) | refine brT (by first | assumption | decide | omega) ?_ | refine brF (by first | assumption | decide | omega) ?_ | refine brTn (by first | assumption | decide | omega) ?_ | refine brFn (by first | assumption | decide | omega) ?_ | refine And.intro (vp_in_nI (by omega) (by decide)) ?_ | refine And.intro (vp_lit (by decide)) ?_ | refine divJ (by decide) ?_ | refine divI (by decide) ?_)
    try change _ ∧ _
    refine ⟨hn, ?_⟩
    show Wp 0 j_Math_floorMod _ _ _ _ _
    rw [ed, em, es]
    repeat (first | (refine W1 rfl ?_; try refine Wp.norm (L' := [_, _, _]) rfl ?_) | ((first | change (_ → _) ∧ (_ → _) | change vp_in _ _ ∧ _ | change ¬ _ ∧ _); simp (disch := omega) only [nI_clamp, nI_leI, nI_ltI, nI_eq, nI_1, nI_add, nI_not_neg, nI_is_pos, nI_m1, nI_z]) | refine brT (by first | assumption | decide | omega) ?_ | refine brF (by first | assumption | decide | omega) ?_ | refine brTn (by first | assumption | decide | omega) ?_ | refine brFn (by first | assumption | decide | omega) ?_ | refine And.intro (vp_in_nI (by omega) (by decide)) ?_ | refine And.intro (vp_lit (by decide)) ?_ | refine divJ (by decide) ?_ | refine divI (by decide) ?_)
    try change _ ∧ _
    try first | exact ⟨rfl, rfl⟩ | exact ⟨Or.inr rfl, rfl, rfl⟩ | exact ⟨Or.inl rfl, rfl, rfl⟩ | exact ⟨trivial, trivial⟩ | exact ⟨rfl, trivial⟩ | exact ⟨Or.inr rfl, rfl, trivial⟩ | exact ⟨Or.inl rfl, rfl, trivial⟩
  · have hx : ¬ 0 ≤ iI a ^^^ iI b := fun z => c1 (hx.mp z)
    by_cases c2 : a.tdiv b * b = a
    · rw [if_neg (fun z => z.1 c2), hc]
      have ez : iI (a - a.tdiv b * b) = 0 := ez.mpr (by omega)
      refine Run.of rfl ?_
      refine Wp.norm (L' := [_, _, _]) rfl ?_
      repeat (first | (refine W1 rfl ?_; try refine Wp.norm (L' := [_, _, _]) rfl ?_) | ((first | change (_ → _) ∧ (_ → _) | change vp_in _ _ ∧ _ | change ¬ _ ∧ _); simp (disch := omega) only [nI_clamp, nI_leI, nI_ltI, nI_eq, nI_1, nI_add, nI_not_neg, nI_is_pos, nI_m1, nI_z]) | refine brT (by first | assumption | decide | omega) ?_ | refine brF (by first | assumption | decide | omega) ?_ | refine brTn (by first | assumption | decide | omega) ?_ | refine brFn (by first | assumption | decide | omega) ?_ | refine And.intro (vp_in_nI (by omega) (by decide)) ?_ | refine And.intro (vp_lit (by decide)) ?_ | refine divJ (by decide) ?_ | refine divI (by decide) ?_)
      try change _ ∧ _
      refine ⟨hn, ?_⟩
      show Wp 0 j_Math_floorMod _ _ _ _ _
      rw [ed, em, es]
      repeat (first | (refine W1 rfl ?_; try refine Wp.norm (L' := [_, _, _]) rfl ?_) | ((first | change (_ → _) ∧ (_ → _) | change vp_in _ _ ∧ _ | change ¬ _ ∧ _); simp (disch := omega) only [nI_clamp, nI_leI, nI_ltI, nI_eq, nI_1, nI_add, nI_not_neg, nI_is_pos, nI_m1, nI_z]) | refine brT (by first | assumption | decide | omega) ?_ | refine brF (by first | assumption | decide | omega) ?_ | refine brTn (by first | assumption | decide | omega) ?_ | refine brFn (by first | assumption | decide | omega) ?_ | refine And.intro (vp_in_nI (by omega) (by decide)) ?_ | refine And.intro (vp_lit (by decide)) ?_ | refine divJ (by decide) ?_ | refine divI (by decide) ?_)
      try change _ ∧ _
      try first | exact ⟨rfl, rfl⟩ | exact ⟨Or.inr rfl, rfl, rfl⟩ | exact ⟨Or.inl rfl, rfl, rfl⟩ | exact ⟨trivial, trivial⟩ | exact ⟨rfl, trivial⟩ | exact ⟨Or.inr rfl, rfl, trivial⟩ | exact ⟨Or.inl rfl, rfl, trivial⟩
    · rw [if_pos ⟨c2, c1⟩] at hf ⊢
      have ez : ¬ iI (a - a.tdiv b * b) = 0 := fun z => c2 (by have := ez.mp z; omega)
      have e2 : iI (a - a.tdiv b * b) + iI b = iI (a - b * (a.tdiv b - 1)) := by
        refine i32_of ?_
        rw [Int32.toInt_add, hb'.t, hb.t, show a - a.tdiv b * b + b = a - b * (a.tdiv b - 1) by omega]
        unfold bE at hf
        exact bm32 (by omega) (by omega)
      refine Run.of rfl ?_
      refine Wp.norm (L' := [_, _, _]) rfl ?_
      repeat (first | (refine W1 rfl ?_; try refine Wp.norm (L' := [_, _, _]) rfl ?_) | ((first | change (_ → _) ∧ (_ → _) | change vp_in _ _ ∧ _ | change ¬ _ ∧ _); simp (disch := omega) only [nI_clamp, nI_leI, nI_ltI, nI_eq, nI_1, nI_add, nI_not_neg, nI_is_pos, nI_m1, nI_z]) | refine brT (by first | assumption | decide | omega) ?_ | refine brF (by first | assumption | decide | omega) ?_ | refine brTn (by first | assumption | decide | omega) ?_ | refine brFn (by first | assumption | decide | omega) ?_ | refine And.intro (vp_in_nI (by omega) (by decide)) ?_ | refine And.intro (vp_lit (by decide)) ?_ | refine divJ (by decide) ?_ | refine divI (by decide) ?_)
      try change _ ∧ _
      refine ⟨hn, ?_⟩
      show Wp 0 j_Math_floorMod _ _ _ _ _
      rw [ed, em, es]
      repeat (first | (refine W1 rfl ?_; try refine Wp.norm (L' := [_, _, _]) rfl ?_) | ((first | change (_ → _) ∧ (_ → _) | change vp_in _ _ ∧ _ | change ¬ _ ∧ _); simp (disch := omega) only [nI_clamp, nI_leI, nI_ltI, nI_eq, nI_1, nI_add, nI_not_neg, nI_is_pos, nI_m1, nI_z]) | refine brT (by first | assumption | decide | omega) ?_ | refine brF (by first | assumption | decide | omega) ?_ | refine brTn (by first | assumption | decide | omega) ?_ | refine brFn (by first | assumption | decide | omega) ?_ | refine And.intro (vp_in_nI (by omega) (by decide)) ?_ | refine And.intro (vp_lit (by decide)) ?_ | refine divJ (by decide) ?_ | refine divI (by decide) ?_)
      try change _ ∧ _
      exact ⟨congrArg (fun z => some (Value.int z)) e2, rfl⟩
end CTR
