/-! ===== CODES HAVE TYPES ===== -/
def tyS (c : Nat) (S : List Bool) : Option (List Bool) :=
  if (1000 ≤ c ∧ c < 11000) ∨ c = 6 ∨ c = 7 ∨ c = 8 then (if S.length < 60 then some (false :: S) else none)
  else if c = 17 then (if S.length < 60 then some (true :: S) else none)
  else if c = 16 then (match S with | true :: S' => some (true :: S') | _ => none)
  else if 1 ≤ c ∧ c ≤ 5 then (match S with | false :: false :: S' => some (false :: S') | _ => none)
  else if 11 ≤ c ∧ c ≤ 13 then (match S with | false :: false :: S' => some (true :: S') | _ => none)
  else if c = 14 ∨ c = 15 then (match S with | true :: true :: S' => some (true :: S') | _ => none)
  else none
def tyC : List Nat → List Bool → Option (List Bool)
  | [], S => some S
  | c :: C, S => match tyS c S with | none => none | some S' => tyC C S'
theorem tyC_sn : ∀ (C : List Nat) {c : Nat} {S S1 S2 : List Bool}, tyC C S = some S1 → tyS c S1 = some S2 → tyC (C ++ [c]) S = some S2
  | [], c, S, S1, S2, h, h2 => by
    have h : some S = some S1 := h
    cases h
    show (match tyS c S with | none => none | some S' => some S') = some S2
    rw [h2]
  | x :: C, c, S, S1, S2, h, h2 => by
    have h : (match tyS x S with | none => none | some S' => tyC C S') = some S1 := h
    show (match tyS x S with | none => none | some S' => tyC (C ++ [c]) S') = some S2
    cases e : tyS x S with
    | none => rw [e] at h; cases h
    | some S' =>
      rw [e] at h
      exact tyC_sn C h h2
theorem ty_num {c : Nat} {S : List Bool} (hc : (1000 ≤ c ∧ c < 11000) ∨ c = 6 ∨ c = 7 ∨ c = 8) (hl : S.length < 60) : tyS c S = some (false :: S) := by unfold tyS; rw [if_pos hc, if_pos hl]
theorem ty_all {c : Nat} {S : List Bool} (hc : c = 17) (hl : S.length < 60) : tyS c S = some (true :: S) := by unfold tyS; rw [if_neg (by omega), if_pos hc, if_pos hl]
theorem ty_not {c : Nat} {S : List Bool} (hc : c = 16) : tyS c (true :: S) = some (true :: S) := by unfold tyS; rw [if_neg (by omega), if_neg (by omega), if_pos hc]
theorem ty_ar {c : Nat} {S : List Bool} (hc : 1 ≤ c ∧ c ≤ 5) : tyS c (false :: false :: S) = some (false :: S) := by unfold tyS; rw [if_neg (by omega), if_neg (by omega), if_neg (by omega), if_pos hc]
theorem ty_cm {c : Nat} {S : List Bool} (hc : 11 ≤ c ∧ c ≤ 13) : tyS c (false :: false :: S) = some (true :: S) := by unfold tyS; rw [if_neg (by omega), if_neg (by omega), if_neg (by omega), if_neg (by omega), if_pos hc]
theorem ty_lg {c : Nat} {S : List Bool} (hc : c = 14 ∨ c = 15) : tyS c (true :: true :: S) = some (true :: S) := by unfold tyS; rw [if_neg (by omega), if_neg (by omega), if_neg (by omega), if_neg (by omega), if_neg (by omega), if_pos hc]
def S0 : List Nat → List Bool
  | [] => []
  | x :: W => if (1 ≤ x ∧ x ≤ 5) ∨ (11 ≤ x ∧ x ≤ 13) then false :: S0 W else if x = 14 ∨ x = 15 then true :: S0 W else S0 W
theorem S0_n {x : Nat} {W : List Nat} (h : (1 ≤ x ∧ x ≤ 5) ∨ (11 ≤ x ∧ x ≤ 13)) : S0 (x :: W) = false :: S0 W := by show (if _ then _ else _) = _; rw [if_pos h]
theorem S0_t {x : Nat} {W : List Nat} (h : x = 14 ∨ x = 15) : S0 (x :: W) = true :: S0 W := by show (if _ then _ else _) = _; rw [if_neg (by omega), if_pos h]
theorem S0_o {x : Nat} {W : List Nat} (h : x = 16 ∨ x = 20 ∨ x = 25 ∨ x = 30) : S0 (x :: W) = S0 W := by show (if _ then _ else _) = _; rw [if_neg (by omega), if_neg (by omega)]
def bdT : List Nat → Nat
  | [] => 0
  | x :: _ => if x = 15 then 1 else if x = 14 then 2 else if x = 16 ∨ x = 25 then 0 else if x = 30 then 2 else if 11 ≤ x ∧ x ≤ 13 then 3 else if x = 1 ∨ x = 2 then 4 else if 3 ≤ x ∧ x ≤ 5 then 5 else 3
theorem bdT_c {x : Nat} {W : List Nat} : bdT (x :: W) = if x = 15 then 1 else if x = 14 then 2 else if x = 16 ∨ x = 25 then 0 else if x = 30 then 2 else if 11 ≤ x ∧ x ≤ 13 then 3 else if x = 1 ∨ x = 2 then 4 else if 3 ≤ x ∧ x ≤ 5 then 5 else 3 := rfl
def sTop (W : List Nat) : Prop := ∃ x W', W = x :: W' ∧ ((1 ≤ x ∧ x ≤ 5) ∨ x = 20 ∨ x = 30 ∨ (11 ≤ x ∧ x ≤ 13))
def tTop (W : List Nat) : Prop := W = [] ∨ ∃ x W', W = x :: W' ∧ (x = 14 ∨ x = 15 ∨ x = 16 ∨ x = 25)
def wk : List Nat → Prop
  | [] => True
  | x :: W => wk W ∧ (S0 (x :: W)).length ≤ 2 * opn (x :: W) + bdT (x :: W) ∧ ((((1 ≤ x ∧ x ≤ 5) ∨ x = 20) ∧ sTop W) ∨ ((x = 30 ∨ (11 ≤ x ∧ x ≤ 13)) ∧ tTop W) ∨ ((x = 14 ∨ x = 15 ∨ x = 16 ∨ x = 25) ∧ tTop W))
theorem wk.b : ∀ {W : List Nat}, wk W → (S0 W).length ≤ 2 * opn W + bdT W
  | [], _ => Nat.le_refl 0
  | _ :: _, h => h.2.1
theorem bd_s {W : List Nat} (h : sTop W) : bdT W ≤ 5 := by
  obtain ⟨x, W', rfl, h⟩ := h
  rw [bdT_c]
  (repeat' split) <;> omega
theorem bd_t {W : List Nat} (h : tTop W) : bdT W ≤ 2 := by
  rcases h with rfl | ⟨x, W', rfl, h⟩
  · decide
  · rw [bdT_c]
    (repeat' split) <;> omega
def TYI (m : Nat) (W T : List Nat) : Prop :=
  (m = 0 ∧ sTop W ∧ tyC T [] = some (S0 W)) ∨ (m = 1 ∧ sTop W ∧ tyC T [] = some (false :: S0 W)) ∨ (m = 3 ∧ tTop W ∧ tyC T [] = some (S0 W)) ∨ (m = 4 ∧ tTop W ∧ tyC T [] = some (true :: S0 W)) ∨ (m = 6 ∧ W = [] ∧ tyC T [] = some [true])
def MI (C0 : List Nat) (m : Nat) (W : List Nat) (d : Nat) (C : List Nat) : Prop := wk W ∧ d = opn W ∧ d ≤ 6 ∧ ∃ T, C = C0 ++ T ∧ TYI m W T
def MP (C0 : List Nat) (s : ST) (y : PS) : Prop := (∃ f q, y = flt f q) ∨ (∃ m i W d C, y = (m, i, W, d, C, s) ∧ MI C0 m W d C)
section TYP
variable {b : Nat → Nat} {n i d : Nat} {s : ST} {C C0 W : List Nat}
theorem MP.f (f q : Nat) : MP C0 s (flt f q) := Or.inl ⟨f, q, rfl⟩
theorem MP.m {m i d : Nat} {W C : List Nat} (h : MI C0 m W d C) : MP C0 s (m, i, W, d, C, s) := Or.inr ⟨m, i, W, d, C, rfl, h⟩
theorem snoc {T : List Nat} {x : Nat} (e : C = C0 ++ T) : C ++ [x] = C0 ++ (T ++ [x]) := by rw [e, List.append_assoc]
theorem MP_0 (h : MI C0 0 W d C) : MP C0 s (qB b n i W d C s) := by
  obtain ⟨hw, hd, h6, T, eT, hT⟩ := h
  have hT : sTop W ∧ tyC T [] = some (S0 W) := by
    rcases hT with z | z | z | z | z
    · exact z.2
    all_goals exact absurd z.1 (by decide)
  obtain ⟨hs, ht⟩ := hT
  have hb := hw.b
  have h5 := bd_s hs
  have hlen : (S0 W).length < 60 := by omega
  unfold qB
  split
  · split
    · exact MP.f _ _
    · have e1 : S0 (20 :: W) = S0 W := S0_o (by omega)
      have e2 : opn (20 :: W) = opn W + 1 := opn_1 (by omega)
      have e3 : bdT (20 :: W) = 3 := rfl
      refine MP.m ⟨⟨hw, ?_, Or.inl ⟨Or.inr rfl, hs⟩⟩, ?_, by omega, T, eT, Or.inl ⟨rfl, ⟨20, W, rfl, by omega⟩, ?_⟩⟩
      · rw [e1, e2, e3]; omega
      · rw [e2, hd]
      · rw [e1]; exact ht
  · split
    · rename_i z4
      have t9 := tV_4 z4
      exact MP.m ⟨hw, hd, h6, T ++ [1000 + tV b n i], snoc eT, Or.inr (Or.inl ⟨rfl, hs, tyC_sn T ht (ty_num (by omega) hlen)⟩)⟩
    · split
      · rename_i z
        exact MP.m ⟨hw, hd, h6, T ++ [owV b n i - 11], snoc eT, Or.inr (Or.inl ⟨rfl, hs, tyC_sn T ht (ty_num (by omega) hlen)⟩)⟩
      · exact MP.f _ _
theorem MP_1 (h : MI C0 1 W d C) : MP C0 s (qA b n i W d C s) := by
  obtain ⟨hw, hd, h6, T, eT, hT⟩ := h
  have hT : sTop W ∧ tyC T [] = some (false :: S0 W) := by
    rcases hT with z | z | z | z | z
    · exact absurd z.1 (by decide)
    · exact z.2
    all_goals exact absurd z.1 (by decide)
  obtain ⟨⟨x, W', rfl, hx⟩, ht⟩ := hT
  have hb := hw.b
  have hbd : bdT (x :: W') = _ := bdT_c
  obtain ⟨w1, w2, w3⟩ := hw
  have sT : (1 ≤ x ∧ x ≤ 5) ∨ x = 20 → sTop W' := fun z => by
    rcases w3 with y | y | y
    · exact y.2
    · omega
    · omega
  have tT : (x = 30 ∨ (11 ≤ x ∧ x ≤ 13)) → tTop W' := fun z => by
    rcases w3 with y | y | y
    · omega
    · exact y.2
    · exact y.2
  have hWW : wk (x :: W') := ⟨w1, w2, w3⟩
  have sTT : sTop (x :: W') := ⟨x, W', rfl, hx⟩
  show MP C0 s (if isPr x then _ else _)
  by_cases c1 : isPr x
  · rw [if_pos c1]
    have c1 : x = 3 ∨ x = 4 ∨ x = 5 := c1
    rw [S0_n (by omega)] at ht
    exact MP.m ⟨w1, by rw [hd, opn_2 (by omega)], h6, T ++ [x], snoc eT, Or.inr (Or.inl ⟨rfl, sT (by omega), tyC_sn T ht (ty_ar (by omega))⟩)⟩
  · rw [if_neg c1]
    have c1' : ¬ (x = 3 ∨ x = 4 ∨ x = 5) := c1
    by_cases c2 : fctC (sgV b n i) ≠ 0
    · rw [if_pos c2]
      have hf : fctC (sgV b n i) = 3 ∨ fctC (sgV b n i) = 4 ∨ fctC (sgV b n i) = 5 := (fctC_r _).resolve_left c2
      generalize fctC (sgV b n i) = f at *
      have e1 : S0 (f :: x :: W') = false :: S0 (x :: W') := S0_n (by omega)
      have e2 : opn (f :: x :: W') = opn (x :: W') := opn_2 (by omega)
      have e3 : bdT (f :: x :: W') = 5 := by rw [bdT_c]; (repeat' split) <;> omega
      have e4 : bdT (x :: W') ≤ 4 := by rw [bdT_c]; (repeat' split) <;> omega
      refine MP.m ⟨⟨hWW, ?_, Or.inl ⟨Or.inl (by omega), sTT⟩⟩, by rw [e2]; exact hd, h6, T, eT, Or.inl ⟨rfl, ⟨f, _, rfl, by omega⟩, ?_⟩⟩
      · rw [e1, e2, e3]; show (S0 (x :: W')).length + 1 ≤ _; omega
      · rw [e1]; exact ht
    · rw [if_neg c2]
      by_cases c3 : isTr x
      · rw [if_pos c3]
        have c3 : x = 1 ∨ x = 2 := c3
        rw [S0_n (by omega)] at ht
        exact MP.m ⟨w1, by rw [hd, opn_2 (by omega)], h6, T ++ [x], snoc eT, Or.inr (Or.inl ⟨rfl, sT (by omega), tyC_sn T ht (ty_ar (by omega))⟩)⟩
      · rw [if_neg c3]
        have c3' : ¬ (x = 1 ∨ x = 2) := c3
        by_cases c4 : trmC (sgV b n i) ≠ 0
        · rw [if_pos c4]
          have hf : trmC (sgV b n i) = 1 ∨ trmC (sgV b n i) = 2 := (trmC_r _).resolve_left c4
          generalize trmC (sgV b n i) = f at *
          have e1 : S0 (f :: x :: W') = false :: S0 (x :: W') := S0_n (by omega)
          have e2 : opn (f :: x :: W') = opn (x :: W') := opn_2 (by omega)
          have e3 : bdT (f :: x :: W') = 4 := by rw [bdT_c]; (repeat' split) <;> omega
          have e4 : bdT (x :: W') ≤ 3 := by rw [bdT_c]; (repeat' split) <;> omega
          refine MP.m ⟨⟨hWW, ?_, Or.inl ⟨Or.inl (by omega), sTT⟩⟩, by rw [e2]; exact hd, h6, T, eT, Or.inl ⟨rfl, ⟨f, _, rfl, by omega⟩, ?_⟩⟩
          · rw [e1, e2, e3]; show (S0 (x :: W')).length + 1 ≤ _; omega
          · rw [e1]; exact ht
        · rw [if_neg c4]
          by_cases c5 : x = 20
          · rw [if_pos c5]
            split
            · rw [S0_o (by omega)] at ht
              rw [opn_1 (by omega)] at hd
              exact MP.m ⟨w1, by omega, by omega, T, eT, Or.inr (Or.inl ⟨rfl, sT (Or.inr c5), ht⟩)⟩
            · exact MP.f _ _
          · rw [if_neg c5]
            by_cases c6 : x = 30
            · rw [if_pos c6]
              split
              · rename_i c7
                have hf := (cmpC_r (sgV b n i)).resolve_left c7
                generalize cmpC (sgV b n i) = f at *
                have tt := tT (Or.inl c6)
                have hb' := w1.b
                have h2 := bd_t tt
                rw [S0_o (by omega)] at ht
                rw [opn_2 (by omega)] at hd
                have e1 : S0 (f :: W') = false :: S0 W' := S0_n (by omega)
                have e2 : opn (f :: W') = opn W' := opn_2 (by omega)
                have e3 : bdT (f :: W') = 3 := by rw [bdT_c]; (repeat' split) <;> omega
                refine MP.m ⟨⟨w1, ?_, Or.inr (Or.inl ⟨Or.inr (by omega), tt⟩)⟩, by rw [e2]; exact hd, h6, T, eT, Or.inl ⟨rfl, ⟨f, _, rfl, by omega⟩, ?_⟩⟩
                · rw [e1, e2, e3]; show (S0 W').length + 1 ≤ _; omega
                · rw [e1]; exact ht
              · exact MP.f _ _
            · rw [if_neg c6]
              have hx' : 11 ≤ x ∧ x ≤ 13 := by omega
              rw [S0_n (by omega)] at ht
              rw [opn_2 (by omega)] at hd
              exact MP.m ⟨w1, hd, h6, T ++ [x], snoc eT, Or.inr (Or.inr (Or.inr (Or.inl ⟨rfl, tT (Or.inr hx'), tyC_sn T ht (ty_cm hx')⟩)))⟩
theorem MP_3 (h : MI C0 3 W d C) : MP C0 s (qT b n i W d C s) := by
  obtain ⟨hw, hd, h6, T, eT, hT⟩ := h
  have hT : tTop W ∧ tyC T [] = some (S0 W) := by
    rcases hT with z | z | z | z | z
    · exact absurd z.1 (by decide)
    · exact absurd z.1 (by decide)
    · exact z.2
    all_goals exact absurd z.1 (by decide)
  obtain ⟨hs, ht⟩ := hT
  have hb := hw.b
  have h2 := bd_t hs
  have hlen : (S0 W).length < 60 := by omega
  unfold qT
  split
  · split
    · exact MP.f _ _
    · have e1 : S0 (25 :: W) = S0 W := S0_o (by omega)
      have e2 : opn (25 :: W) = opn W + 1 := opn_1 (by omega)
      have e3 : bdT (25 :: W) = 0 := rfl
      refine MP.m ⟨⟨hw, ?_, Or.inr (Or.inr ⟨by omega, hs⟩)⟩, by rw [e2, hd], by omega, T, eT, Or.inr (Or.inr (Or.inl ⟨rfl, Or.inr ⟨25, W, rfl, by omega⟩, ?_⟩))⟩
      · rw [e1, e2, e3]; omega
      · rw [e1]; exact ht
  · split
    · split
      · exact MP.f _ _
      · have e1 : S0 (16 :: W) = S0 W := S0_o (by omega)
        have e2 : opn (16 :: W) = opn W + 1 := opn_1 (by omega)
        have e3 : bdT (16 :: W) = 0 := rfl
        refine MP.m ⟨⟨hw, ?_, Or.inr (Or.inr ⟨by omega, hs⟩)⟩, by rw [e2, hd], by omega, T, eT, Or.inr (Or.inr (Or.inl ⟨rfl, Or.inr ⟨16, W, rfl, by omega⟩, ?_⟩))⟩
        · rw [e1, e2, e3]; omega
        · rw [e1]; exact ht
    · split
      · exact MP.m ⟨hw, hd, h6, T ++ [17], snoc eT, Or.inr (Or.inr (Or.inr (Or.inl ⟨rfl, hs, tyC_sn T ht (ty_all rfl hlen)⟩)))⟩
      · have e1 : S0 (30 :: W) = S0 W := S0_o (by omega)
        have e2 : opn (30 :: W) = opn W := opn_2 (by omega)
        have e3 : bdT (30 :: W) = 2 := rfl
        refine MP.m ⟨⟨hw, ?_, Or.inr (Or.inl ⟨Or.inl rfl, hs⟩)⟩, by rw [e2]; exact hd, h6, T, eT, Or.inl ⟨rfl, ⟨30, W, rfl, by omega⟩, ?_⟩⟩
        · rw [e1, e2, e3]; omega
        · rw [e1]; exact ht
theorem MP_4 (h : MI C0 4 W d C) : MP C0 s (qF b n i W d C s) := by
  obtain ⟨hw, hd, h6, T, eT, hT⟩ := h
  have hT : tTop W ∧ tyC T [] = some (true :: S0 W) := by
    rcases hT with z | z | z | z | z
    · exact absurd z.1 (by decide)
    · exact absurd z.1 (by decide)
    · exact absurd z.1 (by decide)
    · exact z.2
    · exact absurd z.1 (by decide)
  obtain ⟨hs, ht⟩ := hT
  rcases hs with rfl | ⟨x, W', rfl, hx⟩
  · have hd : d = 0 := hd
    subst hd
    have ht : tyC T [] = some [true] := ht
    show MP C0 s (if owV b n i = 14 then _ else if owV b n i = 13 then _ else _)
    split
    · exact MP.m ⟨⟨trivial, by decide, Or.inr (Or.inr ⟨by omega, Or.inl rfl⟩)⟩, rfl, h6, T, eT, Or.inr (Or.inr (Or.inl ⟨rfl, Or.inr ⟨14, [], rfl, by omega⟩, ht⟩))⟩
    · split
      · exact MP.m ⟨⟨trivial, by decide, Or.inr (Or.inr ⟨by omega, Or.inl rfl⟩)⟩, rfl, h6, T, eT, Or.inr (Or.inr (Or.inl ⟨rfl, Or.inr ⟨15, [], rfl, by omega⟩, ht⟩))⟩
      · exact MP.m ⟨trivial, rfl, h6, T, eT, Or.inr (Or.inr (Or.inr (Or.inr ⟨rfl, rfl, ht⟩)))⟩
  · have hb := hw.b
    have hWW := hw
    obtain ⟨w1, w2, w3⟩ := hw
    have tt : tTop W' := by
      rcases w3 with y | y | y
      · omega
      · exact y.2
      · exact y.2
    have tTT : tTop (x :: W') := Or.inr ⟨x, W', rfl, hx⟩
    show MP C0 s (if x = 16 then _ else if x = 14 then _ else if owV b n i = 14 then _ else if x = 15 then _ else if owV b n i = 13 then _ else if sgV b n i = 93 then _ else _)
    by_cases c1 : x = 16
    · rw [if_pos c1]
      rw [S0_o (by omega)] at ht
      rw [opn_1 (by omega)] at hd
      exact MP.m ⟨w1, by omega, by omega, T ++ [16], snoc eT, Or.inr (Or.inr (Or.inr (Or.inl ⟨rfl, tt, tyC_sn T ht (ty_not rfl)⟩)))⟩
    · rw [if_neg c1]
      by_cases c2 : x = 14
      · rw [if_pos c2]
        rw [S0_t (by omega)] at ht
        rw [opn_2 (by omega)] at hd
        exact MP.m ⟨w1, hd, h6, T ++ [14], snoc eT, Or.inr (Or.inr (Or.inr (Or.inl ⟨rfl, tt, tyC_sn T ht (ty_lg (Or.inl rfl))⟩)))⟩
      · rw [if_neg c2]
        by_cases c3 : owV b n i = 14
        · rw [if_pos c3]
          have e1 : S0 (14 :: x :: W') = true :: S0 (x :: W') := S0_t (Or.inl rfl)
          have e2 : opn (14 :: x :: W') = opn (x :: W') := opn_2 (by omega)
          have e3 : bdT (14 :: x :: W') = 2 := rfl
          have e4 : bdT (x :: W') ≤ 1 := by rw [bdT_c]; (repeat' split) <;> omega
          refine MP.m ⟨⟨hWW, ?_, Or.inr (Or.inr ⟨by omega, tTT⟩)⟩, by rw [e2]; exact hd, h6, T, eT, Or.inr (Or.inr (Or.inl ⟨rfl, Or.inr ⟨14, _, rfl, by omega⟩, ?_⟩))⟩
          · rw [e1, e2, e3]; show (S0 (x :: W')).length + 1 ≤ _; omega
          · rw [e1]; exact ht
        · rw [if_neg c3]
          by_cases c4 : x = 15
          · rw [if_pos c4]
            rw [S0_t (by omega)] at ht
            rw [opn_2 (by omega)] at hd
            exact MP.m ⟨w1, hd, h6, T ++ [15], snoc eT, Or.inr (Or.inr (Or.inr (Or.inl ⟨rfl, tt, tyC_sn T ht (ty_lg (Or.inr rfl))⟩)))⟩
          · rw [if_neg c4]
            have hx25 : x = 25 := by omega
            by_cases c5 : owV b n i = 13
            · rw [if_pos c5]
              have e1 : S0 (15 :: x :: W') = true :: S0 (x :: W') := S0_t (Or.inr rfl)
              have e2 : opn (15 :: x :: W') = opn (x :: W') := opn_2 (by omega)
              have e3 : bdT (15 :: x :: W') = 1 := rfl
              have e4 : bdT (x :: W') = 0 := by rw [hx25]; rfl
              refine MP.m ⟨⟨hWW, ?_, Or.inr (Or.inr ⟨by omega, tTT⟩)⟩, by rw [e2]; exact hd, h6, T, eT, Or.inr (Or.inr (Or.inl ⟨rfl, Or.inr ⟨15, _, rfl, by omega⟩, ?_⟩))⟩
              · rw [e1, e2, e3]; show (S0 (x :: W')).length + 1 ≤ _; omega
              · rw [e1]; exact ht
            · rw [if_neg c5]
              split
              · rw [S0_o (by omega)] at ht
                rw [opn_1 (by omega)] at hd
                exact MP.m ⟨w1, by omega, by omega, T, eT, Or.inr (Or.inr (Or.inr (Or.inl ⟨rfl, tt, ht⟩)))⟩
              · exact MP.f _ _
end TYP
