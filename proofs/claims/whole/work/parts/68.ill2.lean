/-! ===== ILL: does it fit ===== -/
def btJ (x : Int64) (p : Nat) : Bool := x.toBitVec.getLsbD p
theorem sh63 : ∀ p, p < 64 → (((nI p).toInt64 &&& 63).toBitVec.smod 64).toNat = p := by decide
theorem btJ_and (x y : Int64) (q : Nat) : btJ (x &&& y) q = (btJ x q && btJ y q) := by unfold btJ; rw [Int64.toBitVec_and, BitVec.getLsbD_and]
theorem btJ_or (x y : Int64) (q : Nat) : btJ (x ||| y) q = (btJ x q || btJ y q) := by unfold btJ; rw [Int64.toBitVec_or, BitVec.getLsbD_or]
theorem btJ_not (x : Int64) {q : Nat} (hq : q < 64) : btJ (x ^^^ (-1)) q = !btJ x q := by
  unfold btJ
  rw [Int64.toBitVec_xor, BitVec.getLsbD_xor, show (-1 : Int64).toBitVec = BitVec.allOnes 64 from rfl, BitVec.getLsbD_allOnes]
  simp [hq]
theorem btJ_zero (q : Nat) : btJ 0 q = false := by unfold btJ; rw [show (0 : Int64).toBitVec = 0#64 from rfl, BitVec.getLsbD_zero]
theorem btJ_ext {x y : Int64} (h : ∀ q, q < 64 → btJ x q = btJ y q) : x = y := by
  apply Int64.toBitVec_inj.mp
  apply BitVec.eq_of_getLsbD_eq
  intro i hi
  exact h i hi
theorem btJ_shl {p q : Nat} (hp : p < 64) (hq : q < 64) : btJ (1 <<< ((nI p).toInt64 &&& 63)) q = decide (q = p) := by
  unfold btJ
  rw [Int64.toBitVec_shiftLeft, show ∀ a b : BitVec 64, a <<< b = a <<< b.toNat from fun _ _ => rfl, BitVec.getLsbD_shiftLeft, sh63 p hp]
  rw [show (1 : Int64).toBitVec = 1#64 from rfl, BitVec.getLsbD_one]
  simp only [hq]
  by_cases h : q = p
  · subst h; simp
  · by_cases h2 : q < p
    · simp [h, h2]
    · simp [h]; omega
theorem J_and {x : Int64} {p : Nat} (hp : p < 64) : (x &&& (1 <<< ((nI p).toInt64 &&& 63)) = 0) ↔ btJ x p = false := by
  constructor
  · intro h
    have h2 := btJ_and x (1 <<< ((nI p).toInt64 &&& 63)) p
    rw [h, btJ_zero, btJ_shl hp hp] at h2
    simpa using h2.symm
  · intro h
    refine btJ_ext fun q hq => ?_
    rw [btJ_and, btJ_shl hp hq, btJ_zero]
    by_cases e : q = p
    · subst e; simp [h]
    · simp [e]
/-- the taken turns as a number -/
def tkN (B : Nat → Bool) : Nat → Nat
  | 0 => 0
  | n + 1 => 2 ^ n + tkN B n - (if B n = true then 0 else 2 ^ n)
theorem tkN_lt (B : Nat → Bool) : ∀ n, tkN B n < 2 ^ n
  | 0 => by show 0 < 1; decide
  | n + 1 => by
    have := tkN_lt B n
    unfold tkN
    rw [Nat.pow_succ]
    split <;> omega
theorem tkN_bit (B : Nat → Bool) : ∀ n q, q < n → (tkN B n).testBit q = B q
  | 0, q, h => absurd h (by omega)
  | n + 1, q, h => by
    have hl := tkN_lt B n
    unfold tkN
    by_cases hb : B n = true
    · rw [if_pos hb, Nat.sub_zero]
      by_cases e : q = n
      · subst e
        rw [Nat.testBit_two_pow_add_eq, Nat.testBit_lt_two_pow hl, hb]
        rfl
      · rw [Nat.testBit_two_pow_add_gt (by omega), tkN_bit B n q (by omega)]
    · rw [if_neg hb, Nat.add_sub_cancel_left]
      by_cases e : q = n
      · subst e
        rw [Nat.testBit_lt_two_pow hl]
        simpa using hb
      · exact tkN_bit B n q (by omega)
theorem tkN_mk (B : Nat → Bool) {n : Nat} (hn : n ≤ 31) : mkM B n = nI (tkN B n) := by
  have hl := tkN_lt B n
  have hp : 2 ^ n ≤ 2 ^ 31 := Nat.pow_le_pow_right (by decide) hn
  refine bt_ext fun q hq => ?_
  rw [bt_mkM B n (by omega) q hq, bt_nI (by omega)]
  by_cases h : q < n
  · rw [tkN_bit B n q h]; simp [h]
  · rw [Nat.testBit_lt_two_pow (Nat.lt_of_lt_of_le hl (Nat.pow_le_pow_right (by decide) (by omega)))]
    simp [h]
/-- c with the taken turns for p -/
def tkA (tt : Nat → Nat) (c : RT) (p q : Nat) : Nat → RT
  | 0 => c
  | n + 1 => upd (tkA tt c p q n) (tt n) (if q.testBit n = true then nI p else -1)
def okF (s : ST) (c : RT) (tt : Nat → Nat) (m : Nat) (bd : Int64) (p q : Nat) : Bool := !anyB (fun k => decide (bd < gapV s (tkA tt c p q m) p (some k))) (zK s)
section ILL3
variable {s : ST} {c v : RT} {h : HP} {tt : Nat → Nat} {m : Nat} {bd : Int64}
/-- where the search writes, behind the beginning hB -/
def ilF (s : ST) (c : RT) (tt : Nat → Nat) (m : Nat) (hB h' : HP) : Prop := onlyJ [46, 57, 60, 61] [62, 63] hB h' ∧ (∀ i, i ≠ 11 → h'.1 57 i = hB.1 57 i) ∧ ∀ t, t < zT s → (∀ n, n < m → t ≠ tt n) → h'.1 46 t = c t
/-- the beginning: what stands in it -/
def ilB (s : ST) (c v : RT) (tt : Nat → Nat) (m : Nat) (bd : Int64) (hB : HP) : Prop := RC s c v hB ∧ hB.1 57 10 = nI m ∧ (∀ n, n < m → hB.1 58 n = nI (tt n)) ∧ hB.2 57 12 = bd
def MV (s : ST) (c : RT) (tt : Nat → Nat) (m : Nat) (bd : Int64) (h' : HP) : Prop := ∀ p q, p < zP s → q < 64 → btJ (h'.2 62 p) q = true → btJ (h'.2 63 p) q = okF s c tt m bd p q
theorem ilF.RC {hB : HP} (B : ilB s c v tt m bd hB) (F : ilF s c tt m hB h) : RC s (fun t => h.1 46 t) v h := B.1.wcs (fun k i hk h1 _ => F.1.1 k i (by
  intro z; simp at z; rcases z with z | z | z | z
  · exact h1 z
  · subst z; cases hk
  · subst z; cases hk
  · subst z; cases hk)) (fun _ _ => rfl) (fun t ht => by rw [F.1.1 47 t (by decide)]; exact B.1.srv ht)
theorem ilF.cnt {hB : HP} (B : ilB s c v tt m bd hB) (F : ilF s c tt m hB h) : h.1 57 10 = nI m := by rw [F.2.1 10 (by decide)]; exact B.2.1
theorem ilF.trn {hB : HP} (B : ilB s c v tt m bd hB) (F : ilF s c tt m hB h) {n : Nat} (hn : n < m) : h.1 58 n = nI (tt n) := by rw [F.1.1 58 n (by decide)]; exact B.2.2.1 n hn
theorem ilF.bnd {hB : HP} (B : ilB s c v tt m bd hB) (F : ilF s c tt m hB h) : h.2 57 12 = bd := by rw [F.1.2 57 12 (by decide)]; exact B.2.2.2
theorem ilF.aJ {hB h' : HP} {k i : Nat} {x : Int64} (F : ilF s c tt m hB h') (hk : k ∈ [62, 63]) : ilF s c tt m hB (wJ h' k i x) := ⟨F.1.addJ hk, F.2.1, F.2.2⟩
theorem ilF.a46 {hB h' : HP} {n : Nat} {x : Int32} (F : ilF s c tt m hB h') (hn : n < m) : ilF s c tt m hB (wI h' 46 (tt n) x) := ⟨F.1.addI (by decide), fun i hi => by rw [wI_ne _ _ _ (by decide)]; exact F.2.1 i hi, fun t ht h => by rw [wI_ne2 _ _ (h n hn)]; exact F.2.2 t ht h⟩
theorem ilF.a60 {hB h' : HP} {k i : Nat} {x : Int32} (F : ilF s c tt m hB h') (hk : k = 60 ∨ k = 61) : ilF s c tt m hB (wI h' k i x) := ⟨F.1.addI (by rcases hk with rfl | rfl <;> decide), fun i hi => by rw [wI_ne _ _ _ (by rcases hk with rfl | rfl <;> decide)]; exact F.2.1 i hi, fun t ht h => by rw [wI_ne _ _ _ (by rcases hk with rfl | rfl <;> decide)]; exact F.2.2 t ht h⟩
theorem ilF.a11 {hB h' : HP} {x : Int32} (F : ilF s c tt m hB h') : ilF s c tt m hB (wI h' 57 11 x) := ⟨F.1.addI (by decide), fun i hi => by rw [wI_ne2 _ _ hi]; exact F.2.1 i hi, fun t ht h => by rw [wI_ne _ _ _ (by decide)]; exact F.2.2 t ht h⟩
theorem tkA_at (T : tOK s tt m v) (p q : Nat) : ∀ n d, d < n → n ≤ m → tkA tt c p q n (tt d) = if q.testBit d = true then nI p else -1
  | 0, d, h, _ => absurd h (by omega)
  | n + 1, d, h, hn => by
    show upd _ _ _ _ = _
    by_cases e : d = n
    · subst e; exact pk_us
    · have := T.2.2 d n (by omega) (by omega)
      rw [pk_un (by omega), tkA_at T p q n d (by omega) (by omega)]
theorem tkA_o (p q : Nat) : ∀ n t, (∀ d, d < n → t ≠ tt d) → tkA tt c p q n t = c t
  | 0, _, _ => rfl
  | n + 1, t, h => by
    show upd _ _ _ t = _
    rw [pk_un (h n (by omega)), tkA_o p q n t (fun d hd => h d (by omega))]
theorem w_doesFit {hB : HP} (B : ilB s c v tt m bd hB) (o : OK s) (T : tOK s tt m v) (F : ilF s c tt m hB h) (M : MV s c tt m bd h) {p q : Nat} (hp : p < zP s) (hq : q < 64) : ∃ w h', Run 3 j_Illness_doesFit [.ref 57, .int (nI p), .int (nI q)] h w h' ∧ (w = some (.int (bI (okF s c tt m bd p q))) ∧ ilF s c tt m hB h' ∧ MV s c tt m bd h' ∧ (∀ k i, k ≠ 46 → h'.1 k i = h.1 k i)) := by
  have hT := o.T; have hP := o.P; have hK := o.K; have hD := o.D; have hO := o.O; have hQ := o.Q; have hL := o.L
  have h6 := T.1
  refine Run.ofP rfl ?_
  refine Wp.norm (L' := [_, _, _, _, _, _]) rfl ?_
  -- the answer
  have fin : ∀ h' x5, ilF s c tt m hB h' → MV s c tt m bd h' → (∀ k i, k ≠ 46 → h'.1 k i = h.1 k i) → btJ (h'.2 62 p) q = true → Wp 3 j_Illness_doesFit 137 [.ref 57, .int (nI p), .int (nI q), .long (1 <<< ((nI q).toInt64 &&& 63)), .null, x5] [] h' (fun w h' => w = some (.int (bI (okF s c tt m bd p q))) ∧ ilF s c tt m hB h' ∧ MV s c tt m bd h' ∧ (∀ k i, k ≠ 46 → h'.1 k i = h.1 k i)) := by
    intro h' x5 F' M' G K
    have e := M' p q hp hq K
    repeat (first | (refine W1 rfl ?_; try refine Wp.norm (L' := [_, _, _, _, _, _]) rfl ?_) | ((first | change (_ → _) ∧ (_ → _) | change vp_in _ _ ∧ _ | change ¬ _ ∧ _); simp (disch := omega) only [nI_clamp, nI_leI, nI_ltI, nI_eq, nI_1, nI_add, nI_not_neg, nI_is_pos, nI_m1, nI_z]) | refine brT (by first | assumption | decide | omega) ?_ | refine brF (by first | assumption | decide | omega) ?_ | refine brTn (by first | assumption | decide | omega) ?_ | refine brFn (by first | assumption | decide | omega) ?_ | refine And.intro (vp_in_nI (by omega) (by decide)) ?_ | refine And.intro (vp_lit (by decide)) ?_ | refine divJ (by decide) ?_ | refine divI (by decide) ?_)
    try change _ ∧ _
    rw [lgc_eq, J_and hq, e]
    refine ⟨fun z => ?_, fun z => ?_⟩
    · repeat (first | (refine W1 rfl ?_; try refine Wp.norm (L' := [_, _, _, _, _, _]) rfl ?_) | ((first | change (_ → _) ∧ (_ → _) | change vp_in _ _ ∧ _ | change ¬ _ ∧ _); simp (disch := omega) only [nI_clamp, nI_leI, nI_ltI, nI_eq, nI_1, nI_add, nI_not_neg, nI_is_pos, nI_m1, nI_z]) | refine brT (by first | assumption | decide | omega) ?_ | refine brF (by first | assumption | decide | omega) ?_ | refine brTn (by first | assumption | decide | omega) ?_ | refine brFn (by first | assumption | decide | omega) ?_ | refine And.intro (vp_in_nI (by omega) (by decide)) ?_ | refine And.intro (vp_lit (by decide)) ?_ | refine divJ (by decide) ?_ | refine divI (by decide) ?_)
      try change _ ∧ _
      rw [z]
      exact ⟨Or.inl rfl, rfl, F', M', G⟩
    · repeat (first | (refine W1 rfl ?_; try refine Wp.norm (L' := [_, _, _, _, _, _]) rfl ?_) | ((first | change (_ → _) ∧ (_ → _) | change vp_in _ _ ∧ _ | change ¬ _ ∧ _); simp (disch := omega) only [nI_clamp, nI_leI, nI_ltI, nI_eq, nI_1, nI_add, nI_not_neg, nI_is_pos, nI_m1, nI_z]) | refine brT (by first | assumption | decide | omega) ?_ | refine brF (by first | assumption | decide | omega) ?_ | refine brTn (by first | assumption | decide | omega) ?_ | refine brFn (by first | assumption | decide | omega) ?_ | refine And.intro (vp_in_nI (by omega) (by decide)) ?_ | refine And.intro (vp_lit (by decide)) ?_ | refine divJ (by decide) ?_ | refine divI (by decide) ?_)
      try change _ ∧ _
      rw [show okF s c tt m bd p q = true by simpa using z]
      exact ⟨Or.inr rfl, rfl, F', M', G⟩
  by_cases hk : btJ (h.2 62 p) q = true
  · have ih := fin h .null F M (fun _ _ _ => rfl) hk
    repeat (first | (refine W1 rfl ?_; try refine Wp.norm (L' := [_, _, _, _, _, _]) rfl ?_) | ((first | change (_ → _) ∧ (_ → _) | change vp_in _ _ ∧ _ | change ¬ _ ∧ _); simp (disch := omega) only [nI_clamp, nI_leI, nI_ltI, nI_eq, nI_1, nI_add, nI_not_neg, nI_is_pos, nI_m1, nI_z]) | refine brT (by first | assumption | decide | omega) ?_ | refine brF (by first | assumption | decide | omega) ?_ | refine brTn (by first | assumption | decide | omega) ?_ | refine brFn (by first | assumption | decide | omega) ?_ | refine And.intro (vp_in_nI (by omega) (by decide)) ?_ | refine And.intro (vp_lit (by decide)) ?_ | refine divJ (by decide) ?_ | refine divI (by decide) ?_)
    try change _ ∧ _
    rw [lgc_eq, J_and hq]
    refine brTn (by rw [hk]; decide) ?_
    repeat (first | refine Wp.at ih rfl rfl ?_ rfl | (refine W1 rfl ?_; try refine Wp.norm (L' := [_, _, _, _, _, _]) rfl ?_) | ((first | change (_ → _) ∧ (_ → _) | change vp_in _ _ ∧ _ | change ¬ _ ∧ _); simp (disch := omega) only [nI_clamp, nI_leI, nI_ltI, nI_eq, nI_1, nI_add, nI_not_neg, nI_is_pos, nI_m1, nI_z]) | refine brT (by first | assumption | decide | omega) ?_ | refine brF (by first | assumption | decide | omega) ?_ | refine brTn (by first | assumption | decide | omega) ?_ | refine brFn (by first | assumption | decide | omega) ?_ | refine And.intro (vp_in_nI (by omega) (by decide)) ?_ | refine And.intro (vp_lit (by decide)) ?_ | refine divJ (by decide) ?_ | refine divI (by decide) ?_)
    try change _ ∧ _
    first | done | rfl | (simp (disch := omega) only [nI_1, nI_add, nI_clamp] <;> first | done | rfl)
  · have hk0 : btJ (h.2 62 p) q = false := by simpa using hk
    -- the kinds
    have lp2 : ∀ k, k ≤ zK s → ∀ h', ilF s c tt m hB h' → (∀ n, n < m → h'.1 46 (tt n) = if q.testBit n = true then nI p else -1) → (∀ k i, k ≠ 46 → h'.1 k i = h.1 k i) → (∀ p' q', p' < zP s → q' < 64 → btJ (h'.2 62 p') q' = (btJ (h.2 62 p') q' || (decide (p' = p) && decide (q' = q)))) → (∀ p' q', p' < zP s → q' < 64 → btJ (h'.2 63 p') q' = if p' = p ∧ q' = q then !anyB (fun k => decide (bd < gapV s (tkA tt c p q m) p (some k))) k else btJ (h.2 63 p') q') → Wp 3 j_Illness_doesFit 87 [.ref 57, .int (nI p), .int (nI q), .long (1 <<< ((nI q).toInt64 &&& 63)), .null, .int (nI k)] [] h' (fun w h' => w = some (.int (bI (okF s c tt m bd p q))) ∧ ilF s c tt m hB h' ∧ MV s c tt m bd h' ∧ (∀ k i, k ≠ 46 → h'.1 k i = h.1 k i)) := by
      refine up_ind ?_ (fun k hk ih => ?_)
      · intro h' F' A G K1 K2
        have R' := F'.RC B
        have ih := fin h' (.int (nI (zK s))) F' (fun p' q' hp' hq' e => by
          rw [K2 p' q' hp' hq']
          by_cases c1 : p' = p ∧ q' = q
          · rw [if_pos c1, c1.1, c1.2]
            rfl
          · rw [if_neg c1]
            rw [K1 p' q' hp' hq', show (decide (p' = p) && decide (q' = q)) = false by simp; exact fun z1 z2 => c1 ⟨z1, z2⟩, Bool.or_false] at e
            exact M p' q' hp' hq' e) G (by rw [K1 p q hp hq]; simp)
        (refine W1 rfl ?_; try refine Wp.norm (L' := [_, _, _, _, _, _]) rfl ?_)
        repeat (first | refine Wp.at ih rfl rfl ?_ rfl | (refine W1 rfl ?_; try refine Wp.norm (L' := [_, _, _, _, _, _]) rfl ?_) | ((first | change (_ → _) ∧ (_ → _) | change vp_in _ _ ∧ _ | change ¬ _ ∧ _); simp (disch := omega) only [nI_clamp, nI_leI, nI_ltI, nI_eq, nI_1, nI_add, nI_not_neg, nI_is_pos, nI_m1, nI_z, R'.K]) | refine brT (by first | assumption | decide | omega) ?_ | refine brF (by first | assumption | decide | omega) ?_ | refine brTn (by first | assumption | decide | omega) ?_ | refine brFn (by first | assumption | decide | omega) ?_ | refine And.intro (vp_in_nI (by omega) (by decide)) ?_ | refine And.intro (vp_lit (by decide)) ?_ | refine divJ (by decide) ?_ | refine divI (by decide) ?_)
        try change _ ∧ _
        first | done | rfl | (simp (disch := omega) only [nI_1, nI_add, nI_clamp] <;> first | done | rfl)
      · intro h' F' A G K1 K2
        have R' := F'.RC B
        have hgap : gapV s (fun t => h'.1 46 t) p (some k) = gapV s (tkA tt c p q m) p (some k) := gap_congr (fun t ht _ => by
          by_cases e : ∃ n, n < m ∧ t = tt n
          · obtain ⟨n, hn, rfl⟩ := e
            rw [A n hn, tkA_at T p q m n hn (Nat.le_refl _)]
          · have e' : ∀ n, n < m → t ≠ tt n := fun n hn z => e ⟨n, hn, z⟩
            rw [F'.2.2 t ht e', tkA_o p q m t e'])
        have ea : anyB (fun k => decide (bd < gapV s (tkA tt c p q m) p (some k))) (k + 1) = (anyB (fun k => decide (bd < gapV s (tkA tt c p q m) p (some k))) k || decide (bd < gapV s (tkA tt c p q m) p (some k))) := rfl
        repeat (first | (refine W1 rfl ?_; try refine Wp.norm (L' := [_, _, _, _, _, _]) rfl ?_) | ((first | change (_ → _) ∧ (_ → _) | change vp_in _ _ ∧ _ | change ¬ _ ∧ _); simp (disch := omega) only [nI_clamp, nI_leI, nI_ltI, nI_eq, nI_1, nI_add, nI_not_neg, nI_is_pos, nI_m1, nI_z, R'.K]) | refine brT (by first | assumption | decide | omega) ?_ | refine brF (by first | assumption | decide | omega) ?_ | refine brTn (by first | assumption | decide | omega) ?_ | refine brFn (by first | assumption | decide | omega) ?_ | refine And.intro (vp_in_nI (by omega) (by decide)) ?_ | refine And.intro (vp_lit (by decide)) ?_ | refine divJ (by decide) ?_ | refine divI (by decide) ?_)
        try change _ ∧ _
        refine Cl.of (r_Levels_gapOf (k := some k) R' o (fun k' e => by cases e; exact hk) hp) (by decide) ?_
        repeat (first | (refine W1 rfl ?_; try refine Wp.norm (L' := [_, _, _, _, _, _]) rfl ?_) | ((first | change (_ → _) ∧ (_ → _) | change vp_in _ _ ∧ _ | change ¬ _ ∧ _); simp (disch := omega) only [nI_clamp, nI_leI, nI_ltI, nI_eq, nI_1, nI_add, nI_not_neg, nI_is_pos, nI_m1, nI_z]) | refine brT (by first | assumption | decide | omega) ?_ | refine brF (by first | assumption | decide | omega) ?_ | refine brTn (by first | assumption | decide | omega) ?_ | refine brFn (by first | assumption | decide | omega) ?_ | refine And.intro (vp_in_nI (by omega) (by decide)) ?_ | refine And.intro (vp_lit (by decide)) ?_ | refine divJ (by decide) ?_ | refine divI (by decide) ?_)
        try change _ ∧ _
        rw [F'.bnd B, lgc_le, hgap]
        refine ⟨fun z => ?_, fun z => ?_⟩
        · have ih := ih h' F' A G K1 (fun p' q' hp' hq' => by
            rw [K2 p' q' hp' hq', ea, show decide (bd < gapV s (tkA tt c p q m) p (some k)) = false by simp only [decide_eq_false_iff_not]; exact Int64.not_lt.mpr z, Bool.or_false])
          repeat (first | refine Wp.at ih rfl rfl ?_ rfl | (refine W1 rfl ?_; try refine Wp.norm (L' := [_, _, _, _, _, _]) rfl ?_) | ((first | change (_ → _) ∧ (_ → _) | change vp_in _ _ ∧ _ | change ¬ _ ∧ _); simp (disch := omega) only [nI_clamp, nI_leI, nI_ltI, nI_eq, nI_1, nI_add, nI_not_neg, nI_is_pos, nI_m1, nI_z]) | refine brT (by first | assumption | decide | omega) ?_ | refine brF (by first | assumption | decide | omega) ?_ | refine brTn (by first | assumption | decide | omega) ?_ | refine brFn (by first | assumption | decide | omega) ?_ | refine And.intro (vp_in_nI (by omega) (by decide)) ?_ | refine And.intro (vp_lit (by decide)) ?_ | refine divJ (by decide) ?_ | refine divI (by decide) ?_)
          try change _ ∧ _
          first | done | rfl | (simp (disch := omega) only [nI_1, nI_add, nI_clamp] <;> first | done | rfl)
        · have ih := ih (wJ h' 63 p (h'.2 63 p &&& ((1 <<< ((nI q).toInt64 &&& 63)) ^^^ (-1)))) (F'.aJ (by decide)) A G (fun p' q' hp' hq' => by rw [wJ_ne _ _ _ (by decide)]; exact K1 p' q' hp' hq') (fun p' q' hp' hq' => by
            by_cases e : p' = p
            · subst e
              rw [wJ_same, btJ_and, btJ_not _ hq', btJ_shl hq hq', K2 p' q' hp' hq']
              by_cases e2 : q' = q
              · subst e2
                rw [if_pos ⟨rfl, rfl⟩, if_pos ⟨rfl, rfl⟩, ea, show decide (bd < gapV s (tkA tt c p' q' m) p' (some k)) = true by simp only [decide_eq_true_eq]; exact Int64.not_le.mp z, Bool.or_true]
                simp
              · rw [if_neg (fun w => e2 w.2), if_neg (fun w => e2 w.2)]
                simp [e2]
            · rw [wJ_ne2 _ _ e, K2 p' q' hp' hq', if_neg (fun w => e w.1), if_neg (fun w => e w.1)])
          repeat (first | refine Wp.at ih rfl rfl ?_ ?_ | (refine W1 rfl ?_; try refine Wp.norm (L' := [_, _, _, _, _, _]) rfl ?_) | ((first | change (_ → _) ∧ (_ → _) | change vp_in _ _ ∧ _ | change ¬ _ ∧ _); simp (disch := omega) only [nI_clamp, nI_leI, nI_ltI, nI_eq, nI_1, nI_add, nI_not_neg, nI_is_pos, nI_m1, nI_z]) | refine brT (by first | assumption | decide | omega) ?_ | refine brF (by first | assumption | decide | omega) ?_ | refine brTn (by first | assumption | decide | omega) ?_ | refine brFn (by first | assumption | decide | omega) ?_ | refine And.intro (vp_in_nI (by omega) (by decide)) ?_ | refine And.intro (vp_lit (by decide)) ?_ | refine divJ (by decide) ?_ | refine divI (by decide) ?_)
          try change _ ∧ _
          · first | done | rfl | (simp (disch := omega) only [nI_1, nI_add, nI_clamp] <;> first | done | rfl)
          · first | done | rfl | (simp (disch := omega) only [nI_1, nI_add, nI_clamp] <;> first | done | rfl)
    -- laying the taken
    have lp1 : ∀ n, n ≤ m → ∀ h', ilF s c tt m hB h' → (∀ d, d < n → h'.1 46 (tt d) = if q.testBit d = true then nI p else -1) → (∀ k i, k ≠ 46 → h'.1 k i = h.1 k i) → h'.2 = h.2 → Wp 3 j_Illness_doesFit 20 [.ref 57, .int (nI p), .int (nI q), .long (1 <<< ((nI q).toInt64 &&& 63)), .null, .int (nI n)] [] h' (fun w h' => w = some (.int (bI (okF s c tt m bd p q))) ∧ ilF s c tt m hB h' ∧ MV s c tt m bd h' ∧ (∀ k i, k ≠ 46 → h'.1 k i = h.1 k i)) := by
      refine up_ind ?_ (fun n hn ih => ?_)
      · intro h' F' A G J
        have hc := F'.cnt B
        have ih := lp2 0 (Nat.zero_le _) (wJ (wJ h' 62 p (h'.2 62 p ||| (1 <<< ((nI q).toInt64 &&& 63)))) 63 p (h'.2 63 p ||| (1 <<< ((nI q).toInt64 &&& 63)))) ((F'.aJ (by decide)).aJ (by decide)) A G (fun p' q' hp' hq' => by
          rw [wJ_ne _ _ _ (by decide)]
          by_cases e : p' = p
          · subst e
            rw [wJ_same, btJ_or, btJ_shl hq hq', J]
            simp
          · rw [wJ_ne2 _ _ e, J]
            simp [e]) (fun p' q' hp' hq' => by
          by_cases e : p' = p
          · subst e
            rw [wJ_same, btJ_or, btJ_shl hq hq', J]
            by_cases e2 : q' = q
            · rw [if_pos ⟨rfl, e2⟩]; simp [e2, anyB]
            · rw [if_neg (fun w => e2 w.2)]; simp [e2]
          · rw [wJ_ne2 _ _ e, wJ_ne _ _ _ (by decide), if_neg (fun w => e w.1), J])
        (refine W1 rfl ?_; try refine Wp.norm (L' := [_, _, _, _, _, _]) rfl ?_)
        repeat (first | refine Wp.at ih rfl rfl ?_ ?_ | (refine W1 rfl ?_; try refine Wp.norm (L' := [_, _, _, _, _, _]) rfl ?_) | ((first | change (_ → _) ∧ (_ → _) | change vp_in _ _ ∧ _ | change ¬ _ ∧ _); simp (disch := omega) only [nI_clamp, nI_leI, nI_ltI, nI_eq, nI_1, nI_add, nI_not_neg, nI_is_pos, nI_m1, nI_z, hc]) | refine brT (by first | assumption | decide | omega) ?_ | refine brF (by first | assumption | decide | omega) ?_ | refine brTn (by first | assumption | decide | omega) ?_ | refine brFn (by first | assumption | decide | omega) ?_ | refine And.intro (vp_in_nI (by omega) (by decide)) ?_ | refine And.intro (vp_lit (by decide)) ?_ | refine divJ (by decide) ?_ | refine divI (by decide) ?_)
        try change _ ∧ _
        · first | done | rfl | (simp (disch := omega) only [nI_1, nI_add, nI_clamp] <;> first | done | rfl)
        · simp (disch := omega) only [nI_clamp, wJ_ne]
      · intro h' F' A G J
        have hc := F'.cnt B
        have ht := F'.trn B hn
        have htT := (T.2.1 n hn).1
        have ih := fun z (hz : z = if q.testBit n = true then nI p else -1) => ih (wI h' 46 (tt n) z) (F'.a46 hn) (fun d hd => by
          by_cases e : d = n
          · rw [e, wI_same, hz]
          · have : tt d < tt n := T.2.2 d n (by omega) hn
            rw [wI_ne2 _ _ (by omega)]; exact A d (by omega)) (fun k i hk => by rw [wI_ne _ _ _ hk]; exact G k i hk) J
        repeat (first | (refine W1 rfl ?_; try refine Wp.norm (L' := [_, _, _, _, _, _]) rfl ?_) | ((first | change (_ → _) ∧ (_ → _) | change vp_in _ _ ∧ _ | change ¬ _ ∧ _); simp (disch := omega) only [nI_clamp, nI_leI, nI_ltI, nI_eq, nI_1, nI_add, nI_not_neg, nI_is_pos, nI_m1, nI_z, hc, ht]) | refine brT (by first | assumption | decide | omega) ?_ | refine brF (by first | assumption | decide | omega) ?_ | refine brTn (by first | assumption | decide | omega) ?_ | refine brFn (by first | assumption | decide | omega) ?_ | refine And.intro (vp_in_nI (by omega) (by decide)) ?_ | refine And.intro (vp_lit (by decide)) ?_ | refine divJ (by decide) ?_ | refine divI (by decide) ?_)
        try change _ ∧ _
        rw [shr1 _ (by omega), bt_nI (by omega)]
        cases hb : q.testBit n with
        | false =>
          have ih := ih (-1) (by rw [hb]; rfl)
          refine brT rfl ?_
          repeat (first | refine Wp.at ih rfl rfl ?_ ?_ | (refine W1 rfl ?_; try refine Wp.norm (L' := [_, _, _, _, _, _]) rfl ?_) | ((first | change (_ → _) ∧ (_ → _) | change vp_in _ _ ∧ _ | change ¬ _ ∧ _); simp (disch := omega) only [nI_clamp, nI_leI, nI_ltI, nI_eq, nI_1, nI_add, nI_not_neg, nI_is_pos, nI_m1, nI_z, ht]) | refine brT (by first | assumption | decide | omega) ?_ | refine brF (by first | assumption | decide | omega) ?_ | refine brTn (by first | assumption | decide | omega) ?_ | refine brFn (by first | assumption | decide | omega) ?_ | refine And.intro (vp_in_nI (by omega) (by decide)) ?_ | refine And.intro (vp_lit (by decide)) ?_ | refine divJ (by decide) ?_ | refine divI (by decide) ?_)
          try change _ ∧ _
          · first | done | rfl | (simp (disch := omega) only [nI_1, nI_add, nI_clamp] <;> first | done | rfl)
          · first | done | rfl | (simp (disch := omega) only [nI_1, nI_add, nI_clamp, ht] <;> first | done | rfl)
        | true =>
          have ih := ih (nI p) (by rw [hb]; rfl)
          refine brF (by decide) ?_
          repeat (first | refine Wp.at ih rfl rfl ?_ ?_ | (refine W1 rfl ?_; try refine Wp.norm (L' := [_, _, _, _, _, _]) rfl ?_) | ((first | change (_ → _) ∧ (_ → _) | change vp_in _ _ ∧ _ | change ¬ _ ∧ _); simp (disch := omega) only [nI_clamp, nI_leI, nI_ltI, nI_eq, nI_1, nI_add, nI_not_neg, nI_is_pos, nI_m1, nI_z, ht]) | refine brT (by first | assumption | decide | omega) ?_ | refine brF (by first | assumption | decide | omega) ?_ | refine brTn (by first | assumption | decide | omega) ?_ | refine brFn (by first | assumption | decide | omega) ?_ | refine And.intro (vp_in_nI (by omega) (by decide)) ?_ | refine And.intro (vp_lit (by decide)) ?_ | refine divJ (by decide) ?_ | refine divI (by decide) ?_)
          try change _ ∧ _
          · first | done | rfl | (simp (disch := omega) only [nI_1, nI_add, nI_clamp] <;> first | done | rfl)
          · first | done | rfl | (simp (disch := omega) only [nI_1, nI_add, nI_clamp, ht] <;> first | done | rfl)
    have ih := lp1 0 (Nat.zero_le _) h F (fun d hd => absurd hd (by omega)) (fun _ _ _ => rfl) rfl
    repeat (first | (refine W1 rfl ?_; try refine Wp.norm (L' := [_, _, _, _, _, _]) rfl ?_) | ((first | change (_ → _) ∧ (_ → _) | change vp_in _ _ ∧ _ | change ¬ _ ∧ _); simp (disch := omega) only [nI_clamp, nI_leI, nI_ltI, nI_eq, nI_1, nI_add, nI_not_neg, nI_is_pos, nI_m1, nI_z]) | refine brT (by first | assumption | decide | omega) ?_ | refine brF (by first | assumption | decide | omega) ?_ | refine brTn (by first | assumption | decide | omega) ?_ | refine brFn (by first | assumption | decide | omega) ?_ | refine And.intro (vp_in_nI (by omega) (by decide)) ?_ | refine And.intro (vp_lit (by decide)) ?_ | refine divJ (by decide) ?_ | refine divI (by decide) ?_)
    try change _ ∧ _
    rw [lgc_eq, J_and hq]
    refine brFn hk0 ?_
    repeat (first | refine Wp.at ih rfl rfl ?_ rfl | (refine W1 rfl ?_; try refine Wp.norm (L' := [_, _, _, _, _, _]) rfl ?_) | ((first | change (_ → _) ∧ (_ → _) | change vp_in _ _ ∧ _ | change ¬ _ ∧ _); simp (disch := omega) only [nI_clamp, nI_leI, nI_ltI, nI_eq, nI_1, nI_add, nI_not_neg, nI_is_pos, nI_m1, nI_z]) | refine brT (by first | assumption | decide | omega) ?_ | refine brF (by first | assumption | decide | omega) ?_ | refine brTn (by first | assumption | decide | omega) ?_ | refine brFn (by first | assumption | decide | omega) ?_ | refine And.intro (vp_in_nI (by omega) (by decide)) ?_ | refine And.intro (vp_lit (by decide)) ?_ | refine divJ (by decide) ?_ | refine divI (by decide) ?_)
    try change _ ∧ _
    first | done | rfl | (simp (disch := omega) only [nI_1, nI_add, nI_clamp] <;> first | done | rfl)
end ILL3
