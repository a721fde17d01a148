/-! ===== TESTS ARE TRIED: arithmetic ===== -/
abbrev iI (v : Int) : Int32 := Int32.ofInt v
abbrev lI (v : Int) : Int64 := Int64.ofInt v
def bE (v : Int) : Prop := -1000000000 ≤ v ∧ v ≤ 1000000000
def clE (v : Int) : Int := if 1000000000 < v then 1000000000 else if v < -1000000000 then -1000000000 else v
def flE (a b : Int) : Int := if a.tdiv b * b ≠ a ∧ ¬ ((a < 0) ↔ (b < 0)) then a.tdiv b - 1 else a.tdiv b
def opE (c : Nat) (a b : Int) : Int :=
  if c = 1 then clE (a + b) else if c = 2 then clE (a - b) else if c = 3 then clE (a * b) else if c = 4 then (if b = 0 then 0 else flE a b) else if c = 5 then (if b = 0 then 0 else a - b * flE a b)
  else if c = 11 then (if a < b then 1 else 0) else if c = 12 then (if b < a then 1 else 0) else if c = 13 then (if a = b then 1 else 0) else if c = 14 then (if a = 1 ∧ b = 1 then 1 else 0) else (if a = 1 ∨ b = 1 then 1 else 0)
theorem bm32 {v : Int} (h1 : -2147483648 ≤ v) (h2 : v < 2147483648) : v.bmod (2 ^ 32) = v := by
  apply Int.bmod_eq_of_le <;> omega
theorem bm64 {v : Int} (h1 : -9223372036854775808 ≤ v) (h2 : v < 9223372036854775808) : v.bmod (2 ^ 64) = v := by
  apply Int.bmod_eq_of_le <;> omega
theorem iI_t {v : Int} (h1 : -2147483648 ≤ v) (h2 : v < 2147483648) : (iI v).toInt = v := Int32.toInt_ofInt_of_le (by omega) (by omega)
theorem lI_t {v : Int} (h1 : -9223372036854775808 ≤ v) (h2 : v < 9223372036854775808) : (lI v).toInt = v := Int64.toInt_ofInt_of_le (by omega) (by omega)
theorem i32_of {x : Int32} {v : Int} (h : x.toInt = v) : x = iI v := by rw [← h]; exact (Int32.ofInt_toInt x).symm
theorem i64_of {x : Int64} {v : Int} (h : x.toInt = v) : x = lI v := by rw [← h]; exact (Int64.ofInt_toInt x).symm
theorem bE.t {v : Int} (h : bE v) : (iI v).toInt = v := iI_t (by have := h.1; omega) (by have := h.2; omega)
theorem bE.l {v : Int} (h : bE v) : (lI v).toInt = v := lI_t (by have := h.1; omega) (by have := h.2; omega)
theorem iI_eq {a b : Int} (ha : bE a) (hb : bE b) : (iI a = iI b) ↔ a = b := ⟨fun z => by have := congrArg Int32.toInt z; rw [ha.t, hb.t] at this; exact this, fun z => by rw [z]⟩
theorem iI_lt {a b : Int} (ha : bE a) (hb : bE b) : (iI a < iI b) ↔ a < b := by rw [Int32.lt_iff_toInt_lt, ha.t, hb.t]
theorem iI_le {a b : Int} (ha : bE a) (hb : bE b) : (iI a ≤ iI b) ↔ a ≤ b := by rw [Int32.le_iff_toInt_le, ha.t, hb.t]
theorem lI_eq {a b : Int} (ha : bE a) (hb : bE b) : (lI a = lI b) ↔ a = b := ⟨fun z => by have := congrArg Int64.toInt z; rw [ha.l, hb.l] at this; exact this, fun z => by rw [z]⟩
theorem lI_lt {a b : Int} (ha : bE a) (hb : bE b) : (lI a < lI b) ↔ a < b := by rw [Int64.lt_iff_toInt_lt, ha.l, hb.l]
theorem lI_le {a b : Int} (ha : bE a) (hb : bE b) : (lI a ≤ lI b) ↔ a ≤ b := by rw [Int64.le_iff_toInt_le, ha.l, hb.l]
theorem bE_0 : bE 0 := by unfold bE; omega
theorem bE_1 : bE 1 := by unfold bE; omega
theorem clE_b (v : Int) : bE (clE v) := by
  unfold clE bE
  split
  · omega
  · split <;> omega
theorem td_b {a b : Int} (ha : bE a) : bE (a.tdiv b) ∧ bE (a.tdiv b * b) := by
  have h1 : (a.tdiv b).natAbs ≤ a.natAbs := Int.natAbs_tdiv_le_natAbs a b
  have h2 : (a.tdiv b * b).natAbs ≤ a.natAbs := by
    rw [Int.natAbs_mul, Int.natAbs_tdiv]
    exact Nat.div_mul_le_self _ _
  unfold bE at *
  omega
theorem fl_b {a b : Int} (ha : bE a) (hb : bE b) (h0 : b ≠ 0) : bE (flE a b) ∧ bE (a - b * flE a b) := by
  have h1 : (a.tdiv b).natAbs ≤ a.natAbs := Int.natAbs_tdiv_le_natAbs a b
  have h2 : (a.tdiv b).natAbs * b.natAbs = (a.tdiv b * b).natAbs := (Int.natAbs_mul _ _).symm
  have hm : a.tmod b = a - b * a.tdiv b := Int.tmod_def a b
  have hc : b * a.tdiv b = a.tdiv b * b := Int.mul_comm _ _
  have hr : (a.tmod b).natAbs < b.natAbs := by
    rw [Int.natAbs_tmod]
    exact Nat.mod_lt _ (by omega)
  have hd : (a.tdiv b).natAbs = a.natAbs / b.natAbs := Int.natAbs_tdiv a b
  have hx : b * (a.tdiv b - 1) = b * a.tdiv b - b := by rw [Int.mul_sub, Int.mul_one]
  unfold flE
  by_cases c : a.tdiv b * b ≠ a ∧ ¬ ((a < 0) ↔ (b < 0))
  · rw [if_pos c, hx]
    have hs : a.tmod b ≠ 0 := by omega
    have hq : 1 ≤ b.natAbs := by omega
    have hq2 : (a.tdiv b).natAbs + 1 ≤ a.natAbs ∨ b.natAbs = 1 := by
      by_cases e : b.natAbs = 1
      · exact Or.inr e
      · left
        rw [hd]
        have : a.natAbs / b.natAbs ≤ a.natAbs / 2 := Nat.div_le_div_left (by omega) (by decide)
        have ha1 : 1 ≤ a.natAbs := by
          rcases Nat.eq_zero_or_pos a.natAbs with z | z
          · exfalso
            have z' : a = 0 := Int.natAbs_eq_zero.mp z
            subst z'
            simp at hs
          · exact z
        omega
    have hb1 : b.natAbs ≠ 1 := fun z => by omega
    have sgn : (0 ≤ a → 0 ≤ a.tmod b) ∧ (a ≤ 0 → a.tmod b ≤ 0) := ⟨fun z => Int.tmod_nonneg b z, fun z => by
      have := Int.tmod_nonneg b (a := -a) (by omega)
      rw [Int.neg_tmod] at this
      omega⟩
    unfold bE at *
    omega
  · rw [if_neg c]
    have := td_b (b := b) ha
    unfold bE at *
    omega
theorem op_b {c : Nat} {a b : Int} (ha : bE a) (hb : bE b) : bE (opE c a b) ∧ (11 ≤ c → opE c a b = 0 ∨ opE c a b = 1) := by
  have k : ∀ {p : Prop} [Decidable p], bE (if p then 1 else 0) ∧ ((if p then (1 : Int) else 0) = 0 ∨ (if p then (1 : Int) else 0) = 1) := fun {p} _ => by
    by_cases z : p
    · rw [if_pos z]; exact ⟨bE_1, Or.inr rfl⟩
    · rw [if_neg z]; exact ⟨bE_0, Or.inl rfl⟩
  unfold opE
  split
  · exact ⟨clE_b _, fun z => by omega⟩
  split
  · exact ⟨clE_b _, fun z => by omega⟩
  split
  · exact ⟨clE_b _, fun z => by omega⟩
  split
  · refine ⟨?_, fun z => by omega⟩
    split
    · exact bE_0
    · rename_i z; exact (fl_b ha hb z).1
  split
  · refine ⟨?_, fun z => by omega⟩
    split
    · exact bE_0
    · rename_i z; exact (fl_b ha hb z).2
  split
  · exact ⟨k.1, fun _ => k.2⟩
  split
  · exact ⟨k.1, fun _ => k.2⟩
  split
  · exact ⟨k.1, fun _ => k.2⟩
  split
  · exact ⟨k.1, fun _ => k.2⟩
  · exact ⟨k.1, fun _ => k.2⟩
section ARC
variable {a b : Int}
theorem q_div (ha : bE a) (hb : bE b) : iI a / iI b = iI (a.tdiv b) := by
  refine i32_of ?_
  have := (td_b (b := b) ha).1
  rw [Int32.toInt_div, ha.t, hb.t]
  unfold bE at this
  exact bm32 (by omega) (by omega)
theorem q_mul (ha : bE a) (hb : bE b) (h : bE (a * b)) : iI a * iI b = iI (a * b) := by
  refine i32_of ?_
  rw [Int32.toInt_mul, ha.t, hb.t]
  unfold bE at h
  exact bm32 (by omega) (by omega)
theorem q_sub (ha : bE a) (hb : bE b) (h : bE (a - b)) : iI a - iI b = iI (a - b) := by
  refine i32_of ?_
  rw [Int32.toInt_sub, ha.t, hb.t]
  unfold bE at h
  exact bm32 (by omega) (by omega)
theorem q_xor (ha : bE a) (hb : bE b) : (0 ≤ iI a ^^^ iI b) ↔ ((a < 0) ↔ (b < 0)) := by
  have ea : (iI a).toBitVec.msb = decide (a < 0) := by
    rw [BitVec.msb_eq_toInt]
    have : (iI a).toBitVec.toInt = a := ha.t
    rw [this]
  have eb : (iI b).toBitVec.msb = decide (b < 0) := by
    rw [BitVec.msb_eq_toInt]
    have : (iI b).toBitVec.toInt = b := hb.t
    rw [this]
  have ex : (iI a ^^^ iI b).toBitVec.msb = decide ((iI a ^^^ iI b).toInt < 0) := BitVec.msb_eq_toInt
  rw [Int32.toBitVec_xor, BitVec.msb_xor, ea, eb] at ex
  rw [Int32.le_iff_toInt_le]
  have z0 : (0 : Int32).toInt = 0 := rfl
  rw [z0]
  by_cases h1 : a < 0
  · by_cases h2 : b < 0
    · simp [h1, h2] at ex ⊢
      exact ex
    · simp [h1, h2] at ex ⊢
      omega
  · by_cases h2 : b < 0
    · simp [h1, h2] at ex ⊢
      omega
    · simp [h1, h2] at ex ⊢
      exact ex
end ARC
