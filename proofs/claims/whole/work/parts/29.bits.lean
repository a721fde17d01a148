/-! ===== BITS ===== -/
def bt (x : Int32) (p : Nat) : Bool := x.toBitVec.getLsbD p
theorem sh31 : ∀ p, p < 32 → ((nI p &&& 31).toBitVec.smod 32).toNat = p := by decide
theorem bt_ge {x : Int32} {p : Nat} (hp : 32 ≤ p) : bt x p = false := BitVec.getLsbD_of_ge _ _ hp
theorem bt_nI {m : Nat} (hm : m < 2 ^ 32) (p : Nat) : bt (nI m) p = m.testBit p := by
  unfold bt
  rw [show (nI m).toBitVec = BitVec.ofNat 32 m from rfl, BitVec.getLsbD_ofNat]
  by_cases hp : p < 32
  · simp [hp]
  · simp only [hp, decide_false, Bool.false_and]
    exact (Nat.testBit_lt_two_pow (Nat.lt_of_lt_of_le hm (Nat.pow_le_pow_right (by decide) (by omega)))).symm
theorem bt_ext {x y : Int32} (h : ∀ q, q < 32 → bt x q = bt y q) : x = y := by
  apply Int32.toBitVec_inj.mp
  apply BitVec.eq_of_getLsbD_eq
  intro i hi
  exact h i hi
theorem bt_and (x y : Int32) (q : Nat) : bt (x &&& y) q = (bt x q && bt y q) := by
  unfold bt
  rw [Int32.toBitVec_and, BitVec.getLsbD_and]
theorem bt_or (x y : Int32) (q : Nat) : bt (x ||| y) q = (bt x q || bt y q) := by
  unfold bt
  rw [Int32.toBitVec_or, BitVec.getLsbD_or]
theorem bt_not (x : Int32) {q : Nat} (hq : q < 32) : bt (x ^^^ (-1)) q = !bt x q := by
  unfold bt
  rw [Int32.toBitVec_xor, BitVec.getLsbD_xor, show (-1 : Int32).toBitVec = BitVec.allOnes 32 from rfl, BitVec.getLsbD_allOnes]
  simp [hq]
theorem bt_zero (q : Nat) : bt 0 q = false := by
  unfold bt
  rw [show (0 : Int32).toBitVec = 0#32 from rfl, BitVec.getLsbD_zero]
theorem and1 (x : Int32) : x &&& 1 = if bt x 0 then 1 else 0 := by
  apply Int32.toBitVec_inj.mp
  rw [Int32.toBitVec_and, show (1 : Int32).toBitVec = 1#32 from rfl, BitVec.and_one_eq_setWidth_ofBool_getLsbD]
  unfold bt
  cases x.toBitVec.getLsbD 0 <;> rfl
theorem bt_shr (x : Int32) {p : Nat} (hp : p < 32) : bt (x >>> (nI p &&& 31)) 0 = bt x p := by
  unfold bt
  rw [Int32.toBitVec_shiftRight, BitVec.sshiftRight', BitVec.getLsbD_sshiftRight, sh31 p hp]
  simp [hp]
theorem shr1 (x : Int32) {p : Nat} (hp : p < 32) : (x >>> (nI p &&& 31)) &&& 1 = if bt x p then 1 else 0 := by rw [and1, bt_shr x hp]
theorem bt_one (q : Nat) : bt 1 q = decide (q = 0) := by
  unfold bt
  rw [show (1 : Int32).toBitVec = 1#32 from rfl, BitVec.getLsbD_one]
  simp
theorem bt_shl {p q : Nat} (hp : p < 32) (hq : q < 32) : bt (1 <<< (nI p &&& 31)) q = decide (q = p) := by
  unfold bt
  rw [Int32.toBitVec_shiftLeft, show ∀ a b : BitVec 32, a <<< b = a <<< b.toNat from fun _ _ => rfl, BitVec.getLsbD_shiftLeft, sh31 p hp]
  rw [show (1 : Int32).toBitVec = 1#32 from rfl, BitVec.getLsbD_one]
  simp only [hq]
  by_cases h : q = p
  · subst h; simp
  · by_cases h2 : q < p
    · simp [h, h2]
    · simp [h]; omega
theorem and_shl {x : Int32} {p : Nat} (hp : p < 32) : (x &&& (1 <<< (nI p &&& 31)) = 0) ↔ bt x p = false := by
  constructor
  · intro h
    have h2 := bt_and x (1 <<< (nI p &&& 31)) p
    rw [h, bt_zero, bt_shl hp hp] at h2
    simpa using h2.symm
  · intro h
    refine bt_ext fun q hq => ?_
    rw [bt_and, bt_shl hp hq, bt_zero]
    by_cases e : q = p
    · subst e; simp [h]
    · simp [e]
theorem and_zero {x y : Int32} : (x &&& y = 0) ↔ ∀ q, q < 32 → bt x q = true → bt y q = false := by
  constructor
  · intro h q hq h1
    have h2 := bt_and x y q
    rw [h, bt_zero, h1] at h2
    simpa using h2.symm
  · intro h
    refine bt_ext fun q hq => ?_
    rw [bt_and, bt_zero]
    cases h1 : bt x q with
    | false => rfl
    | true => rw [h q hq h1]; rfl
/-! ===== WHAT IS DUE ===== -/
def dueN (s : ST) (p t : Nat) : Nat := if (tM s t).testBit p then pS s p * (720720 / mS s (tM s t) (zP s)) else 0
section DUE
variable {s : ST} {c v : RT} {h : HP}
theorem dueN_le (o : OK s) {p : Nat} (hp : p < zP s) (t : Nat) : dueN s p t ≤ 6486480 := by
  unfold dueN
  split
  · have h1 := o.shr9 hp
    have h2 : 720720 / mS s (tM s t) (zP s) ≤ 720720 := Nat.div_le_self _ _
    exact Nat.le_trans (Nat.mul_le_mul h1 h2) (by decide)
  · exact Nat.zero_le _
theorem r_Calendar_dueOf (R : RC s c v h) (o : OK s) {p t : Nat} (hp : p < zP s) (ht : t < zT s) : Run 0 j_Calendar_dueOf [.ref 36, .int (nI p), .int (nI t)] h (some (.int (nI (dueN s p t)))) h := by
  have hT := o.T
  have hP := o.P
  refine Run.of rfl ?_
  repeat refine W1 rfl ?_
  refine ⟨vp_in_nI (by omega) (by decide), ?_⟩
  repeat refine W1 rfl ?_
  refine ⟨vp_in_nI (by omega) (by decide), ?_⟩
  repeat refine W1 rfl ?_
  refine ⟨vp_in_nI (by omega) (by decide), ?_⟩
  repeat refine W1 rfl ?_
  rw [nI_clamp (by omega), nI_clamp (by omega), R.msk ht, R.shr hp, R.unt ht, shr1 _ (by omega), bt_nI (by have := o.msk16 ht; omega), o.unt ht]
  unfold dueN
  refine ⟨?_, rfl⟩
  split
  · rw [show (1 : Int32) = nI 1 from rfl, pk_mul, pk_mul, Nat.one_mul]
  · rw [show (0 : Int32) = nI 0 from rfl, pk_mul, pk_mul, Nat.zero_mul, Nat.zero_mul]
theorem r_M_mayH (R : RM s c v h) (o : OK s) {p t : Nat} (hp : p < 32) (ht : t < zT s) : Run 0 j_M_mayHave [.ref 65, .int (nI p), .int (nI t)] h (some (.int (if (tM s t).testBit p then 1 else 0))) h := by
  have hT := o.T
  have := r_M_mayHave (h := h) (t := t) (nI p) (by omega)
  rw [R.msk ht, shr1 _ hp, bt_nI (by have := o.msk16 ht; omega)] at this
  cases hb : (tM s t).testBit p <;> simpa [hb] using this
theorem div_all : ∀ a, a < 10 → ∀ b, b < 17 → 0 < b → 720720 * a / b = a * (720720 / b) := by decide
theorem mS_pos (o : OK s) {m p : Nat} (hp : p < zP s) (hb : m.testBit p = true) : 0 < mS s m (zP s) := by
  have h1 : mS s m (p + 1) ≤ mS s m (zP s) := sm_mono _ (by omega)
  have h2 : mS s m (p + 1) = mS s m p + pS s p := by
    unfold mS
    rw [sm, hb, if_pos rfl]
  have := o.shr1 hp
  omega
theorem mS_le16 (o : OK s) {m n : Nat} (hn : n ≤ zP s) : mS s m n ≤ 16 := Nat.le_trans (sm_mono _ hn) (o.mS16 m)
theorem r_M_dueOf (R : RM s c v h) (o : OK s) {p t : Nat} (hp : p < zP s) (ht : t < zT s) : Run 1 j_M_dueOf [.ref 65, .int (nI p), .int (nI t)] h (some (.int (nI (dueN s p t)))) h := by
  have hT := o.T
  have hP := o.P
  refine Run.of rfl ?_
  repeat refine W1 rfl ?_
  refine Cl.of (r_M_mayH R o (by omega) ht) (by decide) ?_
  repeat refine W1 rfl ?_
  refine ⟨fun hc => ?_, fun hc => ?_⟩
  · have hb : (tM s t).testBit p = true := by
      cases hb : (tM s t).testBit p with
      | true => rfl
      | false => rw [hb] at hc; exact absurd rfl hc
    iterate 4 refine W1 rfl ?_
    refine up_ind (n := zP s) (P := fun i => Wp 1 j_M_dueOf 16 [.ref 65, .int (nI p), .int (nI t), .int (nI (mS s (tM s t) i)), .int (nI i)] [] h _) ?_ (fun i hi ih => ?_) 0 (by omega)
    · repeat refine W1 rfl ?_
      refine ⟨vp_in_nI (n := 1) (by decide) (by decide), ?_⟩
      repeat refine W1 rfl ?_
      refine ⟨fun _ => ?_, fun z => absurd (by rw [show (h.1 88 (Int32.toNatClampNeg 1)) = nI (zP s) from R.P]; exact nI_le (Nat.le_refl _) (by omega)) z⟩
      repeat refine W1 rfl ?_
      rw [show (16 : Int32) = nI 16 from rfl, nI_add]
      refine ⟨vp_in_nI (by omega) (by decide), ?_⟩
      repeat refine W1 rfl ?_
      have h0 := mS_pos o hp hb
      have h16 := o.mS16 (tM s t)
      refine ⟨nI_ne0 h0 (by omega), ?_⟩
      repeat refine W1 rfl ?_
      rw [nI_clamp (by omega), R.shr hp, show (720720 : Int32) = nI 720720 from rfl, pk_mul, pk_div (by have := o.shr9 hp; omega) h0 (by omega)]
      rw [div_all _ (by have := o.shr9 hp; omega) _ (by omega) h0]
      unfold dueN
      rw [hb, if_pos rfl]
      exact ⟨rfl, rfl⟩
    · repeat refine W1 rfl ?_
      refine ⟨vp_in_nI (n := 1) (by decide) (by decide), ?_⟩
      repeat refine W1 rfl ?_
      refine ⟨fun z => absurd z (by rw [show (h.1 88 (Int32.toNatClampNeg 1)) = nI (zP s) from R.P]; exact nI_ge hi (by omega)), fun _ => ?_⟩
      repeat refine W1 rfl ?_
      refine Cl.of (r_M_mayH R o (by omega) ht) (by decide) ?_
      have e : mS s (tM s t) (i + 1) = mS s (tM s t) i + (if (tM s t).testBit i then pS s i else 0) := rfl
      rw [e] at ih
      cases hb2 : (tM s t).testBit i with
      | true =>
        rw [hb2] at ih
        repeat refine W1 rfl ?_
        refine ⟨fun z => absurd z (by decide), fun _ => ?_⟩
        repeat refine W1 rfl ?_
        rw [show (16 : Int32) = nI 16 from rfl, nI_add]
        refine ⟨vp_in_nI (by omega) (by decide), ?_⟩
        repeat (first | refine Wp.to ih ?_ rfl | refine W1 rfl ?_)
        rw [nI_clamp (by omega), R.shr hi, nI_1, nI_add]
        rfl
      | false =>
        rw [hb2] at ih
        repeat refine W1 rfl ?_
        refine ⟨fun _ => ?_, fun z => absurd rfl z⟩
        repeat (first | refine Wp.to ih ?_ rfl | refine W1 rfl ?_)
        rw [nI_1]
        rfl
  · have hb : (tM s t).testBit p = false := by
      cases hb : (tM s t).testBit p with
      | false => rfl
      | true => rw [hb] at hc; exact absurd hc (by decide)
    repeat refine W1 rfl ?_
    unfold dueN
    rw [hb]
    exact ⟨rfl, rfl⟩
end DUE
