/-! ===== WHAT FEED LAYS IS THE SAME ON BOTH SIDES ===== -/
theorem byte_num (w : Int32) (k : Nat) (hk : k = 0 ∨ k = 8 ∨ k = 16 ∨ k = 24) (x : Int32) (hx : x.toInt = w.toInt >>> k) : x.toBitVec.toNat % 2 ^ 8 = w.toBitVec.toNat / 2 ^ k % 2 ^ 8 := by
  have e1 : x.toInt = x.toBitVec.toInt := rfl
  have e2 : w.toInt = w.toBitVec.toInt := rfl
  rw [e1, e2, Int.shiftRight_eq_div_pow, BitVec.toInt_eq_toNat_cond, BitVec.toInt_eq_toNat_cond] at hx
  have l1 := x.toBitVec.isLt
  have l2 := w.toBitVec.isLt
  generalize x.toBitVec.toNat = a at *
  generalize w.toBitVec.toNat = b at *
  rcases hk with rfl | rfl | rfl | rfl <;> (split at hx <;> split at hx <;> omega)
theorem byte_eq (w s t : Int32) (k : Nat) (hk : k = 0 ∨ k = 8 ∨ k = 16 ∨ k = 24) (hs : ((s.toUInt32 &&& Int32.toUInt32 31).toBitVec % 32).toNat = k) (ht : ((t &&& 31).toBitVec.smod 32).toNat = k) : byteAt w s = (w >>> (t &&& 31)) &&& 255 := by
  unfold byteAt
  rw [pk_and _ 8 (by decide), pk_and _ 8 (by decide), pk_ushr w s k hs, byte_num w k hk _ (pk_shr w (t &&& 31) k ht)]
theorem byte_0 (w : Int32) (k : Int32) (hk : 8 * (3 - (k - k / 4 * 4)) = 24) : byteAt w 24 = mByte w k := by
  unfold mByte
  rw [hk]
  exact byte_eq w 24 24 24 (by decide) (by decide) (by decide)
theorem byte_1 (w : Int32) (k : Int32) (hk : 8 * (3 - (k - k / 4 * 4)) = 16) : byteAt w 16 = mByte w k := by
  unfold mByte
  rw [hk]
  exact byte_eq w 16 16 16 (by decide) (by decide) (by decide)
theorem byte_2 (w : Int32) (k : Int32) (hk : 8 * (3 - (k - k / 4 * 4)) = 8) : byteAt w 8 = mByte w k := by
  unfold mByte
  rw [hk]
  exact byte_eq w 8 8 8 (by decide) (by decide) (by decide)
theorem byte_3 (w : Int32) (k : Int32) (hk : 8 * (3 - (k - k / 4 * 4)) = 0) : byteAt w 0 = mByte w k := by
  unfold mByte
  rw [hk]
  exact byte_eq w 0 0 0 (by decide) (by decide) (by decide)
theorem ap1_2 (h : HP) (n : Nat) (x : Int32) : (ap1 h n x).1 2 = upd (h.1 2) n x := by
  unfold ap1
  rw [wI_ne _ _ _ (by decide), wI_1, if_pos rfl]
theorem ap1_out (h : HP) (n : Nat) (x : Int32) (k : Nat) (h1 : k ≠ 1) (h2 : k ≠ 2) : (ap1 h n x).1 k = h.1 k := by
  unfold ap1
  rw [wI_ne _ _ _ h1, wI_ne _ _ _ h2]
theorem ap20_out (h : HP) (n : Nat) (a b c d e : Int32) (k : Nat) (h1 : k ≠ 1) (h2 : k ≠ 2) : (ap20 h n a b c d e).1 k = h.1 k := by
  simp only [ap20, ap4, ap1_out _ _ _ _ h1 h2]
theorem ap20_2' (h : HP) (n : Nat) (a b c d e : Int32) : (ap20 h n a b c d e).2 = h.2 := rfl
theorem ap20_len (h : HP) (n : Nat) (a b c d e : Int32) : (ap20 h n a b c d e).1 1 1 = nI (n + 20) := ap4_len _ _ _
theorem ap20_old (h : HP) (n : Nat) (a b c d e : Int32) {i : Nat} (hi : i < n) : (ap20 h n a b c d e).1 2 i = h.1 2 i := by
  simp only [ap20, ap4, ap1_2, upd]
  repeat rw [if_neg (by omega)]
theorem ap20_new (h : HP) (n : Nat) (a b c d e : Int32) : ∀ j, j < 20 → (ap20 h n a b c d e).1 2 (n + j) = mByte (sel5 (nI j) a b c d e) (nI j)
  | 0, _ => by
    rw [show sel5 (nI 0) a b c d e = a from rfl, ← byte_0 a (nI 0) (by decide)]
    simp [ap20, ap4, ap1_2, upd, Nat.add_assoc]
  | 1, _ => by
    rw [show sel5 (nI 1) a b c d e = a from rfl, ← byte_1 a (nI 1) (by decide)]
    simp [ap20, ap4, ap1_2, upd, Nat.add_assoc]
  | 2, _ => by
    rw [show sel5 (nI 2) a b c d e = a from rfl, ← byte_2 a (nI 2) (by decide)]
    simp [ap20, ap4, ap1_2, upd, Nat.add_assoc]
  | 3, _ => by
    rw [show sel5 (nI 3) a b c d e = a from rfl, ← byte_3 a (nI 3) (by decide)]
    simp [ap20, ap4, ap1_2, upd, Nat.add_assoc]
  | 4, _ => by
    rw [show sel5 (nI 4) a b c d e = b from rfl, ← byte_0 b (nI 4) (by decide)]
    simp [ap20, ap4, ap1_2, upd, Nat.add_assoc]
  | 5, _ => by
    rw [show sel5 (nI 5) a b c d e = b from rfl, ← byte_1 b (nI 5) (by decide)]
    simp [ap20, ap4, ap1_2, upd, Nat.add_assoc]
  | 6, _ => by
    rw [show sel5 (nI 6) a b c d e = b from rfl, ← byte_2 b (nI 6) (by decide)]
    simp [ap20, ap4, ap1_2, upd, Nat.add_assoc]
  | 7, _ => by
    rw [show sel5 (nI 7) a b c d e = b from rfl, ← byte_3 b (nI 7) (by decide)]
    simp [ap20, ap4, ap1_2, upd, Nat.add_assoc]
  | 8, _ => by
    rw [show sel5 (nI 8) a b c d e = c from rfl, ← byte_0 c (nI 8) (by decide)]
    simp [ap20, ap4, ap1_2, upd, Nat.add_assoc]
  | 9, _ => by
    rw [show sel5 (nI 9) a b c d e = c from rfl, ← byte_1 c (nI 9) (by decide)]
    simp [ap20, ap4, ap1_2, upd, Nat.add_assoc]
  | 10, _ => by
    rw [show sel5 (nI 10) a b c d e = c from rfl, ← byte_2 c (nI 10) (by decide)]
    simp [ap20, ap4, ap1_2, upd, Nat.add_assoc]
  | 11, _ => by
    rw [show sel5 (nI 11) a b c d e = c from rfl, ← byte_3 c (nI 11) (by decide)]
    simp [ap20, ap4, ap1_2, upd, Nat.add_assoc]
  | 12, _ => by
    rw [show sel5 (nI 12) a b c d e = d from rfl, ← byte_0 d (nI 12) (by decide)]
    simp [ap20, ap4, ap1_2, upd, Nat.add_assoc]
  | 13, _ => by
    rw [show sel5 (nI 13) a b c d e = d from rfl, ← byte_1 d (nI 13) (by decide)]
    simp [ap20, ap4, ap1_2, upd, Nat.add_assoc]
  | 14, _ => by
    rw [show sel5 (nI 14) a b c d e = d from rfl, ← byte_2 d (nI 14) (by decide)]
    simp [ap20, ap4, ap1_2, upd, Nat.add_assoc]
  | 15, _ => by
    rw [show sel5 (nI 15) a b c d e = d from rfl, ← byte_3 d (nI 15) (by decide)]
    simp [ap20, ap4, ap1_2, upd, Nat.add_assoc]
  | 16, _ => by
    rw [show sel5 (nI 16) a b c d e = e from rfl, ← byte_0 e (nI 16) (by decide)]
    simp [ap20, ap4, ap1_2, upd, Nat.add_assoc]
  | 17, _ => by
    rw [show sel5 (nI 17) a b c d e = e from rfl, ← byte_1 e (nI 17) (by decide)]
    simp [ap20, ap4, ap1_2, upd, Nat.add_assoc]
  | 18, _ => by
    rw [show sel5 (nI 18) a b c d e = e from rfl, ← byte_2 e (nI 18) (by decide)]
    simp [ap20, ap4, ap1_2, upd, Nat.add_assoc]
  | 19, _ => by
    rw [show sel5 (nI 19) a b c d e = e from rfl, ← byte_3 e (nI 19) (by decide)]
    simp [ap20, ap4, ap1_2, upd, Nat.add_assoc]
  | j + 20, h => absurd h (by omega)
theorem am1_66 (h : HP) (n : Nat) (x : Int32) : (am1 h n x).1 66 = upd (h.1 66) n x := by
  unfold am1
  rw [wI_ne _ _ _ (by decide), wI_1, if_pos rfl]
theorem am1_out (h : HP) (n : Nat) (x : Int32) (k : Nat) (h1 : k ≠ 65) (h2 : k ≠ 66) : (am1 h n x).1 k = h.1 k := by
  unfold am1
  rw [wI_ne _ _ _ h1, wI_ne _ _ _ h2]
theorem am1_65 (h : HP) (n : Nat) (x : Int32) (i : Nat) (hi : i ≠ 1) : (am1 h n x).1 65 i = h.1 65 i := by
  unfold am1
  rw [wI_ne2 _ _ hi, wI_ne _ _ _ (by decide)]
theorem am20_out (h : HP) (n : Nat) (a b c d e : Int32) (q : Nat) (h1 : q ≠ 65) (h2 : q ≠ 66) : ∀ k, (am20 h n a b c d e k).1 q = h.1 q
  | 0 => rfl
  | k + 1 => (am1_out _ _ _ _ h1 h2).trans (am20_out h n a b c d e q h1 h2 k)
theorem am20_65 (h : HP) (n : Nat) (a b c d e : Int32) (i : Nat) (hi : i ≠ 1) : ∀ k, (am20 h n a b c d e k).1 65 i = h.1 65 i
  | 0 => rfl
  | k + 1 => (am1_65 _ _ _ _ hi).trans (am20_65 h n a b c d e i hi k)
theorem am20_2 (h : HP) (n : Nat) (a b c d e : Int32) : ∀ k, (am20 h n a b c d e k).2 = h.2
  | 0 => rfl
  | k + 1 => am20_2 h n a b c d e k
theorem am20_old (h : HP) (n : Nat) (a b c d e : Int32) {i : Nat} (hi : i < n) : ∀ k, (am20 h n a b c d e k).1 66 i = h.1 66 i
  | 0 => rfl
  | k + 1 => by
    unfold am20
    rw [am1_66, upd, if_neg (by omega), am20_old h n a b c d e hi k]
theorem am20_new (h : HP) (n : Nat) (a b c d e : Int32) : ∀ k j, j < k → (am20 h n a b c d e k).1 66 (n + j) = mByte (sel5 (nI j) a b c d e) (nI j)
  | 0, j, hj => absurd hj (by omega)
  | k + 1, j, hj => by
    unfold am20
    rw [am1_66, upd]
    by_cases hk : j = k
    · subst hk
      rw [if_pos rfl]
    · rw [if_neg (by omega)]
      exact am20_new h n a b c d e k j (by omega)
