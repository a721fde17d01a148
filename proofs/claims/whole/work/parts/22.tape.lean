/-! ===== THE TAPE ===== -/
def byteAt (w s : Int32) : Int32 := (w.toUInt32 >>> (s.toUInt32 &&& Int32.toUInt32 31)).toInt32 &&& 255
def ap1 (h : HP) (n : Nat) (x : Int32) : HP := wI (wI h 2 n x) 1 1 (nI (n + 1))
theorem ap_step {d n : Nat} {w s : Int32} {h : HP} {Q : QT} (hs : ¬ s < 0) (hn : h.1 1 1 = nI n) (hl : n < 900)
    (K : (s + (-8) < 0 → Wp d j_Tape_append 49 [.ref 1, .int w, .int (s + (-8))] [] (ap1 h n (byteAt w s)) Q) ∧ (¬ s + (-8) < 0 → Wp d j_Tape_append 7 [.ref 1, .int w, .int (s + (-8))] [] (ap1 h n (byteAt w s)) Q)) :
    (s < 0 → Wp d j_Tape_append 49 [.ref 1, .int w, .int s] [] h Q) ∧ (¬ s < 0 → Wp d j_Tape_append 7 [.ref 1, .int w, .int s] [] h Q) := by
  refine ⟨fun hc => absurd hc hs, fun _ => ?_⟩
  repeat refine W1 rfl ?_
  refine ⟨fun hc => ?_, fun _ => ?_⟩
  · rw [hn] at hc
    exact absurd hc (nI_ge hl (by decide))
  · repeat refine W1 rfl ?_
    refine ⟨by rw [hn]; exact vp_in_nI hl (by decide), ?_⟩
    repeat refine W1 rfl ?_
    have e1 : (h.1 1 1).toNatClampNeg = n := by rw [hn]; exact nI_clamp (by omega)
    have e2 : h.1 1 1 + 1 = nI (n + 1) := by rw [hn, nI_1]
    unfold ap1 at K
    rw [← e2] at K
    rw [← e1] at K
    exact K
theorem ap1_len (h : HP) (n : Nat) (x : Int32) : (ap1 h n x).1 1 1 = nI (n + 1) := wI_same _ _ _ _
def ap4 (h : HP) (n : Nat) (w : Int32) : HP := ap1 (ap1 (ap1 (ap1 h n (byteAt w 24)) (n + 1) (byteAt w 16)) (n + 2) (byteAt w 8)) (n + 3) (byteAt w 0)
theorem r_Tape_append {n : Nat} {h : HP} (w : Int32) (hn : h.1 1 1 = nI n) (hl : n + 4 ≤ 900) : Run 0 j_Tape_append [.ref 1, .int w] h none (ap4 h n w) := by
  refine Run.of rfl ?_
  repeat refine W1 rfl ?_
  refine ap_step (by decide) hn (by omega) ?_
  refine ap_step (by decide) (ap1_len _ _ _) (by omega) ?_
  refine ap_step (by decide) (ap1_len _ _ _) (by omega) ?_
  refine ap_step (by decide) (ap1_len _ _ _) (by omega) ?_
  refine ⟨fun _ => ?_, fun hc => absurd (by decide) hc⟩
  repeat refine W1 rfl ?_
  exact ⟨rfl, rfl⟩
theorem ap4_len (h : HP) (n : Nat) (w : Int32) : (ap4 h n w).1 1 1 = nI (n + 4) := ap1_len _ _ _
def ap20 (h : HP) (n : Nat) (a b c d e : Int32) : HP := ap4 (ap4 (ap4 (ap4 (ap4 h n a) (n + 4) b) (n + 8) c) (n + 12) d) (n + 16) e
theorem r_E_feed_ok {n : Nat} {h : HP} (a b c d e : Int32) (hn : h.1 1 1 = nI n) (hl : n + 20 ≤ 900) : Run 1 j_E_feed [.ref 0, .int a, .int b, .int c, .int d, .int e] h (some (.int (nI (n + 20)))) (ap20 h n a b c d e) := by
  refine Run.of rfl ?_
  repeat refine W1 rfl ?_
  refine Cl.of (r_Tape_hasRoom h) (by decide) ?_
  have hr : h.1 1 1 + 20 ≤ 900 := by
    rw [hn, show (20 : Int32) = nI 20 from rfl, nI_add]
    exact nI_le hl (by decide)
  rw [if_pos hr]
  repeat refine W1 rfl ?_
  refine ⟨fun _ => ?_, fun z => absurd z (by decide)⟩
  repeat refine W1 rfl ?_
  refine Cl.of (r_Tape_append a hn (by omega)) (by decide) ?_
  repeat refine W1 rfl ?_
  refine Cl.of (r_Tape_append b (ap4_len _ _ _) (by omega)) (by decide) ?_
  repeat refine W1 rfl ?_
  refine Cl.of (r_Tape_append c (ap4_len _ _ _) (by omega)) (by decide) ?_
  repeat refine W1 rfl ?_
  refine Cl.of (r_Tape_append d (ap4_len _ _ _) (by omega)) (by decide) ?_
  repeat refine W1 rfl ?_
  refine Cl.of (r_Tape_append e (ap4_len _ _ _) (by omega)) (by decide) ?_
  repeat refine W1 rfl ?_
  exact ⟨by rw [ap4_len], rfl⟩
theorem r_E_feed_no {n : Nat} {h : HP} (a b c d e : Int32) (hn : h.1 1 1 = nI n) (hn9 : n ≤ 900) (hl : ¬ n + 20 ≤ 900) : Run 1 j_E_feed [.ref 0, .int a, .int b, .int c, .int d, .int e] h (some (.int (-1))) h := by
  refine Run.of rfl ?_
  repeat refine W1 rfl ?_
  refine Cl.of (r_Tape_hasRoom h) (by decide) ?_
  have hr : ¬ h.1 1 1 + 20 ≤ 900 := by
    rw [hn, show (20 : Int32) = nI 20 from rfl, nI_add]
    exact (show ¬ nI (n + 20) ≤ nI 900 from nI_ge (by omega) (by omega))
  rw [if_neg hr]
  repeat refine W1 rfl ?_
  refine ⟨fun z => absurd rfl z, fun _ => ?_⟩
  repeat refine W1 rfl ?_
  exact ⟨rfl, rfl⟩
theorem r_E_end (h : HP) (n : Int32) : Run 0 j_E_end [.ref 0, .int n] h (some (.int (if n < 0 ∨ h.1 1 1 < n then 0 else 1))) (if n < 0 ∨ h.1 1 1 < n then h else wI h 1 1 n) := by
  refine Run.of rfl ?_
  repeat refine W1 rfl ?_
  refine ⟨fun hc => ?_, fun hc => ?_⟩
  · rw [if_pos (Or.inl hc), if_pos (Or.inl hc)]
    repeat refine W1 rfl ?_
    exact ⟨Or.inl rfl, rfl, rfl⟩
  · repeat refine W1 rfl ?_
    refine ⟨fun hc2 => ?_, fun hc2 => ?_⟩
    · have hn : ¬ (n < 0 ∨ h.1 1 1 < n) := by
        simp only [Int32.le_iff_toInt_le, Int32.lt_iff_toInt_lt] at *
        omega
      rw [if_neg hn, if_neg hn]
      repeat refine W1 rfl ?_
      exact ⟨Or.inr rfl, rfl, rfl⟩
    · have hn : n < 0 ∨ h.1 1 1 < n := by
        simp only [Int32.le_iff_toInt_le, Int32.lt_iff_toInt_lt] at *
        omega
      rw [if_pos hn, if_pos hn]
      repeat refine W1 rfl ?_
      exact ⟨Or.inl rfl, rfl, rfl⟩
/-! the model's -/
def mByte (w k : Int32) : Int32 := (w >>> (((8 * (3 - (k - k / 4 * 4)))) &&& 31)) &&& 255
def sel5 (k a b c d e : Int32) : Int32 := if 4 ≤ k then (if 8 ≤ k then (if 12 ≤ k then (if 16 ≤ k then e else d) else c) else b) else a
def am1 (h : HP) (n : Nat) (x : Int32) : HP := wI (wI h 66 n x) 65 1 (nI (n + 1))
theorem am1_len (h : HP) (n : Nat) (x : Int32) : (am1 h n x).1 65 1 = nI (n + 1) := wI_same _ _ _ _
theorem fm_tail {dd n : Nat} {k a b c d e w : Int32} {h : HP} {Q : QT} (hn : h.1 65 1 = nI n) (hl : n < 900)
    (K : (20 ≤ k + 1 → Wp dd j_M_feed 114 [.ref 65, .int a, .int b, .int c, .int d, .int e, .int (k + 1), .int w] [] (am1 h n (mByte w k)) Q) ∧ (¬ 20 ≤ k + 1 → Wp dd j_M_feed 25 [.ref 65, .int a, .int b, .int c, .int d, .int e, .int (k + 1), .int w] [] (am1 h n (mByte w k)) Q)) :
    Wp dd j_M_feed 73 [.ref 65, .int a, .int b, .int c, .int d, .int e, .int k, .int w] [] h Q := by
  repeat refine W1 rfl ?_
  refine ⟨by decide, ?_⟩
  repeat refine W1 rfl ?_
  refine ⟨by rw [hn]; exact vp_in_nI hl (by decide), ?_⟩
  repeat refine W1 rfl ?_
  have e1 : (h.1 65 1).toNatClampNeg = n := by rw [hn]; exact nI_clamp (by omega)
  have e2 : h.1 65 1 + 1 = nI (n + 1) := by rw [hn, nI_1]
  unfold am1 at K
  rw [← e2] at K
  rw [← e1] at K
  exact K
theorem fm_step {dd n : Nat} {k a b c d e : Int32} {v7 : Value} {h : HP} {Q : QT} (hk : ¬ 20 ≤ k) (hn : h.1 65 1 = nI n) (hl : n < 900)
    (K : (20 ≤ k + 1 → Wp dd j_M_feed 114 [.ref 65, .int a, .int b, .int c, .int d, .int e, .int (k + 1), .int (sel5 k a b c d e)] [] (am1 h n (mByte (sel5 k a b c d e) k)) Q) ∧ (¬ 20 ≤ k + 1 → Wp dd j_M_feed 25 [.ref 65, .int a, .int b, .int c, .int d, .int e, .int (k + 1), .int (sel5 k a b c d e)] [] (am1 h n (mByte (sel5 k a b c d e) k)) Q)) :
    (20 ≤ k → Wp dd j_M_feed 114 [.ref 65, .int a, .int b, .int c, .int d, .int e, .int k, v7] [] h Q) ∧ (¬ 20 ≤ k → Wp dd j_M_feed 25 [.ref 65, .int a, .int b, .int c, .int d, .int e, .int k, v7] [] h Q) := by
  refine ⟨fun hc => absurd hc hk, fun _ => ?_⟩
  repeat refine W1 rfl ?_
  refine ⟨fun h4 => ?_, fun h4 => ?_⟩
  · repeat refine W1 rfl ?_
    refine ⟨fun h8 => ?_, fun h8 => ?_⟩
    · repeat refine W1 rfl ?_
      refine ⟨fun h12 => ?_, fun h12 => ?_⟩
      · repeat refine W1 rfl ?_
        refine ⟨fun h16 => ?_, fun h16 => ?_⟩
        · rw [show sel5 k a b c d e = e by simp [sel5, h4, h8, h12, h16]] at K
          iterate 2 refine W1 rfl ?_
          exact fm_tail hn hl K
        · rw [show sel5 k a b c d e = d by simp [sel5, h4, h8, h12, h16]] at K
          iterate 3 refine W1 rfl ?_
          exact fm_tail hn hl K
      · rw [show sel5 k a b c d e = c by simp [sel5, h4, h8, h12]] at K
        iterate 3 refine W1 rfl ?_
        exact fm_tail hn hl K
    · rw [show sel5 k a b c d e = b by simp [sel5, h4, h8]] at K
      iterate 3 refine W1 rfl ?_
      exact fm_tail hn hl K
  · rw [show sel5 k a b c d e = a by simp [sel5, h4]] at K
    iterate 3 refine W1 rfl ?_
    exact fm_tail hn hl K
def am20 (h : HP) (n : Nat) (a b c d e : Int32) : Nat → HP
  | 0 => h
  | k + 1 => am1 (am20 h n a b c d e k) (n + k) (mByte (sel5 (nI k) a b c d e) (nI k))
theorem am20_len (h : HP) (n : Nat) (a b c d e : Int32) (hn : h.1 65 1 = nI n) : ∀ k, (am20 h n a b c d e k).1 65 1 = nI (n + k)
  | 0 => hn
  | k + 1 => am1_len _ _ _
theorem fm_loop {dd n : Nat} {a b c d e : Int32} {h : HP} {Q : QT} (hn : h.1 65 1 = nI n) (hl : n + 20 ≤ 900) (hQ : ∀ v7 : Value, Wp dd j_M_feed 114 [.ref 65, .int a, .int b, .int c, .int d, .int e, .int 20, v7] [] (am20 h n a b c d e 20) Q) :
    ∀ (j k : Nat) (v7 : Value), k + j = 20 → (20 ≤ nI k → Wp dd j_M_feed 114 [.ref 65, .int a, .int b, .int c, .int d, .int e, .int (nI k), v7] [] (am20 h n a b c d e k) Q) ∧ (¬ 20 ≤ nI k → Wp dd j_M_feed 25 [.ref 65, .int a, .int b, .int c, .int d, .int e, .int (nI k), v7] [] (am20 h n a b c d e k) Q)
  | 0, k, v7, hk => by
    obtain rfl : k = 20 := by omega
    exact ⟨fun _ => hQ v7, fun z => absurd (by decide) z⟩
  | j + 1, k, v7, hk => by
    have ih := fm_loop hn hl hQ j (k + 1) (.int (sel5 (nI k) a b c d e)) (by omega)
    rw [nI_succ] at ih
    exact fm_step (nI_ge (a := k) (b := 20) (by omega) (by decide)) (am20_len h n a b c d e hn k) (by omega) ih
theorem r_M_feed_ok {n : Nat} {h : HP} (a b c d e : Int32) (hn : h.1 65 1 = nI n) (hl : n + 20 ≤ 900) : Run 0 j_M_feed [.ref 65, .int a, .int b, .int c, .int d, .int e] h (some (.int (nI (n + 20)))) (am20 h n a b c d e 20) := by
  refine Run.of rfl ?_
  repeat refine W1 rfl ?_
  have hr : h.1 65 1 + 20 ≤ 900 := by
    rw [hn, show (20 : Int32) = nI 20 from rfl, nI_add]
    exact nI_le hl (by decide)
  refine ⟨fun _ => ?_, fun z => absurd hr z⟩
  repeat refine W1 rfl ?_
  refine fm_loop hn hl (fun v7 => ?_) 20 0 .null rfl
  repeat refine W1 rfl ?_
  exact ⟨by rw [am20_len h n a b c d e hn 20], rfl⟩
theorem r_M_feed_no {n : Nat} {h : HP} (a b c d e : Int32) (hn : h.1 65 1 = nI n) (hn9 : n ≤ 900) (hl : ¬ n + 20 ≤ 900) : Run 0 j_M_feed [.ref 65, .int a, .int b, .int c, .int d, .int e] h (some (.int (-1))) h := by
  refine Run.of rfl ?_
  repeat refine W1 rfl ?_
  have hr : ¬ h.1 65 1 + 20 ≤ 900 := by
    rw [hn, show (20 : Int32) = nI 20 from rfl, nI_add]
    exact (show ¬ nI (n + 20) ≤ nI 900 from nI_ge (by omega) (by omega))
  refine ⟨fun z => absurd z hr, fun _ => ?_⟩
  repeat refine W1 rfl ?_
  exact ⟨rfl, rfl⟩
theorem r_M_end (h : HP) (n : Int32) : Run 0 j_M_end [.ref 65, .int n] h (some (.int (if n < 0 ∨ h.1 65 1 < n then 0 else 1))) (if n < 0 ∨ h.1 65 1 < n then h else wI h 65 1 n) := by
  refine Run.of rfl ?_
  repeat refine W1 rfl ?_
  refine ⟨fun hc => ?_, fun hc => ?_⟩
  · rw [if_pos (Or.inl hc), if_pos (Or.inl hc)]
    repeat refine W1 rfl ?_
    exact ⟨Or.inl rfl, rfl, rfl⟩
  · repeat refine W1 rfl ?_
    refine ⟨fun hc2 => ?_, fun hc2 => ?_⟩
    · have hn : ¬ (n < 0 ∨ h.1 65 1 < n) := by
        simp only [Int32.le_iff_toInt_le, Int32.lt_iff_toInt_lt] at *
        omega
      rw [if_neg hn, if_neg hn]
      repeat refine W1 rfl ?_
      exact ⟨Or.inr rfl, rfl, rfl⟩
    · have hn : n < 0 ∨ h.1 65 1 < n := by
        simp only [Int32.le_iff_toInt_le, Int32.lt_iff_toInt_lt] at *
        omega
      rw [if_pos hn, if_pos hn]
      repeat refine W1 rfl ?_
      exact ⟨Or.inl rfl, rfl, rfl⟩
