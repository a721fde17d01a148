/-! ===== THE TURNS OF A HOUSE ===== -/
def presB (s : ST) (d p : Nat) : Bool := decide (s 24 p ≤ d ∧ d ≤ s 25 p)
def nevN (s : ST) (C : List Nat) (d k p : Nat) : Nat := sm (fun r => if oS s r = 2 ∧ oA s r = p ∧ oB s r = k ∧ hdB s C r d = true then 1 else 0) (zO s)
def mB (s : ST) (C : List Nat) (d k p : Nat) : Bool := presB s d p && decide (nevN s C d k p = 0)
def mkN (s : ST) (C : List Nat) (d k : Nat) : Nat := sm (fun p => if mB s C d k p = true then 2 ^ p else 0) (zP s)
def cNt (s : ST) (C : List Nat) (d k : Nat) : Nat := sm (fun r => if oS s r = 1 ∧ oA s r = k ∧ hdB s C r d = true then 1 else 0) (zO s)
def uN (s : ST) (C : List Nat) (d k : Nat) : Nat := 720720 / mS s (mkN s C d k) (zP s)
theorem smp_lt (B : Nat → Bool) : ∀ n, sm (fun p => if B p = true then 2 ^ p else 0) n < 2 ^ n
  | 0 => by show 0 < 1; decide
  | n + 1 => by
    have ih := smp_lt B n
    show sm (fun p => if B p = true then 2 ^ p else 0) n + (if B n = true then 2 ^ n else 0) < 2 ^ (n + 1)
    rw [Nat.pow_succ]
    split <;> omega
theorem smp_bit (B : Nat → Bool) : ∀ n q, (sm (fun p => if B p = true then 2 ^ p else 0) n).testBit q = (decide (q < n) && B q)
  | 0, q => by
    show (0 : Nat).testBit q = _
    rw [Nat.zero_testBit, decide_eq_false (Nat.not_lt_zero q)]
    rfl
  | n + 1, q => by
    have ih := smp_bit B n q
    have hlt := smp_lt B n
    show (sm (fun p => if B p = true then 2 ^ p else 0) n + (if B n = true then 2 ^ n else 0)).testBit q = _
    cases hB : B n with
    | false =>
      rw [if_neg (by decide), Nat.add_zero, ih]
      by_cases e : q = n
      · subst e; simp [hB]
      · by_cases c : q < n
        · simp [c, show q < n + 1 by omega]
        · simp [c, show ¬ q < n + 1 by omega]
    | true =>
      rw [if_pos rfl]
      have h1 := Nat.two_pow_add_eq_or_of_lt hlt 1
      rw [Nat.mul_one, Nat.add_comm] at h1
      rw [h1, Nat.testBit_or, Nat.testBit_two_pow, ih]
      by_cases e : q = n
      · subst e; simp [hB]
      · by_cases c : q < n
        · simp [c, show q < n + 1 by omega, Ne.symm e]
        · simp [c, show ¬ q < n + 1 by omega, Ne.symm e]
theorem sm_one {f : Nat → Nat} {a v : Nat} : ∀ {n : Nat}, a < n → (∀ i, i < n → f i = if i = a then v else 0) → sm f n = v
  | 0, h, _ => absurd h (Nat.not_lt_zero _)
  | n + 1, h, hf => by
    show sm f n + f n = v
    rw [hf n (by omega)]
    by_cases e : n = a
    · rw [if_pos e, sm_congr (g := fun _ => 0) (fun i hi => by rw [hf i (by omega), if_neg (by omega)]), sm_zero]
      omega
    · rw [if_neg e, sm_one (show a < n by omega) (fun i hi => hf i (by omega)), Nat.add_zero]
/-- day by day, kind by kind -/
def LK (s : ST) (C : List Nat) (d : Nat) : Nat → List (Nat × Nat)
  | 0 => []
  | m + 1 => LK s C d m ++ List.replicate (cNt s C d m) (d, m)
def LD (s : ST) (C : List Nat) : Nat → List (Nat × Nat)
  | 0 => []
  | m + 1 => LD s C m ++ LK s C m (zK s)
section TRN
variable {s : ST} {C : List Nat}
theorem LK_len (d : Nat) : ∀ m, (LK s C d m).length = sm (cNt s C d) m
  | 0 => rfl
  | m + 1 => by
    show (LK s C d m ++ List.replicate (cNt s C d m) (d, m)).length = sm (cNt s C d) m + cNt s C d m
    rw [List.length_append, List.length_replicate, LK_len d m]
theorem cN_sum (j : J s C) (d : Nat) : sm (cNt s C d) (zK s) = rC s C d (zO s) := by
  unfold cNt rC
  rw [sm_comm (fun k r => if oS s r = 1 ∧ oA s r = k ∧ hdB s C r d = true then 1 else 0)]
  refine sm_congr (fun r hr => ?_)
  by_cases c : oS s r = 1
  · have hk := (j.2.2.2.1 r hr (Or.inl c)).2.2.2.2.1 c
    refine sm_one (a := oA s r) hk (fun k _ => ?_)
    by_cases e : k = oA s r
    · rw [if_pos e]; simp only [c, e, true_and]
    · rw [if_neg e, if_neg (fun z => e z.2.1.symm)]
  · rw [if_neg (fun z => c z.1), sm_congr (g := fun _ => 0) (fun k _ => by rw [if_neg (fun z => c z.1)]), sm_zero]
theorem LD_len (j : J s C) : ∀ m, (LD s C m).length = sm (fun d => rC s C d (zO s)) m
  | 0 => rfl
  | m + 1 => by
    show (LD s C m ++ LK s C m (zK s)).length = sm (fun d => rC s C d (zO s)) m + rC s C m (zO s)
    rw [List.length_append, LD_len j m, LK_len, cN_sum j]
theorem LK_mem (d : Nat) : ∀ m x, x ∈ LK s C d m → x.1 = d ∧ x.2 < m
  | 0, x, h => by simp [LK] at h
  | m + 1, x, h => by
    rcases List.mem_append.mp h with z | z
    · have := LK_mem d m x z
      exact ⟨this.1, by omega⟩
    · have := List.eq_of_mem_replicate z
      rw [this]
      exact ⟨rfl, Nat.lt_succ_self m⟩
theorem LD_mem : ∀ m x, x ∈ LD s C m → x.1 < m ∧ x.2 < zK s
  | 0, x, h => by simp [LD] at h
  | m + 1, x, h => by
    rcases List.mem_append.mp h with z | z
    · have := LD_mem m x z
      exact ⟨by omega, this.2⟩
    · have := LK_mem m _ x z
      exact ⟨by omega, this.2⟩
def gL (L : List (Nat × Nat)) (t : Nat) : Nat × Nat := L.getD t (0, 0)
theorem gL_l {L M : List (Nat × Nat)} {t : Nat} (h : t < L.length) : gL (L ++ M) t = gL L t := by
  unfold gL
  rw [List.getD_eq_getElem?_getD, List.getD_eq_getElem?_getD, List.getElem?_append_left h]
theorem gL_r {L M : List (Nat × Nat)} {t : Nat} (h : L.length ≤ t) : gL (L ++ M) t = gL M (t - L.length) := by
  unfold gL
  rw [List.getD_eq_getElem?_getD, List.getD_eq_getElem?_getD, List.getElem?_append_right h]
theorem gL_m {L : List (Nat × Nat)} {t : Nat} (h : t < L.length) : gL L t ∈ L := by
  unfold gL
  rw [List.getD_eq_getElem?_getD, List.getElem?_eq_getElem h]
  exact List.getElem_mem h
theorem LD_up : ∀ m t u, t ≤ u → u < (LD s C m).length → (gL (LD s C m) t).1 ≤ (gL (LD s C m) u).1
  | 0, t, u, _, h => absurd h (Nat.not_lt_zero _)
  | m + 1, t, u, h1, h2 => by
    have h2 : u < (LD s C m ++ LK s C m (zK s)).length := h2
    rw [List.length_append] at h2
    show (gL (LD s C m ++ LK s C m (zK s)) t).1 ≤ (gL (LD s C m ++ LK s C m (zK s)) u).1
    by_cases c1 : u < (LD s C m).length
    · rw [gL_l (show t < _ by omega), gL_l c1]; exact LD_up m t u h1 c1
    · rw [gL_r (t := u) (by omega)]
      have hu := LK_mem m _ _ (gL_m (L := LK s C m (zK s)) (t := u - (LD s C m).length) (by omega))
      by_cases c2 : t < (LD s C m).length
      · rw [gL_l c2]
        have := LD_mem m _ (gL_m c2)
        omega
      · rw [gL_r (by omega)]
        have ht := LK_mem m _ _ (gL_m (L := LK s C m (zK s)) (t := t - (LD s C m).length) (by omega))
        omega
/-- how many before a day -/
theorem cnt_app (L M : List (Nat × Nat)) (P : Nat × Nat → Prop) [DecidablePred P] : cnt (fun u => P (gL (L ++ M) u)) (L ++ M).length = cnt (fun u => P (gL L u)) L.length + cnt (fun u => P (gL M u)) M.length := by
  have key : ∀ k, k ≤ M.length → cnt (fun u => P (gL (L ++ M) u)) (L.length + k) = cnt (fun u => P (gL L u)) L.length + cnt (fun u => P (gL M u)) k := by
    intro k
    induction k with
    | zero => intro _; exact cnt_congr (fun i hi => by rw [gL_l hi])
    | succ k ih =>
      intro hk
      show cnt (fun u => P (gL (L ++ M) u)) (L.length + k) + (if P (gL (L ++ M) (L.length + k)) then 1 else 0) = _ + (cnt (fun u => P (gL M u)) k + (if P (gL M k) then 1 else 0))
      rw [ih (by omega), gL_r (by omega), Nat.add_sub_cancel_left, Nat.add_assoc]
  rw [List.length_append]
  exact key _ (Nat.le_refl _)
theorem cnt_all {P : Nat → Prop} [DecidablePred P] : ∀ {n : Nat}, (∀ i, i < n → P i) → cnt P n = n
  | 0, _ => rfl
  | n + 1, h => by
    show cnt P n + (if P n then 1 else 0) = n + 1
    rw [cnt_all (fun i hi => h i (by omega)), if_pos (h n (by omega))]
theorem cnt_none {P : Nat → Prop} [DecidablePred P] : ∀ {n : Nat}, (∀ i, i < n → ¬ P i) → cnt P n = 0
  | 0, _ => rfl
  | n + 1, h => by
    show cnt P n + (if P n then 1 else 0) = 0
    rw [cnt_none (fun i hi => h i (by omega)), if_neg (h n (by omega))]
theorem LD_days : ∀ m d, cnt (fun u => (gL (LD s C m) u).1 < d) (LD s C m).length = (LD s C (min d m)).length
  | 0, d => by rw [Nat.min_eq_right (Nat.zero_le _)]; rfl
  | m + 1, d => by
    have e := cnt_app (LD s C m) (LK s C m (zK s)) (fun x => x.1 < d)
    show cnt (fun u => (gL (LD s C m ++ LK s C m (zK s)) u).1 < d) (LD s C m ++ LK s C m (zK s)).length = _
    rw [e, LD_days m d]
    by_cases c : m < d
    · rw [cnt_all (fun i hi => by have := LK_mem m _ _ (gL_m hi); omega), Nat.min_eq_right (by omega), Nat.min_eq_right (by omega)]
      show _ = (LD s C m ++ LK s C m (zK s)).length
      rw [List.length_append]
    · rw [cnt_none (fun i hi => by have := LK_mem m _ _ (gL_m hi); omega), Nat.add_zero, Nat.min_eq_left (by omega), Nat.min_eq_left (by omega)]
theorem LD_mono : ∀ {m m' : Nat}, m ≤ m' → (LD s C m).length ≤ (LD s C m').length := by
  intro m m' h
  obtain ⟨k, rfl⟩ : ∃ k, m' = m + k := ⟨m' - m, by omega⟩
  induction k with
  | zero => exact Nat.le_refl _
  | succ k ih =>
    have := ih (by omega)
    show _ ≤ (LD s C (m + k) ++ LK s C (m + k) (zK s)).length
    rw [List.length_append]
    omega
theorem LK_mono (d : Nat) : ∀ {m m' : Nat}, m ≤ m' → (LK s C d m).length ≤ (LK s C d m').length := by
  intro m m' h
  rw [LK_len, LK_len]
  exact sm_mono _ h
end TRN
