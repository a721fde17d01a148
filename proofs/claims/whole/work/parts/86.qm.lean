/-! ===== THE READING AS A MACHINE OVER WORDS, NUMBERS AND SIGNS ===== -/
abbrev PS : Type := Nat × Nat × List Nat × Nat × List Nat × ST
def fctC (c : Nat) : Nat := if c = 42 then 3 else if c = 47 then 4 else if c = 37 then 5 else 0
def trmC (c : Nat) : Nat := if c = 43 then 1 else if c = 45 then 2 else 0
def cmpC (c : Nat) : Nat := if c = 60 then 11 else if c = 62 then 12 else if c = 61 then 13 else 0
abbrev isPr (x : Nat) : Prop := x = 3 ∨ x = 4 ∨ x = 5
abbrev isTr (x : Nat) : Prop := x = 1 ∨ x = 2
def flt (f q : Nat) : PS := (9, f, [], q, [], fun _ _ => 0)
abbrev FO : Type := Option (Nat × Nat)
def ch (o c : FO) : FO := match o with | none => c | some x => some x
def fin (o : FO) (x : PS) : PS := match o with | none => x | some (f, q) => flt f q
def sU (s : ST) (a i x : Nat) : ST := fun a' i' => if a' = a ∧ i' = i then x else s a' i'
section QM
variable (b : Nat → Nat) (n : Nat)
def sgV (i : Nat) : Nat := if tS b n i = 6 then tV b n i else 0
def owV (i : Nat) : Nat := if tS b n i = 3 then tV b n i else 99
def ckN (i lo hi : Nat) : FO := if tS b n i = 4 then (if lo ≤ tV b n i ∧ tV b n i ≤ hi then none else some (2, ps b n i)) else some (1, ps b n i + if tS b n i = 5 then 4 else 0)
def ckO (i w : Nat) : FO := if owV b n i = w then none else some (1, ps b n i)
def ckS (i c : Nat) : FO := if sgV b n i = c then none else some (1, ps b n i)
def ckM (i : Nat) : FO := if tS b n i = 1 then none else some (1, ps b n i + if tS b n i = 2 then 6 else 0)
def ckC (there most i : Nat) : FO := if there < most then none else some (5, ps b n i)
def kfi (s : ST) (i : Nat) : Nat := fI (fun k => decide (kC s k = tV b n i)) (zK s)
def ckW (s : ST) (i : Nat) : FO := ch (ckM b n i) (if pfi s b n i < zP s ∨ kfi b n s i < zK s then some (3, ps b n i) else none)
def ckP (s : ST) (i but : Nat) : FO := ch (ckM b n i) (if pfi s b n i < zP s ∧ pfi s b n i ≠ but then none else some (3, ps b n i))
def ckK (s : ST) (i : Nat) : FO := ch (ckM b n i) (if kfi b n s i < zK s then none else some (3, ps b n i))
def wrd (i : Nat) : List Nat := wd b (ps b n i) (tl b n (ps b n i))
def qB (i : Nat) (W : List Nat) (d : Nat) (C : List Nat) (s : ST) : PS :=
  if sgV b n i = 40 then (if 6 ≤ d then flt 4 (ps b n i) else (0, i + 1, 20 :: W, d + 1, C, s))
  else if tS b n i = 4 then (1, i + 1, W, d, C ++ [1000 + tV b n i], s)
  else if 17 ≤ owV b n i ∧ owV b n i ≤ 19 then (1, i + 1, W, d, C ++ [owV b n i - 11], s)
  else flt 1 (ps b n i + if tS b n i = 5 then 4 else 0)
def qA (i : Nat) (W : List Nat) (d : Nat) (C : List Nat) (s : ST) : PS := match W with
  | [] => flt 0 0
  | x :: W' =>
    if isPr x then (1, i, W', d, C ++ [x], s)
    else if fctC (sgV b n i) ≠ 0 then (0, i + 1, fctC (sgV b n i) :: x :: W', d, C, s)
    else if isTr x then (1, i, W', d, C ++ [x], s)
    else if trmC (sgV b n i) ≠ 0 then (0, i + 1, trmC (sgV b n i) :: x :: W', d, C, s)
    else if x = 20 then (if sgV b n i = 41 then (1, i + 1, W', d - 1, C, s) else flt 1 (ps b n i))
    else if x = 30 then (if cmpC (sgV b n i) ≠ 0 then (0, i + 1, cmpC (sgV b n i) :: W', d, C, s) else flt 1 (ps b n i))
    else (4, i, W', d, C ++ [x], s)
def qT (i : Nat) (W : List Nat) (d : Nat) (C : List Nat) (s : ST) : PS :=
  if sgV b n i = 91 then (if 6 ≤ d then flt 4 (ps b n i) else (3, i + 1, 25 :: W, d + 1, C, s))
  else if owV b n i = 15 then (if 6 ≤ d then flt 4 (ps b n i) else (3, i + 1, 16 :: W, d + 1, C, s))
  else if owV b n i = 16 then (4, i + 1, W, d, C ++ [17], s)
  else (0, i, 30 :: W, d, C, s)
def qF (i : Nat) (W : List Nat) (d : Nat) (C : List Nat) (s : ST) : PS := match W with
  | [] => if owV b n i = 14 then (3, i + 1, [14], d, C, s) else if owV b n i = 13 then (3, i + 1, [15], d, C, s) else (6, i, [], d, C, s)
  | x :: W' =>
    if x = 16 then (4, i, W', d - 1, C ++ [16], s)
    else if x = 14 then (4, i, W', d, C ++ [14], s)
    else if owV b n i = 14 then (3, i + 1, 14 :: x :: W', d, C, s)
    else if x = 15 then (4, i, W', d, C ++ [15], s)
    else if owV b n i = 13 then (3, i + 1, 15 :: x :: W', d, C, s)
    else if sgV b n i = 93 then (4, i + 1, W', d - 1, C, s) else flt 1 (ps b n i)
/-- the house with one more -/
def adP (s : ST) (i : Nat) : ST := sU (sU (sU (sU (sU (sU (sU s 21 (zP s) (tV b n (i + 1))) 20 (zP s) (e27 (wrd b n (i + 1)) 0)) 5 (zP s) (tV b n (i + 3))) 24 (zP s) (tV b n (i + 5))) 25 (zP s) (tV b n (i + 7))) 0 5 (zQ s + tV b n (i + 3))) 0 1 (zP s + 1)
def adK (s : ST) (i : Nat) : ST := sU (sU (sU (sU s 23 (zK s) (tV b n (i + 1))) 22 (zK s) (e27 (wrd b n (i + 1)) 0)) 8 (zK s) (tV b n (i + 3))) 0 2 (zK s + 1)
def adO (s : ST) (what x y z : Nat) : ST := sU (sU (sU (sU s 12 (zO s) what) 13 (zO s) x) 14 (zO s) y) 15 (zO s) z
def adR (s : ST) (x y z : Nat) : ST := sU (sU (sU (adO s 3 x y z) 9 (x * 6 + y) (max (kR s (x * 6 + y)) z)) 0 6 (max (zL s) z)) 0 4 (zO s + 1)
def jnM (s : ST) (a x y : Nat) : ST := sU (sU s a x (s a x ||| 2 ^ y)) a y ((sU s a x (s a x ||| 2 ^ y)) a y ||| 2 ^ x)
def adJ (s : ST) (w x y : Nat) : ST := sU (jnM (adO s w x y 0) (w + 6) x y) 0 4 (zO s + 1)
def clo (s : ST) (k : Nat) : ST := sU (sU (sU (sU (sU (sU (sU s 27 (zO s) k) 28 (s 0 7) (if oS s (zO s) = 1 then 99 else oA s (zO s))) 29 (s 0 7) (if oS s (zO s) = 1 then oA s (zO s) else oB s (zO s))) 30 (s 0 7) k) 31 (s 0 7) (zO s)) 0 7 (s 0 7 + 1)) 0 4 (zO s + 1)
def foP (s : ST) (i : Nat) : FO := ch (ch (ch (ch (ch (ch (ch (ch (ckC b n (zP s) 16 i) (ckW b n s (i + 1))) (ckO b n (i + 2) 2)) (ckN b n (i + 3) 1 (min 9 (16 - zQ s)))) (ckO b n (i + 4) 3)) (ckN b n (i + 5) 0 199)) (ckO b n (i + 6) 4)) (ckN b n (i + 7) (tV b n (i + 5)) 199)) (ckS b n (i + 8) 59)
def foK (s : ST) (i : Nat) : FO := ch (ch (ch (ch (ckC b n (zK s) 6 i) (ckW b n s (i + 1))) (ckO b n (i + 2) 6)) (ckN b n (i + 3) 0 9)) (ckS b n (i + 4) 59)
def foT (s : ST) (i : Nat) : FO := ch (ch (ckC b n (zO s) 60 i) (ckK b n s (i + 1))) (ckO b n (i + 2) 8)
def foV (s : ST) (i : Nat) : FO := ch (ch (ch (ckC b n (zO s) 60 i) (ckP b n s (i + 1) 99)) (ckK b n s (i + 2))) (ckO b n (i + 3) 8)
def foR (s : ST) (i : Nat) : FO := ch (ch (ch (ch (ckC b n (zO s) 60 i) (ckK b n s (i + 1))) (ckK b n s (i + 2))) (ckN b n (i + 3) 1 30)) (ckS b n (i + 4) 59)
def foJ (s : ST) (i : Nat) : FO := ch (ch (ch (ckC b n (zO s) 60 i) (ckP b n s (i + 1) 99)) (ckP b n s (i + 2) (pfi s b n (i + 1)))) (ckS b n (i + 3) 59)
def qS (i : Nat) (C : List Nat) (s : ST) : PS :=
  if tS b n i = 0 then (8, i, [], 0, C, s)
  else if owV b n i = 0 then fin (ch (ckN b n (i + 1) 1 200) (ckS b n (i + 2) 59)) (7, i + 3, [], 0, C, sU s 0 3 (tV b n (i + 1)))
  else if owV b n i = 1 then fin (foP b n s i) (7, i + 9, [], 0, C, adP b n s i)
  else if owV b n i = 5 then fin (foK b n s i) (7, i + 5, [], 0, C, adK b n s i)
  else if owV b n i = 7 then fin (foT b n s i) (3, i + 3, [], 0, C, sU (adO s 1 (kfi b n s (i + 1)) 0 0) 26 (zO s) C.length)
  else if owV b n i = 9 then fin (foV b n s i) (3, i + 4, [], 0, C, sU (adO s 2 (pfi s b n (i + 1)) (kfi b n s (i + 2)) 0) 26 (zO s) C.length)
  else if owV b n i = 10 then fin (foR b n s i) (7, i + 5, [], 0, C, adR s (kfi b n s (i + 1)) (kfi b n s (i + 2)) (tV b n (i + 3)))
  else if owV b n i = 11 then fin (foJ b n s i) (7, i + 4, [], 0, C, adJ s 4 (pfi s b n (i + 1)) (pfi s b n (i + 2)))
  else if owV b n i = 12 then fin (foJ b n s i) (7, i + 4, [], 0, C, adJ s 5 (pfi s b n (i + 1)) (pfi s b n (i + 2)))
  else flt 1 (ps b n i)
def qst (x : PS) : PS := match x with
  | (m, i, W, d, C, s) => if m = 0 then qB b n i W d C s else if m = 1 then qA b n i W d C s else if m = 3 then qT b n i W d C s else if m = 4 then qF b n i W d C s else if m = 6 then fin (ckS b n i 59) (7, i + 1, [], 0, C, clo s C.length) else if m = 7 then qS b n i C s else (m, i, W, d, C, s)
def qit : Nat → PS → PS
  | 0, x => x
  | k + 1, x => qit k (qst b n x)
def qGo (x y : PS) : Prop := ∃ k, qit b n k x = y
end QM
section QG
variable {b : Nat → Nat} {n : Nat} {x y z : PS}
theorem qGo.rfl (x : PS) : qGo b n x x := ⟨0, Eq.refl _⟩
theorem qit_add : ∀ (j k : Nat) (x : PS), qit b n (j + k) x = qit b n k (qit b n j x)
  | 0, k, x => by rw [Nat.zero_add]; rfl
  | j + 1, k, x => by rw [show j + 1 + k = (j + k) + 1 by omega]; exact qit_add j k (qst b n x)
theorem qGo.trans (h1 : qGo b n x y) (h2 : qGo b n y z) : qGo b n x z := by
  obtain ⟨j, rfl⟩ := h1
  obtain ⟨k, rfl⟩ := h2
  exact ⟨j + k, qit_add j k x⟩
theorem qGo.one (h : qst b n x = y) : qGo b n x y := ⟨1, h⟩
theorem qGo.st (h : qst b n x = y) (h2 : qGo b n y z) : qGo b n x z := (qGo.one h).trans h2
theorem qit_fix (h : qst b n x = x) : ∀ k, qit b n k x = x
  | 0 => Eq.refl _
  | k + 1 => by
    show qit b n k (qst b n x) = x
    rw [h]
    exact qit_fix h k
theorem qGo.det (h1 : qGo b n x y) (h2 : qGo b n x z) (f1 : qst b n y = y) (f2 : qst b n z = z) : y = z := by
  obtain ⟨j, hj⟩ := h1
  obtain ⟨k, hk⟩ := h2
  have e1 := qit_add (b := b) (n := n) j k x
  have e2 := qit_add (b := b) (n := n) k j x
  rw [hj, qit_fix f1] at e1
  rw [hk, qit_fix f2, Nat.add_comm] at e2
  rw [← e1, e2]
theorem q_flt (f q : Nat) : qst b n (flt f q) = flt f q := rfl
theorem q_8 (i : Nat) (W : List Nat) (d : Nat) (C : List Nat) (s : ST) : qst b n (8, i, W, d, C, s) = (8, i, W, d, C, s) := rfl
theorem ch_none {o c : FO} : ch o c = none ↔ o = none ∧ c = none := by cases o <;> simp [ch]
theorem ch_s (x : Nat × Nat) (c : FO) : ch (some x) c = some x := rfl
theorem ch_n (c : FO) : ch none c = c := rfl
theorem sU_same (s : ST) (a i x : Nat) : sU s a i x a i = x := if_pos ⟨rfl, rfl⟩
theorem sU_a {s : ST} {a a' i i' x : Nat} (h : a' ≠ a) : sU s a i x a' i' = s a' i' := if_neg (fun z => h z.1)
theorem sU_i {s : ST} {a a' i i' x : Nat} (h : i' ≠ i) : sU s a i x a' i' = s a' i' := if_neg (fun z => h z.2)
end QG
