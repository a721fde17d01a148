/-! ===== THE ABSTRACT MACHINE: a cell by its number, int places and long places by (cell, place); one instruction as a transformer of predicates ===== -/
abbrev HP : Type := (Nat → Nat → Int32) × (Nat → Nat → Int64)
/-- a cell's shape: an array of type t (0 int, 1 long, 2 char, 3 boolean) of length n; an object of class number ci, its fields' codes (0 int, 1 long, q + 2 the cell q) -/
abbrev SH : Type := (Nat × Nat) ⊕ (Nat × List Nat)
/-- an instruction, its length, three numbers, its word's place, an int, a long -/
abbrev ENT : Type := Instr × Nat × Nat × Nat × Nat × Nat × Int32 × Int64
abbrev QT : Type := Option Value → HP → Prop
abbrev KT : Type := Nat → List Value → List Value → HP → Prop
abbrev CT : Type := Nat → List Value → HP → QT → Prop
def wI (h : HP) (k i : Nat) (x : Int32) : HP := (va_up h.1 k (upd (h.1 k) i x), h.2)
def wJ (h : HP) (k i : Nat) (x : Int64) : HP := (h.1, va_up h.2 k (vp_updL (h.2 k) i x))
def wC (h : HP) (k k2 : Nat) (sp dp n : Nat) : HP := (va_up h.1 k2 (va_cpy (h.1 k) (h.1 k2) sp dp n), h.2)
def lclr (L : List Value) (i : Nat) : List Value := match L[i]? with
  | some (.long _) => L.set i .null
  | some (.double _) => L.set i .null
  | _ => L
def lsto (L : List Value) (i : Nat) (v : Value) : List Value := match i with
  | 0 => L.set 0 v
  | i' + 1 => (lclr L i').set (i' + 1) v
def lsto2 (L : List Value) (i : Nat) (v : Value) : List Value := (lsto L i v).set (i + 1) .null
def lcat (S : List Value) : Nat := match S with
  | [] => 0
  | v :: r => v.category + lcat r
/-- locals at a method's entry -/
def largs : List Value → List Value
  | [] => []
  | v :: r => bif Nat.beq v.category 2 then v :: .null :: largs r else v :: largs r
def lent (n : Nat) (vs : List Value) : List Value := largs vs ++ List.replicate (n - (largs vs).length) .null
/-- the text of the class's own words -/
def strT : List Int32 := [100, 97, 121, 115, 32, 32, 32, 32, 112, 101, 114, 115, 111, 110, 32, 32, 112, 97, 114, 116, 32, 32, 32, 32, 102, 114, 111, 109, 32, 32, 32, 32, 116, 111, 32, 32, 32, 32, 32, 32, 107, 105, 110, 100, 32, 32, 32, 32, 119, 101, 105, 103, 104, 115, 32, 32, 116, 117, 114, 110, 32, 32, 32, 32, 111, 110, 32, 32, 32, 32, 32, 32, 110, 101, 118, 101, 114, 32, 32, 32, 114, 101, 115, 116, 32, 32, 32, 32, 97, 112, 97, 114, 116, 32, 32, 32, 98, 101, 115, 105, 100, 101, 32, 32, 111, 114, 32, 32, 32, 32, 32, 32, 97, 110, 100, 32, 32, 32, 32, 32, 110, 111, 116, 32, 32, 32, 32, 32, 97, 108, 108, 32, 32, 32, 32, 32, 100, 97, 121, 32, 32, 32, 32, 32, 119, 101, 101, 107, 32, 32, 32, 32, 119, 101, 101, 107, 100, 97, 121, 32]
def strC (k : Nat) : Int32 := strT.getD k 0
def swoff (offs : List Int) (k : Nat) (d : Int) : Int := match offs[k]? with
  | some o => o
  | none => d
def st1 (sh : Nat → SH) (E : ENT) (pc : Nat) (L S : List Value) (h : HP) (K : KT) (C : CT) (Q : QT) : Prop :=
  match E with
  | (ins, len, a, b, c, _, vi, vl) => match ins with
    | .iconst _ => K (pc + len) L (.int vi :: S) h
    | .bipush _ => K (pc + len) L (.int vi :: S) h
    | .sipush _ => K (pc + len) L (.int vi :: S) h
    | .ldc _ => (bif Nat.beq c 1 then K (pc + len) L (.ref 1000 :: S) h else K (pc + len) L (.int vi :: S) h)
    | .ldc_w _ => K (pc + len) L (.int vi :: S) h
    | .lconst _ => K (pc + len) L (.long vl :: S) h
    | .ldc2_w _ => K (pc + len) L (.long vl :: S) h
    | .iload _ => (match L[a]? with | some (.int x) => K (pc + len) L (.int x :: S) h | _ => False)
    | .iload_n _ => (match L[a]? with | some (.int x) => K (pc + len) L (.int x :: S) h | _ => False)
    | .lload _ => (match L[a]? with | some (.long x) => K (pc + len) L (.long x :: S) h | _ => False)
    | .lload_n _ => (match L[a]? with | some (.long x) => K (pc + len) L (.long x :: S) h | _ => False)
    | .aload _ => (match L[a]? with | some (.ref x) => K (pc + len) L (.ref x :: S) h | _ => False)
    | .aload_n _ => (match L[a]? with | some (.ref x) => K (pc + len) L (.ref x :: S) h | _ => False)
    | .istore _ => (match S, L[a]? with | .int x :: r, some _ => K (pc + len) (lsto L a (.int x)) r h | _, _ => False)
    | .istore_n _ => (match S, L[a]? with | .int x :: r, some _ => K (pc + len) (lsto L a (.int x)) r h | _, _ => False)
    | .lstore _ => (match S, L[a + 1]? with | .long x :: r, some _ => K (pc + len) (lsto2 L a (.long x)) r h | _, _ => False)
    | .lstore_n _ => (match S, L[a + 1]? with | .long x :: r, some _ => K (pc + len) (lsto2 L a (.long x)) r h | _, _ => False)
    | .astore _ => (match S, L[a]? with | .ref x :: r, some _ => K (pc + len) (lsto L a (.ref x)) r h | _, _ => False)
    | .astore_n _ => (match S, L[a]? with | .ref x :: r, some _ => K (pc + len) (lsto L a (.ref x)) r h | _, _ => False)
    | .iinc _ _ => (match L[a]? with | some (.int x) => K (pc + len) (lsto L a (.int (x + vi))) S h | _ => False)
    | .iadd => (match S with | .int y :: .int x :: r => K (pc + len) L (.int (x + y) :: r) h | _ => False)
    | .isub => (match S with | .int y :: .int x :: r => K (pc + len) L (.int (x - y) :: r) h | _ => False)
    | .imul => (match S with | .int y :: .int x :: r => K (pc + len) L (.int (x * y) :: r) h | _ => False)
    | .iand => (match S with | .int y :: .int x :: r => K (pc + len) L (.int (x &&& y) :: r) h | _ => False)
    | .ior => (match S with | .int y :: .int x :: r => K (pc + len) L (.int (x ||| y) :: r) h | _ => False)
    | .ixor => (match S with | .int y :: .int x :: r => K (pc + len) L (.int (x ^^^ y) :: r) h | _ => False)
    | .ishl => (match S with | .int y :: .int x :: r => K (pc + len) L (.int (x <<< (y &&& 31)) :: r) h | _ => False)
    | .ishr => (match S with | .int y :: .int x :: r => K (pc + len) L (.int (x >>> (y &&& 31)) :: r) h | _ => False)
    | .iushr => (match S with | .int y :: .int x :: r => K (pc + len) L (.int (x.toUInt32 >>> (y.toUInt32 &&& Int32.toUInt32 31)).toInt32 :: r) h | _ => False)
    | .idiv => (match S with | .int y :: .int x :: r => ¬ y = 0 ∧ K (pc + len) L (.int (x / y) :: r) h | _ => False)
    | .irem => (match S with | .int y :: .int x :: r => ¬ y = 0 ∧ K (pc + len) L (.int (x - x / y * y) :: r) h | _ => False)
    | .ladd => (match S with | .long y :: .long x :: r => K (pc + len) L (.long (x + y) :: r) h | _ => False)
    | .lsub => (match S with | .long y :: .long x :: r => K (pc + len) L (.long (x - y) :: r) h | _ => False)
    | .lmul => (match S with | .long y :: .long x :: r => K (pc + len) L (.long (x * y) :: r) h | _ => False)
    | .land => (match S with | .long y :: .long x :: r => K (pc + len) L (.long (x &&& y) :: r) h | _ => False)
    | .lor => (match S with | .long y :: .long x :: r => K (pc + len) L (.long (x ||| y) :: r) h | _ => False)
    | .lxor => (match S with | .long y :: .long x :: r => K (pc + len) L (.long (x ^^^ y) :: r) h | _ => False)
    | .lshl => (match S with | .int y :: .long x :: r => K (pc + len) L (.long (x <<< (y.toInt64 &&& 63)) :: r) h | _ => False)
    | .ldiv => (match S with | .long y :: .long x :: r => ¬ y = 0 ∧ K (pc + len) L (.long (x / y) :: r) h | _ => False)
    | .lrem => (match S with | .long y :: .long x :: r => ¬ y = 0 ∧ K (pc + len) L (.long (x - x / y * y) :: r) h | _ => False)
    | .lneg => (match S with | .long x :: r => K (pc + len) L (.long (-x) :: r) h | _ => False)
    | .i2l => (match S with | .int x :: r => K (pc + len) L (.long x.toInt64 :: r) h | _ => False)
    | .l2i => (match S with | .long x :: r => K (pc + len) L (.int x.toInt32 :: r) h | _ => False)
    | .lcmp => (match S with | .long y :: .long x :: r => K (pc + len) L (.int (lg_cmp x y) :: r) h | _ => False)
    | .dup => (match S with | .int x :: r => K (pc + len) L (.int x :: .int x :: r) h | .ref x :: r => K (pc + len) L (.ref x :: .ref x :: r) h | _ => False)
    | .dup2 => (match S with | .int x :: .ref k :: r => K (pc + len) L (.int x :: .ref k :: .int x :: .ref k :: r) h | _ => False)
    | .pop => (match S with | .int _ :: r => K (pc + len) L r h | _ => False)
    | .ifCond .eq _ => (match S with | .int x :: r => (x = 0 → K a L r h) ∧ (¬ x = 0 → K (pc + len) L r h) | _ => False)
    | .ifCond .ne _ => (match S with | .int x :: r => (¬ x = 0 → K a L r h) ∧ (x = 0 → K (pc + len) L r h) | _ => False)
    | .ifCond .lt _ => (match S with | .int x :: r => (x < 0 → K a L r h) ∧ (¬ x < 0 → K (pc + len) L r h) | _ => False)
    | .ifCond .ge _ => (match S with | .int x :: r => (0 ≤ x → K a L r h) ∧ (¬ 0 ≤ x → K (pc + len) L r h) | _ => False)
    | .ifCond .gt _ => (match S with | .int x :: r => (0 < x → K a L r h) ∧ (¬ 0 < x → K (pc + len) L r h) | _ => False)
    | .ifCond .le _ => (match S with | .int x :: r => (x ≤ 0 → K a L r h) ∧ (¬ x ≤ 0 → K (pc + len) L r h) | _ => False)
    | .if_icmp .eq _ => (match S with | .int y :: .int x :: r => (x = y → K a L r h) ∧ (¬ x = y → K (pc + len) L r h) | _ => False)
    | .if_icmp .ne _ => (match S with | .int y :: .int x :: r => (¬ x = y → K a L r h) ∧ (x = y → K (pc + len) L r h) | _ => False)
    | .if_icmp .lt _ => (match S with | .int y :: .int x :: r => (x < y → K a L r h) ∧ (¬ x < y → K (pc + len) L r h) | _ => False)
    | .if_icmp .ge _ => (match S with | .int y :: .int x :: r => (y ≤ x → K a L r h) ∧ (¬ y ≤ x → K (pc + len) L r h) | _ => False)
    | .if_icmp .gt _ => (match S with | .int y :: .int x :: r => (y < x → K a L r h) ∧ (¬ y < x → K (pc + len) L r h) | _ => False)
    | .if_icmp .le _ => (match S with | .int y :: .int x :: r => (x ≤ y → K a L r h) ∧ (¬ x ≤ y → K (pc + len) L r h) | _ => False)
    | .goto _ => K a L S h
    | .tableswitch d lo hi offs => (match S with
        | .int x :: r => ((x.toInt < lo ∨ hi < x.toInt) → K ((pc : Int) + d).toNat L r h) ∧ (¬ x.toInt < lo → ¬ hi < x.toInt → K ((pc : Int) + swoff offs.toList (x.toInt - lo).toNat d).toNat L r h)
        | _ => False)
    | .lookupswitch d ps => (match S with
        | .int x :: r => K ((pc : Int) + Op.lookupswitch.offset ps.toList d x.toInt).toNat L r h
        | _ => False)
    | .getfield _ => (match S with
        | .ref k :: r => (match sh k with
          | .inr (ci, fl) => (bif Nat.beq ci a then (match fl[b]? with
            | some 0 => K (pc + len) L (.int (h.1 k b) :: r) h
            | some 1 => K (pc + len) L (.long (h.2 k b) :: r) h
            | some (q + 2) => K (pc + len) L (.ref q :: r) h
            | none => False) else False)
          | _ => False)
        | _ => False)
    | .putfield _ => (match S with
        | .int x :: .ref k :: r => (match sh k with
          | .inr (ci, fl) => (bif Nat.beq ci a then (match fl[b]? with
            | some 0 => K (pc + len) L r (wI h k b x)
            | _ => False) else False)
          | _ => False)
        | .long x :: .ref k :: r => (match sh k with
          | .inr (ci, fl) => (bif Nat.beq ci a then (match fl[b]? with
            | some 1 => K (pc + len) L r (wJ h k b x)
            | _ => False) else False)
          | _ => False)
        | _ => False)
    | .iaload => (match S with | .int i :: .ref k :: r => (match sh k with | .inl (0, n) => vp_in i n ∧ K (pc + len) L (.int (h.1 k i.toNatClampNeg) :: r) h | _ => False) | _ => False)
    | .caload => (match S with | .int i :: .ref k :: r => (match sh k with | .inl (2, n) => vp_in i n ∧ K (pc + len) L (.int (h.1 k i.toNatClampNeg) :: r) h | _ => False) | _ => False)
    | .baload => (match S with | .int i :: .ref k :: r => (match sh k with | .inl (3, n) => vp_in i n ∧ K (pc + len) L (.int (h.1 k i.toNatClampNeg) :: r) h | _ => False) | _ => False)
    | .laload => (match S with | .int i :: .ref k :: r => (match sh k with | .inl (1, n) => vp_in i n ∧ K (pc + len) L (.long (h.2 k i.toNatClampNeg) :: r) h | _ => False) | _ => False)
    | .iastore => (match S with | .int x :: .int i :: .ref k :: r => (match sh k with | .inl (0, n) => vp_in i n ∧ K (pc + len) L r (wI h k i.toNatClampNeg x) | _ => False) | _ => False)
    | .bastore => (match S with | .int x :: .int i :: .ref k :: r => (match sh k with | .inl (3, n) => vp_in i n ∧ K (pc + len) L r (wI h k i.toNatClampNeg (vp_nar .boolean x)) | _ => False) | _ => False)
    | .lastore => (match S with | .long x :: .int i :: .ref k :: r => (match sh k with | .inl (1, n) => vp_in i n ∧ K (pc + len) L r (wJ h k i.toNatClampNeg x) | _ => False) | _ => False)
    | .arraylength => (match S with | .ref k :: r => (match sh k with | .inl (0, n) => K (pc + len) L (.int (Int32.ofNat n) :: r) h | .inl (1, n) => K (pc + len) L (.int (Int32.ofNat n) :: r) h | .inl (2, n) => K (pc + len) L (.int (Int32.ofNat n) :: r) h | .inl (3, n) => K (pc + len) L (.int (Int32.ofNat n) :: r) h | _ => False) | _ => False)
    | .invokevirtual _ => (bif Nat.beq c 77 then (match S with
        | .int i :: .ref k :: r => (bif Nat.beq k 1000 then vp_in i 160 ∧ (bif Nat.ble (lcat r) 8 then K (pc + len) L (.int (strC i.toNatClampNeg) :: r) h else False) else False)
        | _ => False) else (match S[b]? with
        | some (.ref k) => (match sh k with
          | .inr (ci, _) => (bif Nat.beq ci c then (bif Nat.ble (lcat (S.drop (b + 1))) 8 then C a (.ref k :: (S.take b).reverse) h (fun v h' => K (pc + len) L (v.toList ++ S.drop (b + 1)) h') else False) else False)
          | _ => False)
        | _ => False))
    | .invokestatic _ => (bif Nat.beq c 1 then
        (match S with
        | .int n :: .int dp :: .ref k2 :: .int sp :: .ref k :: r => (match sh k, sh k2 with
          | .inl (0, n0), .inl (0, n1) => (¬ sp < 0 ∧ ¬ dp < 0 ∧ ¬ n < 0 ∧ sp.toNatClampNeg + n.toNatClampNeg ≤ n0 ∧ dp.toNatClampNeg + n.toNatClampNeg ≤ n1) ∧ (bif Nat.ble (lcat r) 8 then K (pc + len) L r (wC h k k2 sp.toNatClampNeg dp.toNatClampNeg n.toNatClampNeg) else False)
          | _, _ => False)
        | _ => False)
      else (bif Nat.ble b S.length then (bif Nat.ble (lcat (S.drop b)) 8 then C a (S.take b).reverse h (fun v h' => K (pc + len) L (v.toList ++ S.drop b) h') else False) else False))
    | .ireturn => (match S with | [.int x] => (bif Nat.beq a 1 then (x = 0 ∨ x = 1) ∧ Q (some (.int x)) h else Q (some (.int x)) h) | _ => False)
    | .lreturn => (match S with | [.long x] => Q (some (.long x)) h | _ => False)
    | .return_ => (match S with | [] => Q none h | _ => False)
    | _ => False
def wpc (d : Nat) (b : Bool) (f : Nat → Prop) : Prop := match d with
  | 0 => False
  | d' + 1 => bif b then f d' else False
/-- n instructions, d calls deep -/
def wp (sh : Nat → SH) (cd : Nat → Nat → Option ENT) (mL : Nat → Nat) : Nat → Nat → Nat → Nat → List Value → List Value → HP → QT → Prop
  | 0, _, _, _, _, _, _, _ => False
  | n + 1, d, j, pc, L, S, h, Q => match cd j pc with
    | some E => st1 sh E pc L S h (fun pc' L' S' h' => wp sh cd mL n d j pc' L' S' h' Q) (fun j' as h' k => wpc d (Nat.ble (largs as).length (mL j')) (fun d' => wp sh cd mL n d' j' 0 (lent (mL j') as) [] h' k)) Q
    | none => False
