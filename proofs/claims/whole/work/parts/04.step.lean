/-! ===== ONE INSTRUCTION ===== -/
def chkF (own : String) (i a b q : Nat) : Bool := match kCl[a]? with
  | some (_, T, N) => decide (b < N) && (inT q (.fieldLink own i (T b).1 (T b).2.1 (T b).2.2.1) || inT q (.fieldLinkNest own i (T b).1 (T b).2.1 (T b).2.2.1 "EvenRota"))
  | none => false
def chkP (a b : Nat) (ty : FieldType) : Bool := match kCl[a]? with
  | some (_, T, _) => decide ((T b).2.2.2 = false) && decide (parseFieldDescriptor (T b).2.2.1 = some ty)
  | none => false
def chk1 (mY : Nat → MethodName) (mN : Nat → Nat) (bytes : ByteArray) (own : String) (ret : Option FieldType) (pc : Nat) (E : ENT) : Bool :=
  match E with
  | (ins, len, a, b, c, q, vi, vl) => decide (decode bytes pc = .ok (ins, len)) && (match ins with
    | .iconst n => decide (len = 1) && decide (Int32.ofInt n = vi)
    | .bipush n => decide (len = 2) && decide ((Int8.ofInt n).toInt32 = vi)
    | .sipush n => decide (len = 3) && decide ((Int16.ofInt n).toInt32 = vi)
    | .ldc i => decide (len = 2) && (if c = 1 then decide (own = "EvenRota$Tokens" ∧ i = 62) else inT q (.constant own i vi))
    | .ldc_w i => decide (len = 3) && inT q (.constant own i vi)
    | .lconst n => decide (len = 1) && decide (Int64.ofNat (n : Nat) = vl)
    | .ldc2_w i => decide (len = 3) && inT q (.constantLong own i vl)
    | .iload i => decide (len = 2) && decide (i = a)
    | .lload i => decide (len = 2) && decide (i = a)
    | .aload i => decide (len = 2) && decide (i = a)
    | .istore i => decide (len = 2) && decide (i = a)
    | .lstore i => decide (len = 2) && decide (i = a)
    | .astore i => decide (len = 2) && decide (i = a)
    | .iload_n i => decide (len = 1) && decide ((i : Nat) = a)
    | .lload_n i => decide (len = 1) && decide ((i : Nat) = a)
    | .aload_n i => decide (len = 1) && decide ((i : Nat) = a)
    | .istore_n i => decide (len = 1) && decide ((i : Nat) = a)
    | .lstore_n i => decide (len = 1) && decide ((i : Nat) = a)
    | .astore_n i => decide (len = 1) && decide ((i : Nat) = a)
    | .iinc i n => decide (len = 3) && (decide (i = a) && decide (Int32.ofInt n = vi))
    | .ifCond _ off => decide (len = 3) && decide ((pc : Int) + off = (a : Int))
    | .if_icmp _ off => decide (len = 3) && decide ((pc : Int) + off = (a : Int))
    | .goto off => decide (len = 3) && decide ((pc : Int) + off = (a : Int))
    | .tableswitch d lo hi offs => decide (0 ≤ (pc : Int) + d) && (offs.toList.all (fun o => decide (0 ≤ (pc : Int) + o)) && decide ((offs.toList.length : Int) = hi - lo + 1))
    | .lookupswitch d ps => (ps.toList.zip (ps.toList.drop 1)).all (fun (a, next) => decide (a.1 < next.1)) && (decide (0 ≤ (pc : Int) + d) && ps.toList.all (fun o => decide (0 ≤ (pc : Int) + o.2)))
    | .getfield i => decide (len = 3) && chkF own i a b q
    | .putfield i => decide (len = 3) && (chkF own i a b q && (chkP a b .int && decide (vi = 0) || chkP a b .long && decide (vi = 1)))
    | .invokevirtual i => decide (len = 3) && (if c = 77 then inT q (.methodLink own i ⟨"java/lang/String", "charAt", "(I)C"⟩) else decide (mN a = b) && (decide (b < 40 ∧ c < 20) && (decide ((kCl[c]?).map (fun r => r.1) = some (mY a).cls) && (inT q (.methodLink own i (mY a)) || inT q (.methodLinkNest own i (mY a) "EvenRota")))))
    | .invokestatic i => decide (len = 3) && (if c = 1 then inT q (.methodLink own i arraycopyName) else (decide (mN a = b + 50) && (decide (b < 40) && (inT q (.methodLink own i (mY a)) || inT q (.methodLinkNest own i (mY a) "EvenRota")))))
    | .ireturn => decide (len = 1) && (if a = 1 then decide (ret = some .boolean) else decide (ret = some .int))
    | .lreturn => decide (len = 1) && decide (ret = some .long)
    | .return_ => decide (len = 1) && decide (ret = none)
    | _ => decide (len = 1))
def Pw (D : va_G) (ad : Nat → Nat) (cy : Nat → ClassId) (sh : Nat → SH) (NC : Nat) (h : HP) (sz : Nat) (U : State) : Prop := U.heap.size = sz ∧ va_P D kCl (wsO ad cy sh NC h) U.heap ∧ va_K D kCl (tyL cy) U ∧ va_D (fun _ => True) (wsO ad cy sh NC h) ∧ (∀ w ∈ nW, va_Nw w U) ∧ XP ad NC U
def Qw (D : va_G) (ad : Nat → Nat) (cy : Nat → ClassId) (sh : Nat → SH) (NC : Nat) (k : QT) (A : Nat → Prop) : Array Value → State → Outcome → State → Prop := fun _ st oc t =>
  (∃ (v : Option Value) (h' : HP), oc = .returned (v.map (cv ad)) ∧ k v h' ∧ va_P D kCl (wsO ad cy sh NC h') t.heap ∧ va_K D kCl (tyL cy) t ∧ va_D A (wsO ad cy sh NC h')) ∧ va_F A st t
def GW (p : Program) (l : Launch) (e : Env) (R : Room) (s : State) (m : MethodId) (args : Array Value) (below : List Frame) (meth : Method) (c : Code) (QQ : State → Prop) (D : va_G) (ad : Nat → Nat) (cy : Nat → ClassId) (sh : Nat → SH) (NC : Nat) (A : Nat → Prop) (nL : Nat) (pc : Nat) (L S : List Value) (h : HP) : Prop :=
  ∀ (H : Heap) (locs : List Loc) (ls : Array Slot), va_P D kCl (wsO ad cy sh NC h) H → va_D A (wsO ad cy sh NC h) → va_S A s.heap H locs → LR ad ls nL L → W p l e R s m args below meth c H locs 0 0 QQ (F0 m pc ls (S.map (cv ad)))
def CX (D : va_G) (cy : Nat → ClassId) (bytes : ByteArray) (own : String) (nL : Nat) (ret : Option FieldType) (p : Program) (s : State) (m : MethodId) (args : Array Value) (meth : Method) (c : Code) : Prop :=
  p.tables.exec = Jvm.exec ∧ c.code = bytes ∧ meth.sig.returnType = ret ∧ c.maxLocals = nL ∧ s.vm.findClass own = some m.cls ∧ meth.locks = false ∧ (∀ w ∈ gW, w.before args s = true) ∧ (∀ w ∈ nW, va_Nw w s) ∧ va_K D kCl (tyL cy) s
theorem mem_one {P : Nat × Value → Prop} : True := trivial
section AMI
variable {p : Program} {l : Launch} {e : Env} {R : Room} {s : State} {m : MethodId} {args : Array Value} {below : List Frame} {meth : Method} {c0 : Code} {QQ : State → Prop} {D : va_G} {ad : Nat → Nat} {cy : Nat → ClassId} {sh : Nat → SH} {NC : Nat} {A : Nat → Prop} {nL : Nat}
variable {bytes : ByteArray} {own : String} {ret : Option FieldType} {mY : Nat → MethodName} {mN : Nat → Nat}
/-- what is left to the other rows: cells, calls, returns -/
def rest1 : Instr → Bool
  | .getfield _ => true
  | .putfield _ => true
  | .iaload => true
  | .caload => true
  | .baload => true
  | .laload => true
  | .iastore => true
  | .bastore => true
  | .lastore => true
  | .arraylength => true
  | .invokevirtual _ => true
  | .invokestatic _ => true
  | .ireturn => true
  | .lreturn => true
  | .return_ => true
  | _ => false
set_option maxHeartbeats 4000000 in
theorem snd_plain (cx : CX D cy bytes own nL ret p s m args meth c0) (hX : XP ad NC s) {E : ENT} {pc : Nat} {L S : List Value} {h : HP} {K : KT} {C : CT} {Q : QT} (hr1 : rest1 E.1 = false) (hc : chk1 mY mN bytes own ret pc E = true)
    (hK : ∀ pc' L' S' h', K pc' L' S' h' → GW p l e R s m args below meth c0 QQ D ad cy sh NC A nL pc' L' S' h') (hst : st1 sh E pc L S h K C Q) : GW p l e R s m args below meth c0 QQ D ad cy sh NC A nL pc L S h := by
  intro H locs ls hP hD hS hL
  obtain ⟨hx, hb, hr, hml, hown, hlk, hts, hnw, hK0⟩ := cx
  obtain ⟨ins, len, a, b, c, q, vi, vl⟩ := E
  unfold st1 at hst
  unfold chk1 at hc
  rw [Bool.and_eq_true, decide_eq_true_eq] at hc
  obtain ⟨hd, hc⟩ := hc
  dsimp only at hr1
  cases ins <;> first | exact False.elim hst | (cases hr1; done) | skip
  case iconst n =>
    simp only [Bool.and_eq_true, decide_eq_true_eq] at hc
    obtain ⟨rfl, hv⟩ := hc
    exact lv_iconst hx hb hd hv (hK _ _ _ _ hst H locs ls hP hD hS hL)
  case bipush n =>
    simp only [Bool.and_eq_true, decide_eq_true_eq] at hc
    obtain ⟨rfl, hv⟩ := hc
    exact lv_bipush hx hb hd hv (hK _ _ _ _ hst H locs ls hP hD hS hL)
  case sipush n =>
    simp only [Bool.and_eq_true, decide_eq_true_eq] at hc
    obtain ⟨rfl, hv⟩ := hc
    exact lv_sipush hx hb hd hv (hK _ _ _ _ hst H locs ls hP hD hS hL)
  case ldc n =>
    dsimp only at hst hc
    rw [Bool.and_eq_true, decide_eq_true_eq] at hc
    obtain ⟨rfl, hc⟩ := hc
    by_cases hc1 : c = 1
    · subst hc1
      rw [if_pos rfl, decide_eq_true_eq] at hc
      obtain ⟨rfl, rfl⟩ := hc
      obtain ⟨t2, hv, -⟩ := hX
      have hst : K (pc + 2) L (.ref 1000 :: S) h := hst
      exact va_ldcS hx hb hown hv hd (hK _ _ _ _ hst H locs ls hP hD hS hL)
    · rw [if_neg hc1] at hc
      have hbq : Nat.beq c 1 = false := by
        cases hz : Nat.beq c 1 with
        | false => rfl
        | true => exact absurd (Nat.eq_of_beq_eq_true hz) hc1
      rw [hbq] at hst
      have hst : K (pc + 2) L (.int vi :: S) h := hst
      exact lv_ldc hx hb hown (hts _ (inT_gW hc rfl)) hd (hK _ _ _ _ hst H locs ls hP hD hS hL)
  case ldc_w n =>
    simp only [Bool.and_eq_true, decide_eq_true_eq] at hc
    obtain ⟨rfl, hv⟩ := hc
    exact lv_ldcw hx hb hown (hts _ (inT_gW hv rfl)) hd (hK _ _ _ _ hst H locs ls hP hD hS hL)
  case lconst n =>
    simp only [Bool.and_eq_true, decide_eq_true_eq] at hc
    obtain ⟨rfl, hv⟩ := hc
    exact lv_lconst hx hb hd hv (hK _ _ _ _ hst H locs ls hP hD hS hL)
  case ldc2_w n =>
    simp only [Bool.and_eq_true, decide_eq_true_eq] at hc
    obtain ⟨rfl, hv⟩ := hc
    exact lv_ldc2 hx hb hown (hts _ (inT_gW hv rfl)) hd (hK _ _ _ _ hst H locs ls hP hD hS hL)
  case iload n =>
    dsimp only at hst hc
    simp only [Bool.and_eq_true, decide_eq_true_eq] at hc
    obtain ⟨rfl, rfl⟩ := hc
    split at hst
    · rename_i x hx1
      exact lv_iload hx hb hd (hL.at hx1 (by simp)) (hK _ _ _ _ hst H locs ls hP hD hS hL)
    · exact hst.elim
  case iload_n n =>
    dsimp only at hst hc
    simp only [Bool.and_eq_true, decide_eq_true_eq] at hc
    obtain ⟨rfl, rfl⟩ := hc
    split at hst
    · rename_i x hx1
      exact lv_iload_n hx hb hd rfl (hL.at hx1 (by simp)) (hK _ _ _ _ hst H locs ls hP hD hS hL)
    · exact hst.elim
  case lload n =>
    dsimp only at hst hc
    simp only [Bool.and_eq_true, decide_eq_true_eq] at hc
    obtain ⟨rfl, rfl⟩ := hc
    split at hst
    · rename_i x hx1
      exact lv_lload hx hb hd (hL.at hx1 (by simp)) (hK _ _ _ _ hst H locs ls hP hD hS hL)
    · exact hst.elim
  case lload_n n =>
    dsimp only at hst hc
    simp only [Bool.and_eq_true, decide_eq_true_eq] at hc
    obtain ⟨rfl, rfl⟩ := hc
    split at hst
    · rename_i x hx1
      exact lv_lload_n hx hb hd rfl (hL.at hx1 (by simp)) (hK _ _ _ _ hst H locs ls hP hD hS hL)
    · exact hst.elim
  case aload n =>
    dsimp only at hst hc
    simp only [Bool.and_eq_true, decide_eq_true_eq] at hc
    obtain ⟨rfl, rfl⟩ := hc
    split at hst
    · rename_i x hx1
      exact lv_aload hx hb hd (hL.at hx1 (by simp)) (hK _ _ _ _ hst H locs ls hP hD hS hL)
    · exact hst.elim
  case aload_n n =>
    dsimp only at hst hc
    simp only [Bool.and_eq_true, decide_eq_true_eq] at hc
    obtain ⟨rfl, rfl⟩ := hc
    split at hst
    · rename_i x hx1
      exact lv_aload_n hx hb hd rfl (hL.at hx1 (by simp)) (hK _ _ _ _ hst H locs ls hP hD hS hL)
    · exact hst.elim
  case istore n =>
    dsimp only at hst hc
    simp only [Bool.and_eq_true, decide_eq_true_eq] at hc
    obtain ⟨rfl, rfl⟩ := hc
    split at hst
    · rename_i x r y hy
      have hi := (List.getElem?_eq_some_iff.mp hy).1
      exact lv_istore hx hb hd hL.2 (by rw [← hL.1]; exact hi) rfl (fun ls' h' => hK _ _ _ _ hst H locs ls' hP hD hS (hL.sto (v := .int x) hi h'))
    · exact hst.elim
  case istore_n n =>
    dsimp only at hst hc
    simp only [Bool.and_eq_true, decide_eq_true_eq] at hc
    obtain ⟨rfl, rfl⟩ := hc
    split at hst
    · rename_i x r y hy
      have hi := (List.getElem?_eq_some_iff.mp hy).1
      exact lv_istore_n hx hb hd rfl hL.2 (by rw [← hL.1]; exact hi) rfl (fun ls' h' => hK _ _ _ _ hst H locs ls' hP hD hS (hL.sto (v := .int x) hi h'))
    · exact hst.elim
  case astore n =>
    dsimp only at hst hc
    simp only [Bool.and_eq_true, decide_eq_true_eq] at hc
    obtain ⟨rfl, rfl⟩ := hc
    split at hst
    · rename_i x r y hy
      have hi := (List.getElem?_eq_some_iff.mp hy).1
      exact lv_astore hx hb hd hL.2 (by rw [← hL.1]; exact hi) rfl (fun ls' h' => hK _ _ _ _ hst H locs ls' hP hD hS (hL.sto (v := .ref x) hi h'))
    · exact hst.elim
  case astore_n n =>
    dsimp only at hst hc
    simp only [Bool.and_eq_true, decide_eq_true_eq] at hc
    obtain ⟨rfl, rfl⟩ := hc
    split at hst
    · rename_i x r y hy
      have hi := (List.getElem?_eq_some_iff.mp hy).1
      exact lv_astore_n hx hb hd rfl hL.2 (by rw [← hL.1]; exact hi) rfl (fun ls' h' => hK _ _ _ _ hst H locs ls' hP hD hS (hL.sto (v := .ref x) hi h'))
    · exact hst.elim
  case lstore n =>
    dsimp only at hst hc
    simp only [Bool.and_eq_true, decide_eq_true_eq] at hc
    obtain ⟨rfl, rfl⟩ := hc
    split at hst
    · rename_i x r y hy
      have hi := (List.getElem?_eq_some_iff.mp hy).1
      exact lv_lstore hx hb hd hL.2 (by rw [← hL.1]; exact hi) rfl (fun ls' h' => hK _ _ _ _ hst H locs ls' hP hD hS (hL.sto2 (v := .long x) hi h'))
    · exact hst.elim
  case lstore_n n =>
    dsimp only at hst hc
    simp only [Bool.and_eq_true, decide_eq_true_eq] at hc
    obtain ⟨rfl, rfl⟩ := hc
    split at hst
    · rename_i x r y hy
      have hi := (List.getElem?_eq_some_iff.mp hy).1
      exact lv_lstore_n hx hb hd rfl hL.2 (by rw [← hL.1]; exact hi) rfl (fun ls' h' => hK _ _ _ _ hst H locs ls' hP hD hS (hL.sto2 (v := .long x) hi h'))
    · exact hst.elim
  case iinc i n =>
    dsimp only at hst hc
    simp only [Bool.and_eq_true, decide_eq_true_eq] at hc
    obtain ⟨rfl, rfl, rfl⟩ := hc
    split at hst
    · rename_i x hx1
      have hi := (List.getElem?_eq_some_iff.mp hx1).1
      have hm : (i, Value.int x) ∈ asc ad L := mem_asc.mpr ⟨_, hx1, by simp, rfl⟩
      obtain ⟨k, hk⟩ := List.getElem?_of_mem hm
      exact lv_iinc hx hb hd hL.2 hk rfl (by rw [← hL.1]; exact hi) rfl (fun ls' h' => hK _ _ _ _ hst H locs ls' hP hD hS (hL.sto (v := .int _) hi h'))
    · exact hst.elim
  case iadd  =>
    dsimp only at hst hc
    rw [decide_eq_true_eq] at hc
    subst hc
    split at hst
    · exact lv_iadd hx hb hd (hK _ _ _ _ hst H locs ls hP hD hS hL)
    · exact hst.elim
  case isub  =>
    dsimp only at hst hc
    rw [decide_eq_true_eq] at hc
    subst hc
    split at hst
    · exact lv_isub hx hb hd (hK _ _ _ _ hst H locs ls hP hD hS hL)
    · exact hst.elim
  case imul  =>
    dsimp only at hst hc
    rw [decide_eq_true_eq] at hc
    subst hc
    split at hst
    · exact lv_imul hx hb hd (hK _ _ _ _ hst H locs ls hP hD hS hL)
    · exact hst.elim
  case iand  =>
    dsimp only at hst hc
    rw [decide_eq_true_eq] at hc
    subst hc
    split at hst
    · exact lv_iand hx hb hd (hK _ _ _ _ hst H locs ls hP hD hS hL)
    · exact hst.elim
  case ior  =>
    dsimp only at hst hc
    rw [decide_eq_true_eq] at hc
    subst hc
    split at hst
    · exact lv_ior hx hb hd (hK _ _ _ _ hst H locs ls hP hD hS hL)
    · exact hst.elim
  case ixor  =>
    dsimp only at hst hc
    rw [decide_eq_true_eq] at hc
    subst hc
    split at hst
    · exact lv_ixor hx hb hd (hK _ _ _ _ hst H locs ls hP hD hS hL)
    · exact hst.elim
  case ishl  =>
    dsimp only at hst hc
    rw [decide_eq_true_eq] at hc
    subst hc
    split at hst
    · exact lv_ishl hx hb hd (hK _ _ _ _ hst H locs ls hP hD hS hL)
    · exact hst.elim
  case ishr  =>
    dsimp only at hst hc
    rw [decide_eq_true_eq] at hc
    subst hc
    split at hst
    · exact lv_ishr hx hb hd (hK _ _ _ _ hst H locs ls hP hD hS hL)
    · exact hst.elim
  case ladd  =>
    dsimp only at hst hc
    rw [decide_eq_true_eq] at hc
    subst hc
    split at hst
    · exact lv_ladd hx hb hd (hK _ _ _ _ hst H locs ls hP hD hS hL)
    · exact hst.elim
  case lsub  =>
    dsimp only at hst hc
    rw [decide_eq_true_eq] at hc
    subst hc
    split at hst
    · exact lv_lsub hx hb hd (hK _ _ _ _ hst H locs ls hP hD hS hL)
    · exact hst.elim
  case lmul  =>
    dsimp only at hst hc
    rw [decide_eq_true_eq] at hc
    subst hc
    split at hst
    · exact lv_lmul hx hb hd (hK _ _ _ _ hst H locs ls hP hD hS hL)
    · exact hst.elim
  case land  =>
    dsimp only at hst hc
    rw [decide_eq_true_eq] at hc
    subst hc
    split at hst
    · exact lv_land hx hb hd (hK _ _ _ _ hst H locs ls hP hD hS hL)
    · exact hst.elim
  case lor  =>
    dsimp only at hst hc
    rw [decide_eq_true_eq] at hc
    subst hc
    split at hst
    · exact lv_lor hx hb hd (hK _ _ _ _ hst H locs ls hP hD hS hL)
    · exact hst.elim
  case lxor  =>
    dsimp only at hst hc
    rw [decide_eq_true_eq] at hc
    subst hc
    split at hst
    · exact lv_lxor hx hb hd (hK _ _ _ _ hst H locs ls hP hD hS hL)
    · exact hst.elim
  case lneg  =>
    dsimp only at hst hc
    rw [decide_eq_true_eq] at hc
    subst hc
    split at hst
    · exact lv_lneg hx hb hd (hK _ _ _ _ hst H locs ls hP hD hS hL)
    · exact hst.elim
  case iushr  =>
    dsimp only at hst hc
    rw [decide_eq_true_eq] at hc
    subst hc
    split at hst
    · exact lv_iushr hx hb hd rfl (hK _ _ _ _ hst H locs ls hP hD hS hL)
    · exact hst.elim
  case lshl  =>
    dsimp only at hst hc
    rw [decide_eq_true_eq] at hc
    subst hc
    split at hst
    · exact lv_lshl hx hb hd rfl (hK _ _ _ _ hst H locs ls hP hD hS hL)
    · exact hst.elim
  case i2l  =>
    dsimp only at hst hc
    rw [decide_eq_true_eq] at hc
    subst hc
    split at hst
    · exact lv_i2l hx hb hd rfl (hK _ _ _ _ hst H locs ls hP hD hS hL)
    · exact hst.elim
  case l2i  =>
    dsimp only at hst hc
    rw [decide_eq_true_eq] at hc
    subst hc
    split at hst
    · exact lv_l2i hx hb hd rfl (hK _ _ _ _ hst H locs ls hP hD hS hL)
    · exact hst.elim
  case idiv  =>
    dsimp only at hst hc
    rw [decide_eq_true_eq] at hc
    subst hc
    split at hst
    · exact lv_idiv hx hb hd hst.1 (hK _ _ _ _ hst.2 H locs ls hP hD hS hL)
    · exact hst.elim
  case irem  =>
    dsimp only at hst hc
    rw [decide_eq_true_eq] at hc
    subst hc
    split at hst
    · exact lv_irem hx hb hd hst.1 (hK _ _ _ _ hst.2 H locs ls hP hD hS hL)
    · exact hst.elim
  case ldiv  =>
    dsimp only at hst hc
    rw [decide_eq_true_eq] at hc
    subst hc
    split at hst
    · exact lv_ldiv hx hb hd hst.1 (hK _ _ _ _ hst.2 H locs ls hP hD hS hL)
    · exact hst.elim
  case lrem  =>
    dsimp only at hst hc
    rw [decide_eq_true_eq] at hc
    subst hc
    split at hst
    · exact lv_lrem hx hb hd hst.1 (hK _ _ _ _ hst.2 H locs ls hP hD hS hL)
    · exact hst.elim
  case lcmp  =>
    dsimp only at hst hc
    rw [decide_eq_true_eq] at hc
    subst hc
    split at hst
    · exact W.lcmp hx hb hd (hK _ _ _ _ hst H locs ls hP hD hS hL)
    · exact hst.elim
  case dup  =>
    dsimp only at hst hc
    rw [decide_eq_true_eq] at hc
    subst hc
    split at hst
    · exact lv_dup hx hb hd rfl (hK _ _ _ _ hst H locs ls hP hD hS hL)
    · exact lv_dup hx hb hd rfl (hK _ _ _ _ hst H locs ls hP hD hS hL)
    · exact hst.elim
  case dup2  =>
    dsimp only at hst hc
    rw [decide_eq_true_eq] at hc
    subst hc
    split at hst
    · exact lv_dup2_11 hx hb hd rfl rfl (hK _ _ _ _ hst H locs ls hP hD hS hL)
    · exact hst.elim
  case pop  =>
    dsimp only at hst hc
    rw [decide_eq_true_eq] at hc
    subst hc
    split at hst
    · exact lv_pop hx hb hd rfl (hK _ _ _ _ hst H locs ls hP hD hS hL)
    · exact hst.elim
  case ifCond cond off =>
    simp only [Bool.and_eq_true, decide_eq_true_eq] at hc
    obtain ⟨rfl, ht⟩ := hc
    cases cond
    case eq =>
      dsimp only at hst
      split at hst
      · exact lv_if_eq hx hb hd ht (fun z => hK _ _ _ _ (hst.1 z) H locs ls hP hD hS hL) (fun z => hK _ _ _ _ (hst.2 z) H locs ls hP hD hS hL)
      · exact hst.elim
    case ne =>
      dsimp only at hst
      split at hst
      · exact lv_if_ne hx hb hd ht (fun z => hK _ _ _ _ (hst.1 z) H locs ls hP hD hS hL) (fun z => hK _ _ _ _ (hst.2 z) H locs ls hP hD hS hL)
      · exact hst.elim
    case lt =>
      dsimp only at hst
      split at hst
      · exact lv_if_lt hx hb hd ht (fun z => hK _ _ _ _ (hst.1 z) H locs ls hP hD hS hL) (fun z => hK _ _ _ _ (hst.2 z) H locs ls hP hD hS hL)
      · exact hst.elim
    case ge =>
      dsimp only at hst
      split at hst
      · exact lv_if_ge hx hb hd ht (fun z => hK _ _ _ _ (hst.1 z) H locs ls hP hD hS hL) (fun z => hK _ _ _ _ (hst.2 z) H locs ls hP hD hS hL)
      · exact hst.elim
    case gt =>
      dsimp only at hst
      split at hst
      · exact lv_if_gt hx hb hd ht (fun z => hK _ _ _ _ (hst.1 z) H locs ls hP hD hS hL) (fun z => hK _ _ _ _ (hst.2 z) H locs ls hP hD hS hL)
      · exact hst.elim
    case le =>
      dsimp only at hst
      split at hst
      · exact lv_if_le hx hb hd ht (fun z => hK _ _ _ _ (hst.1 z) H locs ls hP hD hS hL) (fun z => hK _ _ _ _ (hst.2 z) H locs ls hP hD hS hL)
      · exact hst.elim
  case if_icmp cond off =>
    simp only [Bool.and_eq_true, decide_eq_true_eq] at hc
    obtain ⟨rfl, ht⟩ := hc
    cases cond
    case eq =>
      dsimp only at hst
      split at hst
      · exact lv_icmp_eq hx hb hd ht (fun z => hK _ _ _ _ (hst.1 z) H locs ls hP hD hS hL) (fun z => hK _ _ _ _ (hst.2 z) H locs ls hP hD hS hL)
      · exact hst.elim
    case ne =>
      dsimp only at hst
      split at hst
      · exact lv_icmp_ne hx hb hd ht (fun z => hK _ _ _ _ (hst.1 z) H locs ls hP hD hS hL) (fun z => hK _ _ _ _ (hst.2 z) H locs ls hP hD hS hL)
      · exact hst.elim
    case lt =>
      dsimp only at hst
      split at hst
      · exact lv_icmp_lt hx hb hd ht (fun z => hK _ _ _ _ (hst.1 z) H locs ls hP hD hS hL) (fun z => hK _ _ _ _ (hst.2 z) H locs ls hP hD hS hL)
      · exact hst.elim
    case ge =>
      dsimp only at hst
      split at hst
      · exact lv_icmp_ge hx hb hd ht (fun z => hK _ _ _ _ (hst.1 z) H locs ls hP hD hS hL) (fun z => hK _ _ _ _ (hst.2 z) H locs ls hP hD hS hL)
      · exact hst.elim
    case gt =>
      dsimp only at hst
      split at hst
      · exact lv_icmp_gt hx hb hd ht (fun z => hK _ _ _ _ (hst.1 z) H locs ls hP hD hS hL) (fun z => hK _ _ _ _ (hst.2 z) H locs ls hP hD hS hL)
      · exact hst.elim
    case le =>
      dsimp only at hst
      split at hst
      · exact lv_icmp_le hx hb hd ht (fun z => hK _ _ _ _ (hst.1 z) H locs ls hP hD hS hL) (fun z => hK _ _ _ _ (hst.2 z) H locs ls hP hD hS hL)
      · exact hst.elim
  case goto off =>
    simp only [Bool.and_eq_true, decide_eq_true_eq] at hc
    obtain ⟨rfl, ht⟩ := hc
    exact lv_goto hx hb hd ht (hK _ _ _ _ hst H locs ls hP hD hS hL)
  case tableswitch d lo hi offs =>
    dsimp only at hst hc
    simp only [Bool.and_eq_true, decide_eq_true_eq, List.all_eq_true] at hc
    obtain ⟨h1, h2, h3⟩ := hc
    split at hst
    · rename_i x r
      by_cases hx1 : x.toInt < lo ∨ hi < x.toInt
      · exact lv_tableOut hx hb hd hx1 (Int.toNat_of_nonneg h1).symm (hK _ _ _ _ (hst.1 hx1) H locs ls hP hD hS hL)
      · have n1 : ¬ x.toInt < lo := fun z => hx1 (Or.inl z)
        have n2 : ¬ hi < x.toInt := fun z => hx1 (Or.inr z)
        have hlt : (x.toInt - lo).toNat < offs.toList.length := by omega
        have hg : offs.toList[(x.toInt - lo).toNat]? = some (offs.toList[(x.toInt - lo).toNat]) := List.getElem?_eq_getElem hlt
        have he : swoff offs.toList (x.toInt - lo).toNat d = offs.toList[(x.toInt - lo).toNat] := by unfold swoff; rw [hg]
        have hk := hst.2 n1 n2
        rw [he] at hk
        exact lv_tableIn hx hb hd n1 n2 (by rw [← Array.getElem?_toList]; exact hg) (Int.toNat_of_nonneg (h2 _ (List.getElem_mem hlt))).symm (hK _ _ _ _ hk H locs ls hP hD hS hL)
    · exact hst.elim
  case lookupswitch d ps =>
    dsimp only at hst hc
    rw [Bool.and_eq_true] at hc
    obtain ⟨h1, h2⟩ := hc
    simp only [Bool.and_eq_true, decide_eq_true_eq, List.all_eq_true] at h2
    split at hst
    · rename_i x r
      refine lv_lookup hx hb hd h1 rfl (Int.toNat_of_nonneg ?_).symm (hK _ _ _ _ hst H locs ls hP hD hS hL)
      have key : ∀ (l : List (Int × Int)) (z : Int), (∀ o ∈ l, 0 ≤ (pc : Int) + o.2) → 0 ≤ (pc : Int) + Op.lookupswitch.offset l d z := by
        intro l z hl
        induction l with
        | nil => exact h2.1
        | cons o l ih =>
          simp only [Op.lookupswitch.offset]
          split
          · exact hl _ List.mem_cons_self
          · exact ih (fun o ho => hl o (List.mem_cons_of_mem _ ho))
      exact key _ _ h2.2
    · exact hst.elim
end AMI
