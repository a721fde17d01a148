/-! ===== THE ABSTRACT MACHINE IS SOUND ===== -/
section AMM
variable {l : Launch} {D : va_G} {ad : Nat → Nat} {cy : Nat → ClassId} {sh : Nat → SH} {NC : Nat}
variable {mY : Nat → MethodName} {mN : Nat → Nat} {mB : Nat → ByteArray} {mL : Nat → Nat} {mR : Nat → Option FieldType} {mP : Nat → Nat × Nat × Nat × Nat} {cd : Nat → Nat → Option ENT}
/-- what the tables must bear out -/
def TOK (sh : Nat → SH) (NC : Nat) (mY : Nat → MethodName) (mN : Nat → Nat) (mB : Nat → ByteArray) (mL : Nat → Nat) (mR : Nat → Option FieldType) (mP : Nat → Nat × Nat × Nat × Nat) (cd : Nat → Nat → Option ENT) : Prop :=
  (∀ k, NC ≤ k → sh k = .inl (9, 0)) ∧ (∀ {k ci b : Nat} {fl : List Nat}, sh k = .inr (ci, fl) → fl[b]? = some 0 → chkP ci b .long = true → False) ∧ (∀ {k ci b : Nat} {fl : List Nat}, sh k = .inr (ci, fl) → fl[b]? = some 1 → chkP ci b .int = true → False) ∧
  (∀ a, mN a < 99 → Cond.code (mY a) (mB a) (mL a) (mR a) ∈ gW ∧ chkM mY mL mN mP a = true) ∧ (∀ j pc E, cd j pc = some E → mN j < 99 ∧ chk1 mY mN (mB j) (mY j).cls (mR j) pc E = true)
theorem met_of (hT : TOK sh NC mY mN mB mL mR mP cd) {n d j : Nat} {as : List Value} {h : HP} {k : QT} (hj : mN j < 99)
    (IH : ∀ {p : Program} {e : Env} {s : State} {m : MethodId} {args : Array Value} {below : List Frame} {meth : Method} {c0 : Code} {A : Nat → Prop}, CX D cy (mB j) (mY j).cls (mL j) (mR j) p s m args meth c0 → XP ad NC s → AX A ad NC s → GW p l e (rmD d) s m args below meth c0 (MQ below (Qw D ad cy sh NC k A) args s 0 0 A) D ad cy sh NC A (mL j) 0 (lent (mL j) as) [] h)
    (hlen : (largs as).length ≤ mL j) (sz : Nat) : Met l (mY j) (.code (mY j) (mB j) (mL j) (mR j) :: gW) (rmD d) (va_Pc (as.map (cv ad)) (Pw D ad cy sh NC h sz)) (Qw D ad cy sh NC k (va_A (wsO ad cy sh NC h) sz)) 0 0 (va_A (wsO ad cy sh NC h) sz) := by
  obtain ⟨m1, hm⟩ := hT.2.2.2.1 j hj
  unfold chkM at hm
  simp only [Bool.and_eq_true, decide_eq_true_eq] at hm
  obtain ⟨m2, m3, m4, m5, -⟩ := hm
  refine va_MetF (cc := mB j) (maxL := mL j) (ret := mR j) m3 rfl ?_
  intro p e s m args below meth c s₁ B hml hv
  obtain ⟨rfl, hsz, hP, hK, hD0, hnw, hX⟩ := hv
  have hts := atoms_spec (ws := .code (mY j) (mB j) (mL j) (mR j) :: gW) B.pre
  subst hsz
  rw [lg_entry_eq]
  exact IH (A := va_A (wsO ad cy sh NC h) s.heap.size) ⟨B.exec, B.bytes, B.returns, hml, findClass_of_methodNamed B.named, B.notSynchronized, fun w hw => hts w (List.mem_cons_of_mem _ hw), hnw, hK⟩ hX AX_of s.heap [] _ hP hD0.self va_S.rf (LR.entry ad hlen)
theorem snd_wp (hT : TOK sh NC mY mN mB mL mR mP cd) : ∀ (n d j pc : Nat) (L S : List Value) (h : HP) (Q : QT), wp sh cd mL n d j pc L S h Q → ∀ {p : Program} {e : Env} {s : State} {m : MethodId} {args : Array Value} {below : List Frame} {meth : Method} {c0 : Code} {A : Nat → Prop}, CX D cy (mB j) (mY j).cls (mL j) (mR j) p s m args meth c0 → XP ad NC s → AX A ad NC s → GW p l e (rmD d) s m args below meth c0 (MQ below (Qw D ad cy sh NC Q A) args s 0 0 A) D ad cy sh NC A (mL j) pc L S h := by
  intro n
  induction n with
  | zero => intro d j pc L S h Q hw; exact False.elim hw
  | succ n ih =>
    intro d j pc L S h Q hw p e s m args below meth c0 A cx hX hA
    unfold wp at hw
    cases hcd : cd j pc with
    | none => rw [hcd] at hw; exact False.elim hw
    | some E =>
      rw [hcd] at hw
      dsimp only at hw
      obtain ⟨hj, hchk⟩ := hT.2.2.2.2 j pc E hcd
      have hK : ∀ pc' L' S' h', wp sh cd mL n d j pc' L' S' h' Q → GW p l e (rmD d) s m args below meth c0 (MQ below (Qw D ad cy sh NC Q A) args s 0 0 A) D ad cy sh NC A (mL j) pc' L' S' h' := fun pc' L' S' h' hw' => ih d j pc' L' S' h' Q hw' cx hX hA
      have hC : hCs l (rmD d) D ad cy sh NC mY mB mL mR (fun j' as h' k => wpc d (Nat.ble (largs as).length (mL j')) (fun d' => wp sh cd mL n d' j' 0 (lent (mL j') as) [] h' k)) := by
        intro j' as h' k hc
        cases d with
        | zero => exact False.elim hc
        | succ d' =>
          unfold wpc at hc
          dsimp only at hc
          cases hb : Nat.ble (largs as).length (mL j') with
          | false => rw [hb] at hc; exact False.elim hc
          | true =>
            rw [hb] at hc
            have hc : wp sh cd mL n d' j' 0 (lent (mL j') as) [] h' k := hc
            refine ⟨d', rfl, fun sz => ?_⟩
            have hj' : mN j' < 99 := by
              cases n with
              | zero => exact False.elim hc
              | succ n =>
                unfold wp at hc
                cases hz : cd j' 0 with
                | none => rw [hz] at hc; exact False.elim hc
                | some E' => exact (hT.2.2.2.2 j' 0 E' hz).1
            exact met_of hT (n := n) hj' (fun {p e s m args below meth c0 A} cx hX hA => ih d' j' 0 (lent (mL j') as) [] h' k hc cx hX hA) (Nat.le_of_ble_eq_true hb) sz
      cases hr : rest1 E.1 with
      | false => exact snd_plain cx hX hr hchk hK hw
      | true =>
        obtain ⟨ins, len, a, b, c, q, vi, vl⟩ := E
        cases ins <;> first
          | (cases hr; done)
          | exact snd_cell cx hT.1 hT.2.1 hT.2.2.1 rfl hchk hK hw
          | exact snd_ret cx (Or.inl rfl) hchk hw
          | exact snd_ret cx (Or.inr (Or.inl rfl)) hchk hw
          | exact snd_ret cx (Or.inr (Or.inr rfl)) hchk hw
          | exact snd_virt cx ⟨d, rfl⟩ hX hT.1 hA hT.2.2.2.1 hchk hK hC hw
          | exact snd_stat cx hX hT.1 hA ⟨d, rfl⟩ hT.2.2.2.1 hchk hK hC hw
/-- a method's contract, out of its run on the abstract machine -/
theorem snd_met (hT : TOK sh NC mY mN mB mL mR mP cd) {n d j : Nat} {as : List Value} {h : HP} {k : QT} (hlen : (largs as).length ≤ mL j) (hw : wp sh cd mL n d j 0 (lent (mL j) as) [] h k) (sz : Nat) : Met l (mY j) (.code (mY j) (mB j) (mL j) (mR j) :: gW) (rmD d) (va_Pc (as.map (cv ad)) (Pw D ad cy sh NC h sz)) (Qw D ad cy sh NC k (va_A (wsO ad cy sh NC h) sz)) 0 0 (va_A (wsO ad cy sh NC h) sz) := by
  have hj : mN j < 99 := by
    cases n with
    | zero => exact False.elim hw
    | succ n =>
      unfold wp at hw
      cases hz : cd j 0 with
      | none => rw [hz] at hw; exact False.elim hw
      | some E' => exact (hT.2.2.2.2 j 0 E' hz).1
  exact met_of hT (n := n) hj (fun {p e s m args below meth c0 A} cx hX hA => snd_wp hT n d j 0 (lent (mL j) as) [] h k hw cx hX hA) hlen sz
end AMM
