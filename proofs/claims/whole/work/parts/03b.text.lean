/-! ===== THE TEXT CONSTANT: what stands of it in every state ===== -/
def XF (t1 t2 : Nat) (A : Nat → Prop) (U : State) (H : Heap) : Prop := va_Z "java/lang/String" "COMPACT_STRINGS" "Z" (.int 1) A U H ∧ va_Zq "jdk/internal/util/Preconditions" "SIOOBE_FORMATTER" "Ljava/util/function/BiFunction;" A U H ∧ va_O "java/lang/String" t1 A U H ∧ va_OF "java/lang/String" "coder" "B" (.int 0) t1 A U H ∧ va_OF "java/lang/String" "value" "[B" (.ref t2) t1 A U H ∧ va_T .byte t2 160 (fun j => .int (strC j)) A U H
theorem XF.kept {t1 t2 : Nat} {A : Nat → Prop} {U : State} {H H1 : Heap} (h : XF t1 t2 A U H) (hq : ∀ a : Nat, a < H.size → ¬ A a → H1[a]? = H[a]?) : XF t1 t2 A U H1 := ⟨h.1.kept hq, h.2.1.kept hq, h.2.2.1.kept hq, h.2.2.2.1.kept hq, h.2.2.2.2.1.kept hq, h.2.2.2.2.2.kept hq⟩
theorem XF.moved {t1 t2 : Nat} {A : Nat → Prop} {u U : State} {H : Heap} (hvm : u.vm.Alike U.vm) (h : XF t1 t2 A u H) : XF t1 t2 A U H := ⟨va_Z.moved hvm h.1, va_Zq.moved hvm h.2.1, va_O.moved hvm h.2.2.1, va_OF.moved hvm h.2.2.2.1, va_OF.moved hvm h.2.2.2.2.1, va_T.moved hvm h.2.2.2.2.2⟩
theorem XF.narrow {t1 t2 : Nat} {A B : Nat → Prop} {U : State} {H : Heap} (h : XF t1 t2 A U H) (hAB : ∀ q, B q → A q) : XF t1 t2 B U H := ⟨h.1.narrow hAB, h.2.1.narrow hAB, h.2.2.1.narrow hAB, h.2.2.2.1.narrow hAB, h.2.2.2.2.1.narrow hAB, h.2.2.2.2.2.narrow hAB⟩
def sTxt : String := "days    person  part    from    to      kind    weighs  turn    on      never   rest    apart   beside  or      and     not     all     day     week    weekday "
/-- the cells of the text constant: none of the world's -/
def XP (ad : Nat → Nat) (NC : Nat) (U : State) : Prop := ∃ t2 : Nat, vk_R "EvenRota$Tokens" 62 sTxt (ad 1000) U ∧ ∀ A : Nat → Prop, (∀ q, A q → (∃ k, k < NC ∧ q = ad k) ∨ U.heap.size ≤ q) → XF (ad 1000) t2 A U U.heap
/-- which cells a method may change: the world's, and new ones -/
def AX (A : Nat → Prop) (ad : Nat → Nat) (NC : Nat) (s : State) : Prop := (∀ q, s.heap.size ≤ q → A q) ∧ ∀ q, A q → (∃ k, k < NC ∧ q = ad k) ∨ s.heap.size ≤ q
theorem XP_at {ad : Nat → Nat} {cy : Nat → ClassId} {sh : Nat → SH} {NC : Nat} {h : HP} {A : Nat → Prop} {s U : State} {H : Heap} {locs : List Loc} (hX : XP ad NC s) (hA : AX A ad NC s) (hD : va_D A (wsO ad cy sh NC h)) (hS : va_S A s.heap H locs) (hU : U.heap = H) (hW : s.WarmedH U.vm) : XP ad NC U := by
  obtain ⟨t2, hv, hf⟩ := hX
  refine ⟨t2, hv.warm hW, fun A' hA' => ?_⟩
  rw [hU] at hA' ⊢
  refine XF.narrow (XF.moved hW.alike ((hf A hA.2).kept hS.2.1)) (fun q hq => ?_)
  rcases hA' q hq with ⟨k, hk, rfl⟩ | hq
  · exact hD.2 k _ (wsO_get hk)
  · exact hA.1 q (Nat.le_trans hS.1 hq)
theorem AX_of {ad : Nat → Nat} {cy : Nat → ClassId} {sh : Nat → SH} {NC : Nat} {h : HP} {s : State} : AX (va_A (wsO ad cy sh NC h) s.heap.size) ad NC s := by
  refine ⟨fun q hq => Or.inr hq, fun q hq => ?_⟩
  rcases hq with ⟨k, e, hk⟩ | hq
  · have hl := (List.getElem?_eq_some_iff.mp hk).1
    have hl' : k < NC := by simpa [wsO] using hl
    rw [wsO_get hl'] at hk
    cases hk
    exact Or.inl ⟨k, hl', rfl⟩
  · exact Or.inr hq
