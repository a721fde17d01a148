/-! ===== THE TEXT CONSTANT: String.charAt and what it calls ===== -/
def yS_charAt : MethodName := ⟨"java/lang/String", "charAt", "(I)C"⟩
def yS_isLatin1 : MethodName := ⟨"java/lang/String", "isLatin1", "()Z"⟩
def yS_L1 : MethodName := ⟨"java/lang/StringLatin1", "charAt", "([BI)C"⟩
def yS_check : MethodName := ⟨"java/lang/String", "checkIndex", "(II)V"⟩
def yS_pre : MethodName := ⟨"jdk/internal/util/Preconditions", "checkIndex", "(IILjava/util/function/BiFunction;)I"⟩
def jw : List Cond := [.code yS_charAt prog_16_method_56_code 2 (some .char), .code yS_isLatin1 prog_16_method_154_code 1 (some .boolean), .code yS_L1 prog_17_method_2_code 2 (some .char), .code yS_check prog_16_method_155_code 2 none, .code yS_pre prog_21_method_11_code 3 (some .int),
  .initialized "java/lang/String", .initialized "java/lang/StringLatin1", .initialized "jdk/internal/util/Preconditions", .instanceMethod yS_charAt, .selects "java/lang/String" yS_charAt yS_charAt, .methodLink "java/lang/String" 492 yS_isLatin1, .instanceMethod yS_isLatin1, .selects "java/lang/String" yS_isLatin1 yS_isLatin1,
  .fieldLink "java/lang/String" 38 "java/lang/String" "COMPACT_STRINGS" "Z", .methodLink "java/lang/String" 495 yS_L1, .static yS_L1, .methodLink "java/lang/StringLatin1" 9 yS_check, .static yS_check, .fieldLink "java/lang/String" 1053 "jdk/internal/util/Preconditions" "SIOOBE_FORMATTER" "Ljava/util/function/BiFunction;", .methodLink "java/lang/String" 1059 yS_pre, .static yS_pre,
  .fieldLink "java/lang/String" 15 "java/lang/String" "coder" "B", .fieldLink "java/lang/String" 9 "java/lang/String" "value" "[B"]
theorem jw_ok : jw.all (fun w => decide (w ∈ lw_tbl) && goodWord w) = true := by decide +kernel
theorem jwi {k : Nat} {w : Cond} (h : jw[k]? = some w) : w ∈ gW := kin_of jw_ok w (List.mem_of_getElem? h)
theorem good_all {l : List Cond} (h : ∀ w ∈ l, w ∈ gW) : GoodIn gW l := fun w hw => ⟨h w hw, gW_good (h w hw)⟩
theorem good_code {w : Cond} (h : w ∈ gW) : ∀ x ∈ w :: gW, x ∈ gW := fun x hx => by
  rcases List.mem_cons.mp hx with rfl | hx
  · exact h
  · exact hx
def rmJ (k : Nat) : Room := { frames := k, cells := 0, slots := 0, locals := 32 * k }
def Qs (v : Option Value) : Array Value → State → Outcome → State → Prop := fun _ st oc t => oc = .returned v ∧ t.heap = st.heap
/-- what the String methods stand on -/
def JX (t1 t2 : Nat) (U : State) : Prop := XF t1 t2 (fun _ => False) U U.heap
theorem JX_blind {t1 t2 : Nat} {vs : List Value} : FrameBlind (va_Pc vs (JX t1 t2)) := fun a U g mk q => ⟨q.1, XF.moved (u := U) (U := U.calling g mk a) (Vm.Alike.refl U.vm) q.2⟩
theorem JT_blind {vs : List Value} : FrameBlind (va_Pc vs (fun _ => True)) := fun a U g mk q => ⟨q.1, trivial⟩
section JDK
variable {p : Program} {l : Launch} {e : Env} {R : Room} {s : State} {m : MethodId} {args : Array Value} {below : List Frame} {meth : Method} {c : Code} {H : Heap} {locs : List Loc} {cells slots : Nat} {Q : State → Prop} {pc : Nat} {ls : Array Slot} {rest st0 : List Value} {a : Array Value}
theorem js_call {v : Option Value} (hr : va_Run p l e R s m args below meth c H locs cells slots 0 0 (F0 m pc ls st0) rest (Qs v a) (fun _ => False)) (kk : W p l e R s m args below meth c H locs cells slots Q (F0 m (pc + 3) ls (v.toList ++ rest))) : W p l e R s m args below meth c H locs cells slots Q (F0 m pc ls st0) := by
  intro T hT X
  obtain ⟨v', st₀, t, T', L, h0, X', hL, e1, e2, ⟨hv, hh⟩, st⟩ := hr T hT X
  cases hv
  obtain ⟨t2, a1, b1⟩ := kk T' (by rw [e1, hh, h0]) (Stand.forget X' (fun q h => (hL q h).elim))
  exact ⟨t2, st t2 a1, b1⟩
end JDK
set_option maxHeartbeats 4000000 in
theorem met_pre (l : Launch) (i n : Int32) (r : Value) (hr0 : r.category = 1) (h0 : ¬ i < 0) (h1 : i < n) : Met l yS_pre (.code yS_pre prog_21_method_11_code 3 (some .int) :: gW) (rmJ 0) (va_Pc [.int i, .int n, r] (fun _ => True)) (Qs (some (.int i))) 0 0 (fun _ => False) := by
  refine Met.ofW (cc := prog_21_method_11_code) (maxL := 3) (ret := some .int) (by decide +kernel) rfl ?_
  intro p e s m args below meth c s₁ B hml hv
  obtain ⟨rfl, -⟩ := hv
  have hx := B.exec
  have hb := B.bytes
  have hr := B.returns
  have hlk := B.notSynchronized
  have hlen : (lg_sl [.int i, .int n, r]).length ≤ 3 := by cases r <;> first | (simp [Value.category] at hr0; done) | simp [lg_sl, Value.category]
  have hl := lv_entry [.int i, .int n, r] (n := 3) hlen
  rw [lg_entry_eq]
  generalize (lg_sl [.int i, .int n, r] ++ List.replicate (3 - (lg_sl [.int i, .int n, r]).length) Slot.unset).toArray = ls at hl ⊢
  have hl : lv_has ls 3 [(0, .int i), (1, .int n), (2, r)] := by simpa [lv_args, Value.category] using hl
  refine lv_iload_n hx hb (by decide +kernel : decode prog_21_method_11_code 0 = .ok (.iload_n 0, 1)) rfl (lv_at hl 0 rfl) ?_
  refine lv_if_lt (tgt := 9) hx hb (by decide +kernel : decode prog_21_method_11_code 1 = .ok (.ifCond .lt 8, 3)) (by decide) (fun z => absurd z h0) (fun _ => ?_)
  refine lv_iload_n hx hb (by decide +kernel : decode prog_21_method_11_code 4 = .ok (.iload_n 0, 1)) rfl (lv_at hl 0 rfl) ?_
  refine lv_iload_n hx hb (by decide +kernel : decode prog_21_method_11_code 5 = .ok (.iload_n 1, 1)) rfl (lv_at hl 1 rfl) ?_
  refine lv_icmp_lt (tgt := 16) hx hb (by decide +kernel : decode prog_21_method_11_code 6 = .ok (.if_icmp .lt 10, 3)) (by decide) (fun _ => ?_) (fun z => absurd h1 z)
  refine lv_iload_n hx hb (by decide +kernel : decode prog_21_method_11_code 16 = .ok (.iload_n 0, 1)) rfl (lv_at hl 0 rfl) ?_
  exact W.iret hx hb hr (fun t ht hW => ⟨rfl, ht⟩) (fun q hq => by cases hq) (by decide +kernel : decode prog_21_method_11_code 17 = .ok (.ireturn, 1))
set_option maxHeartbeats 4000000 in
theorem met_check (l : Launch) (t1 t2 : Nat) (i n : Int32) (h0 : ¬ i < 0) (h1 : i < n) : Met l yS_check (.code yS_check prog_16_method_155_code 2 none :: gW) (rmJ 1) (va_Pc [.int i, .int n] (JX t1 t2)) (Qs none) 0 0 (fun _ => False) := by
  refine Met.ofW (cc := prog_16_method_155_code) (maxL := 2) (ret := none) (by decide +kernel) rfl ?_
  intro p e s m args below meth c s₁ B hml hv
  obtain ⟨rfl, hX⟩ := hv
  have hx := B.exec
  have hb := B.bytes
  have hr := B.returns
  have hlk := B.notSynchronized
  have hts0 := atoms_spec (ws := .code yS_check prog_16_method_155_code 2 none :: gW) B.pre
  have hts : ∀ w ∈ gW, w.before ([.int i, .int n] : List Value).toArray s = true := fun w hw => hts0 w (List.mem_cons_of_mem _ hw)
  have hown : s.vm.findClass "java/lang/String" = some m.cls := findClass_of_methodNamed B.named
  have hl := lv_entry [.int i, .int n] (n := 2) (Nat.le_of_ble_eq_true rfl)
  rw [lg_entry_eq]
  generalize (lg_sl [.int i, .int n] ++ List.replicate (2 - (lg_sl [.int i, .int n]).length) Slot.unset).toArray = ls at hl ⊢
  have hl : lv_has ls 2 [(0, .int i), (1, .int n)] := hl
  refine lv_iload_n hx hb (by decide +kernel : decode prog_16_method_155_code 0 = .ok (.iload_n 0, 1)) rfl (lv_at hl 0 rfl) ?_
  refine lv_iload_n hx hb (by decide +kernel : decode prog_16_method_155_code 1 = .ok (.iload_n 1, 1)) rfl (lv_at hl 1 rfl) ?_
  have fin : ∀ r : Value, r.category = 1 → W p l e (headSpec (.code yS_check prog_16_method_155_code 2 none :: gW) (rmJ 1)).room s m ([.int i, .int n] : List Value).toArray below meth c s.heap [] 0 0 (MQ below (Qs none) ([.int i, .int n] : List Value).toArray s 0 0 (fun _ => False)) (F0 m 5 ls [r, .int n, .int i]) := by
    intro r hr1
    refine js_call (va_runS (As := [.int i, .int n, r]) (rest := []) ⟨hx, hb, hml, hown, hts⟩ (met_pre l i n r hr1 h0 h1) (va_cwS 3 hts (good_all fun w hw => ?_) rfl rfl rfl (by decide +kernel) ⟨Nat.le_of_ble_eq_true rfl, Nat.le_of_ble_eq_true rfl⟩) ⟨JT_blind, fun U hU hW => ⟨rfl, trivial⟩⟩ rfl rfl hl.1 rfl (lv_room (Nat.zero_le _)) (by decide +kernel : decode prog_16_method_155_code 5 = .ok (.invokestatic 1059, 3)) ⟨Nat.le_refl _, Nat.le_refl _⟩) ?_
    · rcases List.mem_append.mp hw with hw | hw
      · simp only [List.mem_cons, List.not_mem_nil, or_false] at hw
        rcases hw with rfl | rfl | rfl
        · exact jwi (k := 19) rfl
        · exact jwi (k := 20) rfl
        · exact jwi (k := 7) rfl
      · exact good_code (jwi (k := 4) rfl) w hw
    · refine lv_pop (va := .int i) hx hb (by decide +kernel : decode prog_16_method_155_code 8 = .ok (.pop, 1)) rfl ?_
      exact W.vret hx hb hr (fun t ht hW => ⟨rfl, ht⟩) (fun q hq => by cases hq) (by decide +kernel : decode prog_16_method_155_code 9 = .ok (.return_, 1))
  rcases hX.2.1 with hZ | ⟨t, hZ⟩
  · exact va_gets hx hb hZ va_S.rf hown (hts _ (jwi (k := 18) rfl)) (fun _ z => z) (by decide +kernel : decode prog_16_method_155_code 2 = .ok (.getstatic 1053, 3)) (fin .null rfl)
  · exact va_gets hx hb hZ va_S.rf hown (hts _ (jwi (k := 18) rfl)) (fun _ z => z) (by decide +kernel : decode prog_16_method_155_code 2 = .ok (.getstatic 1053, 3)) (fin (.ref t) rfl)
theorem strC_char : ∀ k, k < 160 → ((strC k &&& 255).toUInt32 % 65536).toInt32 = strC k ∧ narrow .char (.int (strC k)) = .int (strC k) := by decide +kernel
set_option maxHeartbeats 4000000 in
theorem met_L1 (l : Launch) (t1 t2 : Nat) (i : Int32) (hi : vp_in i 160) : Met l yS_L1 (.code yS_L1 prog_17_method_2_code 2 (some .char) :: gW) (rmJ 2) (va_Pc [.ref t2, .int i] (JX t1 t2)) (Qs (some (.int (strC i.toNatClampNeg)))) 0 0 (fun _ => False) := by
  refine Met.ofW (cc := prog_17_method_2_code) (maxL := 2) (ret := some .char) (by decide +kernel) rfl ?_
  intro p e s m args below meth c s₁ B hml hv
  obtain ⟨rfl, hX⟩ := hv
  have hx := B.exec
  have hb := B.bytes
  have hr := B.returns
  have hlk := B.notSynchronized
  have hts0 := atoms_spec (ws := .code yS_L1 prog_17_method_2_code 2 (some .char) :: gW) B.pre
  have hts : ∀ w ∈ gW, w.before ([.ref t2, .int i] : List Value).toArray s = true := fun w hw => hts0 w (List.mem_cons_of_mem _ hw)
  have hown : s.vm.findClass "java/lang/StringLatin1" = some m.cls := findClass_of_methodNamed B.named
  have hl := lv_entry [.ref t2, .int i] (n := 2) (Nat.le_of_ble_eq_true rfl)
  rw [lg_entry_eq]
  generalize (lg_sl [.ref t2, .int i] ++ List.replicate (2 - (lg_sl [.ref t2, .int i]).length) Slot.unset).toArray = ls at hl ⊢
  have hl : lv_has ls 2 [(0, .ref t2), (1, .int i)] := hl
  have hT := hX.2.2.2.2.2
  have hlt : i.toNatClampNeg < 160 := Nat.not_le.mp fun q => hi (Or.inr q)
  have h0 : ¬ i < 0 := fun q => hi (Or.inl q)
  have h1 : i < Int32.ofNat 160 := by
    obtain ⟨j, hj, rfl⟩ := vp_in_of hi (by decide)
    exact nI_lt hj (by decide)
  obtain ⟨k1, k2⟩ := strC_char _ hlt
  refine lv_iload_n hx hb (by decide +kernel : decode prog_17_method_2_code 0 = .ok (.iload_n 1, 1)) rfl (lv_at hl 1 rfl) ?_
  refine lv_aload_n hx hb (by decide +kernel : decode prog_17_method_2_code 1 = .ok (.aload_n 0, 1)) rfl (lv_at hl 0 rfl) ?_
  refine va_tlen hx hb hT va_S.rf rfl (by decide +kernel : decode prog_17_method_2_code 2 = .ok (.arraylength, 1)) ?_
  refine js_call (va_runS (As := [.int i, .int (Int32.ofNat 160)]) (rest := []) ⟨hx, hb, hml, hown, hts⟩ (met_check l t1 t2 i (Int32.ofNat 160) h0 h1) (va_cwS 2 hts (good_all fun w hw => ?_) rfl rfl rfl (by decide +kernel) ⟨Nat.le_of_ble_eq_true rfl, Nat.le_of_ble_eq_true rfl⟩) ⟨JX_blind, fun U hU hW => ⟨rfl, by unfold JX; rw [hU]; exact XF.moved hW.alike hX⟩⟩ rfl rfl hl.1 rfl (lv_room (Nat.zero_le _)) (by decide +kernel : decode prog_17_method_2_code 3 = .ok (.invokestatic 9, 3)) ⟨Nat.le_refl _, Nat.le_refl _⟩) ?_
  · rcases List.mem_append.mp hw with hw | hw
    · simp only [List.mem_cons, List.not_mem_nil, or_false] at hw
      rcases hw with rfl | rfl | rfl
      · exact jwi (k := 16) rfl
      · exact jwi (k := 17) rfl
      · exact jwi (k := 5) rfl
    · exact good_code (jwi (k := 3) rfl) w hw
  · refine lv_aload_n hx hb (by decide +kernel : decode prog_17_method_2_code 6 = .ok (.aload_n 0, 1)) rfl (lv_at hl 0 rfl) ?_
    refine lv_iload_n hx hb (by decide +kernel : decode prog_17_method_2_code 7 = .ok (.iload_n 1, 1)) rfl (lv_at hl 1 rfl) ?_
    refine va_tb hx hb hT va_S.rf hi rfl (by decide +kernel : decode prog_17_method_2_code 8 = .ok (.baload, 1)) ?_
    refine lv_sipush (v := 255) hx hb (by decide +kernel : decode prog_17_method_2_code 9 = .ok (.sipush 255, 3)) (by decide) ?_
    refine lv_iand hx hb (by decide +kernel : decode prog_17_method_2_code 12 = .ok (.iand, 1)) ?_
    refine lv_i2c hx hb (by decide +kernel : decode prog_17_method_2_code 13 = .ok (.i2c, 1)) k1 ?_
    exact W.zret hx hb hr k2 (fun t ht hW => ⟨rfl, ht⟩) (fun q hq => by cases hq) (by decide +kernel : decode prog_17_method_2_code 14 = .ok (.ireturn, 1))
set_option maxHeartbeats 4000000 in
theorem met_isLatin1 (l : Launch) (t1 t2 : Nat) : Met l yS_isLatin1 (.code yS_isLatin1 prog_16_method_154_code 1 (some .boolean) :: gW) (rmJ 0) (va_Pc [.ref t1] (JX t1 t2)) (Qs (some (.int 1))) 0 0 (fun _ => False) := by
  refine Met.ofW (cc := prog_16_method_154_code) (maxL := 1) (ret := some .boolean) (by decide +kernel) rfl ?_
  intro p e s m args below meth c s₁ B hml hv
  obtain ⟨rfl, hX⟩ := hv
  have hx := B.exec
  have hb := B.bytes
  have hr := B.returns
  have hlk := B.notSynchronized
  have hts0 := atoms_spec (ws := .code yS_isLatin1 prog_16_method_154_code 1 (some .boolean) :: gW) B.pre
  have hts : ∀ w ∈ gW, w.before ([.ref t1] : List Value).toArray s = true := fun w hw => hts0 w (List.mem_cons_of_mem _ hw)
  have hown : s.vm.findClass "java/lang/String" = some m.cls := findClass_of_methodNamed B.named
  have hl := lv_entry [.ref t1] (n := 1) (Nat.le_of_ble_eq_true rfl)
  rw [lg_entry_eq]
  generalize (lg_sl [.ref t1] ++ List.replicate (1 - (lg_sl [.ref t1]).length) Slot.unset).toArray = ls at hl ⊢
  have hl : lv_has ls 1 [(0, .ref t1)] := hl
  have hE : va_Ef 1 "java/lang/String" "coder" "B" (fun _ => .int 0) (fun _ => t1) (fun _ => False) s s.heap := fun _ _ => hX.2.2.2.1
  refine va_gets hx hb hX.1 va_S.rf hown (hts _ (jwi (k := 13) rfl)) (fun _ z => z) (by decide +kernel : decode prog_16_method_154_code 0 = .ok (.getstatic 38, 3)) ?_
  refine lv_if_eq (tgt := 17) hx hb (by decide +kernel : decode prog_16_method_154_code 3 = .ok (.ifCond .eq 14, 3)) (by decide) (fun z => absurd z (by decide)) (fun _ => ?_)
  refine lv_aload_n hx hb (by decide +kernel : decode prog_16_method_154_code 6 = .ok (.aload_n 0, 1)) rfl (lv_at hl 0 rfl) ?_
  refine va_getX (i := 0) (ad := fun _ => t1) hx hb hE (by decide) va_S.rf hown (hts _ (jwi (k := 21) rfl)) (fun _ z => z) (by decide +kernel : decode prog_16_method_154_code 7 = .ok (.getfield 15, 3)) ?_
  refine lv_if_ne (tgt := 17) hx hb (by decide +kernel : decode prog_16_method_154_code 10 = .ok (.ifCond .ne 7, 3)) (by decide) (fun z => absurd rfl z) (fun _ => ?_)
  refine lv_iconst (v := 1) hx hb (by decide +kernel : decode prog_16_method_154_code 13 = .ok (.iconst 1, 1)) (by decide) ?_
  refine lv_goto (tgt := 18) hx hb (by decide +kernel : decode prog_16_method_154_code 14 = .ok (.goto 4, 3)) (by decide) ?_
  exact W.zret hx hb hr rfl (fun t ht hW => ⟨rfl, ht⟩) (fun q hq => by cases hq) (by decide +kernel : decode prog_16_method_154_code 18 = .ok (.ireturn, 1))
set_option maxHeartbeats 4000000 in
theorem met_charAt (l : Launch) (t1 t2 : Nat) (i : Int32) (hi : vp_in i 160) : Met l yS_charAt (.code yS_charAt prog_16_method_56_code 2 (some .char) :: gW) (rmJ 3) (va_Pc [.ref t1, .int i] (JX t1 t2)) (Qs (some (.int (strC i.toNatClampNeg)))) 0 0 (fun _ => False) := by
  refine Met.ofW (cc := prog_16_method_56_code) (maxL := 2) (ret := some .char) (by decide +kernel) rfl ?_
  intro p e s m args below meth c s₁ B hml hv
  obtain ⟨rfl, hX⟩ := hv
  have hx := B.exec
  have hb := B.bytes
  have hr := B.returns
  have hlk := B.notSynchronized
  have hts0 := atoms_spec (ws := .code yS_charAt prog_16_method_56_code 2 (some .char) :: gW) B.pre
  have hts : ∀ w ∈ gW, w.before ([.ref t1, .int i] : List Value).toArray s = true := fun w hw => hts0 w (List.mem_cons_of_mem _ hw)
  have hown : s.vm.findClass "java/lang/String" = some m.cls := findClass_of_methodNamed B.named
  have hl := lv_entry [.ref t1, .int i] (n := 2) (Nat.le_of_ble_eq_true rfl)
  rw [lg_entry_eq]
  generalize (lg_sl [.ref t1, .int i] ++ List.replicate (2 - (lg_sl [.ref t1, .int i]).length) Slot.unset).toArray = ls at hl ⊢
  have hl : lv_has ls 2 [(0, .ref t1), (1, .int i)] := hl
  have hE : va_Ef 1 "java/lang/String" "value" "[B" (fun _ => .ref t2) (fun _ => t1) (fun _ => False) s s.heap := fun _ _ => hX.2.2.2.2.1
  have hlt : i.toNatClampNeg < 160 := Nat.not_le.mp fun q => hi (Or.inr q)
  obtain ⟨k1, k2⟩ := strC_char _ hlt
  have hrec : ∃ cellB : Cell, s.heap[t1]? = some cellB ∧ cellB.vm.isStatics = false ∧ s.vm.findClass "java/lang/String" = some cellB.cls := by
    obtain ⟨cell, g1, g2, g3, -⟩ := hX.2.2.1
    exact ⟨cell, g1, g2, g3⟩
  refine lv_aload_n hx hb (by decide +kernel : decode prog_16_method_56_code 0 = .ok (.aload_n 0, 1)) rfl (lv_at hl 0 rfl) ?_
  refine js_call (va_runV (C := "java/lang/String") (As := []) (rest := []) ⟨hx, hb, hml, hown, hts⟩ (met_isLatin1 l t1 t2) (cwV 0 hts (good_all fun w hw => ?_) rfl rfl rfl (by decide +kernel) ⟨Nat.le_of_ble_eq_true rfl, Nat.le_of_ble_eq_true rfl⟩) ⟨JX_blind, hrec, fun U hU hW => ⟨rfl, by unfold JX; rw [hU]; exact XF.moved hW.alike hX⟩⟩ rfl rfl hl.1 rfl (lv_room (Nat.zero_le _)) (by decide +kernel : decode prog_16_method_56_code 1 = .ok (.invokevirtual 492, 3)) ⟨Nat.le_refl _, Nat.le_refl _⟩) ?_
  · rcases List.mem_append.mp hw with hw | hw
    · simp only [List.mem_cons, List.not_mem_nil, or_false] at hw
      rcases hw with rfl | rfl | rfl | rfl
      · exact jwi (k := 10) rfl
      · exact jwi (k := 11) rfl
      · exact jwi (k := 12) rfl
      · exact jwi (k := 5) rfl
    · exact good_code (jwi (k := 1) rfl) w hw
  · refine lv_if_eq (x := 1) (tgt := 16) hx hb (by decide +kernel : decode prog_16_method_56_code 4 = .ok (.ifCond .eq 12, 3)) (by decide) (fun z => absurd z (by decide)) (fun _ => ?_)
    refine lv_aload_n hx hb (by decide +kernel : decode prog_16_method_56_code 7 = .ok (.aload_n 0, 1)) rfl (lv_at hl 0 rfl) ?_
    refine va_getX (i := 0) (ad := fun _ => t1) hx hb hE (by decide) va_S.rf hown (hts _ (jwi (k := 22) rfl)) (fun _ z => z) (by decide +kernel : decode prog_16_method_56_code 8 = .ok (.getfield 9, 3)) ?_
    refine lv_iload_n hx hb (by decide +kernel : decode prog_16_method_56_code 11 = .ok (.iload_n 1, 1)) rfl (lv_at hl 1 rfl) ?_
    refine js_call (va_runS (As := [.ref t2, .int i]) (rest := []) ⟨hx, hb, hml, hown, hts⟩ (met_L1 l t1 t2 i hi) (va_cwS 2 hts (good_all fun w hw => ?_) rfl rfl rfl (by decide +kernel) ⟨Nat.le_of_ble_eq_true rfl, Nat.le_of_ble_eq_true rfl⟩) ⟨JX_blind, fun U hU hW => ⟨rfl, by unfold JX; rw [hU]; exact XF.moved hW.alike hX⟩⟩ rfl rfl hl.1 rfl (lv_room (Nat.zero_le _)) (by decide +kernel : decode prog_16_method_56_code 12 = .ok (.invokestatic 495, 3)) ⟨Nat.le_refl _, Nat.le_refl _⟩) ?_
    · rcases List.mem_append.mp hw with hw | hw
      · simp only [List.mem_cons, List.not_mem_nil, or_false] at hw
        rcases hw with rfl | rfl | rfl
        · exact jwi (k := 14) rfl
        · exact jwi (k := 15) rfl
        · exact jwi (k := 6) rfl
      · exact good_code (jwi (k := 2) rfl) w hw
    · exact W.zret hx hb hr k2 (fun t ht hW => ⟨rfl, ht⟩) (fun q hq => by cases hq) (by decide +kernel : decode prog_16_method_56_code 15 = .ok (.ireturn, 1))
