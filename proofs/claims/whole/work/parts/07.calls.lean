/-! ===== CALLS ===== -/
def chkM (mY : Nat → MethodName) (mL : Nat → Nat) (mN : Nat → Nat) (mP : Nat → Nat × Nat × Nat × Nat) (j : Nat) : Bool :=
  inT (mP j).2.1 (.initialized (mY j).cls) && (plainFor (mY j) && (decide ((mY j).cls ≠ "java/lang/invoke/MethodHandle" ∧ (mY j).cls ≠ "java/lang/invoke/VarHandle") && (decide (mL j + 19 ≤ 64) &&
  (if mN j < 50 then decide ((parseMethodDescriptor (mY j).desc).map (fun d => d.parameters.length) = some (mN j)) && (inT (mP j).2.2.1 (.instanceMethod (mY j)) && inT (mP j).2.2.2 (.selects (mY j).cls (mY j) (mY j)))
   else decide ((parseMethodDescriptor (mY j).desc).map (fun d => d.parameters.length) = some (mN j - 50)) && inT (mP j).2.2.1 (.static (mY j))))))
theorem nW_nest {w : Cond} (h : w ∈ nW) : isNest w = true := (List.mem_filter.mp h).2
theorem nest_tab {w : Cond} (h : isNest w = true) : w.onTables = true := by
  cases w <;> first | rfl | (simp [isNest] at h; done)
theorem nest_warm {w : Cond} (h : isNest w = true) {s U : State} (hW : s.WarmedH U.vm) (hw : va_Nw w s) : va_Nw w U := by
  cases w <;> first | exact va_Nw.warmF hW hw | exact va_Nw.warmM hW hw | (simp [isNest] at h; done)
theorem Pw_blind {D : va_G} {ad : Nat → Nat} {cy : Nat → ClassId} {sh : Nat → SH} {NC : Nat} {h : HP} {sz : Nat} {vs : List Value} : FrameBlind (va_Pc vs (Pw D ad cy sh NC h sz)) := by
  intro a U g mk q
  obtain ⟨q0, q1, qP, qK, qD, qN, t2, qV, qX⟩ := q
  exact ⟨q0, q1, qP, va_K.moved (u := U) (U := U.calling g mk a) (Vm.Alike.refl U.vm) qK, qD, fun w hw => va_Nw.same (nest_tab (nW_nest hw)) (rfl : U.vm = (U.calling g mk a).vm) (qN w hw), t2, vk_R.same (u := U) rfl qV, fun A hA => XF.moved (u := U) (U := U.calling g mk a) (Vm.Alike.refl U.vm) (qX A hA)⟩
theorem lcat_sum (ad : Nat → Nat) : ∀ S : List Value, ((S.map (cv ad)).map fun v => v.category).sum = lcat S
  | [] => rfl
  | v :: r => by
    have := lcat_sum ad r
    simp only [List.map_cons, List.sum_cons, lcat, cv_cat, this]
theorem split_at {S : List Value} {b : Nat} {x : Value} (h : S[b]? = some x) : S = S.take b ++ x :: S.drop (b + 1) := by
  obtain ⟨hl, hx⟩ := List.getElem?_eq_some_iff.mp h
  have := List.take_append_drop b S
  rw [List.drop_eq_getElem_cons hl, hx] at this
  exact this.symm
section AMC
variable {p : Program} {l : Launch} {e : Env} {R : Room} {s : State} {m : MethodId} {args : Array Value} {below : List Frame} {meth : Method} {c0 : Code} {QQ : State → Prop} {D : va_G} {ad : Nat → Nat} {cy : Nat → ClassId} {sh : Nat → SH} {NC : Nat} {A : Nat → Prop} {nL : Nat}
variable {bytes : ByteArray} {own : String} {ret : Option FieldType} {mY : Nat → MethodName} {mN : Nat → Nat} {mB : Nat → ByteArray} {mL : Nat → Nat} {mR : Nat → Option FieldType} {mP : Nat → Nat × Nat × Nat × Nat}
theorem ab_call {H : Heap} {locs : List Loc} {pc : Nat} {ls : Array Slot} {st0 rest : List Value} {k : QT} {A1 : Nat → Prop} {a' : Array Value} {free : Addr → Prop} (hr : va_Run p l e R s m args below meth c0 H locs 0 0 0 0 (F0 m pc ls st0) rest (Qw D ad cy sh NC k A1 a') free) (hS : va_S A s.heap H locs) (hA : ∀ q, A1 q → A q) (hf : ∀ q, free q → A q)
    (kk : ∀ (v : Option Value) (h' : HP) (H1 : Heap) (locs1 : List Loc), k v h' → va_P D kCl (wsO ad cy sh NC h') H1 → va_D A (wsO ad cy sh NC h') → va_S A s.heap H1 locs1 → W p l e R s m args below meth c0 H1 locs1 0 0 QQ (F0 m (pc + 3) ls ((v.map (cv ad)).toList ++ rest))) : W p l e R s m args below meth c0 H locs 0 0 QQ (F0 m pc ls st0) := by
  intro T hT X
  obtain ⟨v, st₀, t, T', L, h0, X', hL, e1, e2, ⟨⟨w, h', hv, hp, hP1, hK1, hD1⟩, hz, hk⟩, st⟩ := hr T hT X
  cases hv
  rw [h0] at hz hk
  obtain ⟨t2, a1, b1⟩ := kk w h' T'.heap (locs ++ L) hp (by rw [e1]; exact hP1) ⟨hD1.1, fun i q hq => hA _ (hD1.2 i q hq)⟩
    ⟨Nat.le_trans hS.1 (by rw [e1]; exact hz), fun q h1 h2 => by rw [e1, hk q (Nat.lt_of_lt_of_le h1 hS.1) (fun z => h2 (hA q z))]; exact hS.2.1 q h1 h2, fun q hq => by
      rcases List.mem_append.mp hq with h | h
      · exact hS.2.2 q h
      · exact hf _ (hL q h)⟩ T' rfl X'
  exact ⟨t2, st t2 a1, b1⟩
theorem A1_sub {h : HP} {H : Heap} {locs : List Loc} (hD : va_D A (wsO ad cy sh NC h)) (hS : va_S A s.heap H locs) (hA : ∀ q, s.heap.size ≤ q → A q) : ∀ q, va_A (wsO ad cy sh NC h) H.size q → A q := by
  intro q hq
  rcases hq with ⟨k, e, hk⟩ | hq
  · exact hD.2 k _ hk
  · exact hA q (Nat.le_trans hS.1 hq)
theorem Pw_at {h : HP} {H : Heap} {locs : List Loc} {vs : List Value} (hP : va_P D kCl (wsO ad cy sh NC h) H) (hD : va_D A (wsO ad cy sh NC h)) (hS : va_S A s.heap H locs) (hK0 : va_K D kCl (tyL cy) s) (hnw : ∀ w ∈ nW, va_Nw w s) (hX : XP ad NC s) (hA : AX A ad NC s) : ∀ U : State, U.heap = H → s.WarmedH U.vm → va_Pc vs (Pw D ad cy sh NC h H.size) vs.toArray U := fun U hU hW =>
  ⟨rfl, by rw [hU], by rw [hU]; exact hP, va_K.moved hW.alike hK0, ⟨hD.1, fun _ _ _ => trivial⟩, fun w hw => nest_warm (nW_nest hw) hW (hnw w hw), XP_at hX hA hD hS hU hW⟩
def hCs (l : Launch) (R : Room) (D : va_G) (ad : Nat → Nat) (cy : Nat → ClassId) (sh : Nat → SH) (NC : Nat) (mY : Nat → MethodName) (mB : Nat → ByteArray) (mL : Nat → Nat) (mR : Nat → Option FieldType) (C : CT) : Prop :=
  ∀ (j : Nat) (as : List Value) (h : HP) (k : QT), C j as h k → ∃ d', R = rmD (d' + 1) ∧ ∀ sz : Nat, Met l (mY j) (.code (mY j) (mB j) (mL j) (mR j) :: gW) (rmD d') (va_Pc (as.map (cv ad)) (Pw D ad cy sh NC h sz)) (Qw D ad cy sh NC k (va_A (wsO ad cy sh NC h) sz)) 0 0 (va_A (wsO ad cy sh NC h) sz)
theorem room_ok {d' n : Nat} (h : n + 19 ≤ 64) : (rmD d').frames + 1 ≤ (rmD (d' + 1)).frames ∧ 8 + (n + 11) + (rmD d').locals ≤ (rmD (d' + 1)).locals := by
  simp only [rmD]
  omega
set_option maxHeartbeats 4000000 in
theorem snd_virt (cx : CX D cy bytes own nL ret p s m args meth c0) (hRd : ∃ d, R = rmD d) (hX : XP ad NC s) (hNC : ∀ k, NC ≤ k → sh k = .inl (9, 0)) (hA : AX A ad NC s) (hM : ∀ a, mN a < 99 → Cond.code (mY a) (mB a) (mL a) (mR a) ∈ gW ∧ chkM mY mL mN mP a = true) {i len a b c q : Nat} {vi : Int32} {vl : Int64} {pc : Nat} {L S : List Value} {h : HP} {K : KT} {C : CT} {Q : QT} (hc : chk1 mY mN bytes own ret pc (.invokevirtual i, len, a, b, c, q, vi, vl) = true)
    (hK : ∀ pc' L' S' h', K pc' L' S' h' → GW p l e R s m args below meth c0 QQ D ad cy sh NC A nL pc' L' S' h') (hC : hCs l R D ad cy sh NC mY mB mL mR C) (hst : st1 sh (.invokevirtual i, len, a, b, c, q, vi, vl) pc L S h K C Q) : GW p l e R s m args below meth c0 QQ D ad cy sh NC A nL pc L S h := by
  intro H locs ls hP hD hS hL
  obtain ⟨hx, hb, hr, hml, hown, hlk, hts, hnw, hK0⟩ := id cx
  unfold st1 at hst
  unfold chk1 at hc
  by_cases hc77 : c = 77
  · subst hc77
    dsimp only at hc
    simp only [Bool.and_eq_true, decide_eq_true_eq, if_true] at hc
    obtain ⟨hd, rfl, hlink⟩ := hc
    dsimp only [Nat.beq, cond] at hst
    split at hst
    · rename_i i' k r
      cases hk1 : Nat.beq k 1000 with
      | false => rw [hk1] at hst; exact False.elim hst
      | true =>
        rw [hk1] at hst
        have hkk := Nat.eq_of_beq_eq_true hk1
        subst hkk
        obtain ⟨hin, hst⟩ := hst
        cases hcat : Nat.ble (lcat r) 8 with
        | false => rw [hcat] at hst; exact False.elim hst
        | true =>
          rw [hcat] at hst
          have hcat' : lcat r ≤ 8 := Nat.le_of_ble_eq_true hcat
          obtain ⟨d, rfl⟩ := hRd
          obtain ⟨t2, hv, hf⟩ := hX
          have hF := (hf A hA.2).kept hS.2.1
          have hJ : ∀ U : State, U.heap = H → s.WarmedH U.vm → JX (ad 1000) t2 U := fun U hU hW => by
            unfold JX
            rw [hU]
            exact XF.narrow (XF.moved hW.alike hF) (fun _ z => z.elim)
          have hrec : ∃ cellB : Cell, H[ad 1000]? = some cellB ∧ cellB.vm.isStatics = false ∧ s.vm.findClass "java/lang/String" = some cellB.cls := by
            obtain ⟨cell, g1, g2, g3, -⟩ := hF.2.2.1
            exact ⟨cell, g1, g2, g3⟩
          refine js_call (va_runV (C := "java/lang/String") (As := [.int i']) (rest := r.map (cv ad)) ⟨hx, hb, hml, hown, hts⟩ (met_charAt l (ad 1000) t2 i' hin) (cwV 1 hts (good_all fun w hw => ?_) rfl rfl rfl (by decide +kernel) ?_) ⟨JX_blind, hrec, fun U hU hW => ⟨rfl, hJ U hU hW⟩⟩ rfl rfl hL.2.1 rfl (lv_room (by rw [lcat_sum]; exact hcat')) hd ⟨Nat.zero_le _, Nat.zero_le _⟩) (hK _ _ _ _ hst H locs ls hP hD hS hL)
          · rcases List.mem_append.mp hw with hw | hw
            · simp only [List.mem_cons, List.not_mem_nil, or_false] at hw
              rcases hw with rfl | rfl | rfl | rfl
              · exact inT_gW hlink rfl
              · exact jwi (k := 8) rfl
              · exact jwi (k := 9) rfl
              · exact jwi (k := 5) rfl
            · exact good_code (jwi (k := 0) rfl) w hw
          · simp only [rmD, rmJ]
            omega
    · exact hst.elim
  dsimp only at hc
  rw [if_neg hc77] at hc
  simp only [Bool.and_eq_true, Bool.or_eq_true, decide_eq_true_eq] at hc
  obtain ⟨hd, rfl, hn, ⟨hb40, hc20⟩, hcls, hlink⟩ := hc
  dsimp only at hst
  have h77 : Nat.beq c 77 = false := by
    cases hz : Nat.beq c 77 with
    | false => rfl
    | true => exact absurd (Nat.eq_of_beq_eq_true hz) (by omega)
  rw [h77] at hst
  dsimp only [cond] at hst
  split at hst
  · rename_i k hSb
    split at hst
    · rename_i ci fl hsk
      cases hci : Nat.beq ci c with
      | false => rw [hci] at hst; exact False.elim hst
      | true =>
        rw [hci] at hst
        have hcc := Nat.eq_of_beq_eq_true hci
        subst hcc
        dsimp only [cond] at hst
        cases hcat : Nat.ble (lcat (S.drop (b + 1))) 8 with
        | false => rw [hcat] at hst; exact False.elim hst
        | true =>
          rw [hcat] at hst
          dsimp only at hst
          have hcat' : lcat (S.drop (b + 1)) ≤ 8 := Nat.le_of_ble_eq_true hcat
          obtain ⟨d', hR, hMet⟩ := hC _ _ _ _ hst
          subst hR
          have hmet := hMet H.size
          obtain ⟨m1, hm⟩ := hM a (by omega)
          unfold chkM at hm
          rw [if_pos (by omega)] at hm
          simp only [Bool.and_eq_true, decide_eq_true_eq] at hm
          obtain ⟨m2, m3, m4, m5, m6, m7, m8⟩ := hm
          rw [hn] at m6
          have hbl : b < S.length := (List.getElem?_eq_some_iff.mp hSb).1
          have hk : k < NC := by
            rcases Nat.lt_or_ge k NC with w | w
            · exact w
            · rw [hNC k w] at hsk; cases hsk
          have he : (wsO ad cy sh NC h)[k]? = some (ad k, .inr (ci, fl.mapIdx (fun i q => fvl ad h k i q))) := by rw [wsO_get hk, hsk]; rfl
          have hstk : S.map (cv ad) = (((S.take b).reverse).map (cv ad)).reverse ++ .ref (ad k) :: (S.drop (b + 1)).map (cv ad) := by
            conv => lhs; rw [split_at hSb]
            simp [cv]
          have hln : (((S.take b).reverse).map (cv ad)).length = b := by simp; omega
          have hrm : 2 * (F0 m pc ls (S.map (cv ad))).monitorRoom + (((S.drop (b + 1)).map (cv ad)).map fun v => v.category).sum ≤ 8 := lv_room (by rw [lcat_sum]; exact hcat')
          cases hkc : kCl[ci]? with
          | none => rw [hkc] at hcls; cases hcls
          | some r =>
            rw [hkc] at hcls
            have hcl : r.1 = (mY a).cls := Option.some.inj hcls
            have hrec := va_recv hK0 hP hkc he
            rw [hcl] at hrec
            have hpre : PreV s H (mY a).cls (ad k) (va_Pc ((Value.ref k :: (S.take b).reverse).map (cv ad)) (Pw D ad cy sh NC h H.size)) (((S.take b).reverse).map (cv ad)) :=
              ⟨Pw_blind, hrec, Pw_at hP hD hS hK0 hnw hX hA⟩
            have hsub := A1_sub (ad := ad) (cy := cy) (sh := sh) (NC := NC) hD hS hA.1
            have cont : ∀ (v : Option Value) (h' : HP) (H1 : Heap) (locs1 : List Loc), K (pc + 3) L (v.toList ++ S.drop (b + 1)) h' → va_P D kCl (wsO ad cy sh NC h') H1 → va_D A (wsO ad cy sh NC h') → va_S A s.heap H1 locs1 → W p l e (rmD (d' + 1)) s m args below meth c0 H1 locs1 0 0 QQ (F0 m (pc + 3) ls ((v.map (cv ad)).toList ++ (S.drop (b + 1)).map (cv ad))) := by
              intro v h' H1 locs1 hk g1 g2 g3
              have := hK _ _ _ _ hk H1 locs1 ls g1 g2 g3 hL
              rw [List.map_append] at this
              cases v <;> exact this
            have hgood : ∀ w ∈ Cond.code (mY a) (mB a) (mL a) (mR a) :: gW, w ∈ gW := fun w hw => by
              rcases List.mem_cons.mp hw with rfl | hw
              · exact m1
              · exact hw
            rcases hlink with hlink | hlink
            · refine ab_call (va_runV (C := (mY a).cls) ⟨hx, hb, hml, hown, hts⟩ hmet (cwV b hts (good_all fun w hw => ?_) rfl rfl rfl ⟨rfl, m4.1, m4.2, m6⟩ (room_ok m5)) hpre rfl hln hL.2.1 hstk hrm hd ⟨Nat.le_refl _, Nat.le_refl _⟩) hS hsub hsub cont
              unfold wsV at hw
              rcases List.mem_append.mp hw with hw | hw
              · simp only [List.mem_cons, List.not_mem_nil, or_false] at hw
                rcases hw with rfl | rfl | rfl | rfl
                · exact inT_gW hlink rfl
                · exact inT_gW m7 rfl
                · exact inT_gW m8 rfl
                · exact inT_gW m2 rfl
              · exact hgood w hw
            · exact ab_call (va_runVN (C := (mY a).cls) ⟨hx, hb, hml, hown, hts⟩ hmet ⟨va_cnB b hts (good_all hgood) rfl rfl rfl (hnw _ (inT_nW hlink rfl)) (hts _ (inT_gW m2 rfl)) ⟨m4.1, m4.2, m6⟩ (room_ok m5), hts _ (inT_gW m7 rfl), hts _ (inT_gW m8 rfl)⟩ hpre rfl hln hL.2.1 hstk hrm hd ⟨Nat.le_refl _, Nat.le_refl _⟩) hS hsub hsub cont
    · exact hst.elim
  · exact hst.elim
theorem cp_words : ([Cond.native arraycopyName, Cond.static arraycopyName, Cond.initialized "java/lang/System"] : List Cond).all (fun w => decide (w ∈ lw_tbl) && goodWord w) = true := by decide +kernel
set_option maxHeartbeats 4000000 in
theorem snd_stat (cx : CX D cy bytes own nL ret p s m args meth c0) (hX : XP ad NC s) (hNC : ∀ k, NC ≤ k → sh k = .inl (9, 0)) (hA : AX A ad NC s) (hRd : ∃ d, R = rmD d) (hM : ∀ a, mN a < 99 → Cond.code (mY a) (mB a) (mL a) (mR a) ∈ gW ∧ chkM mY mL mN mP a = true) {i len a b c q : Nat} {vi : Int32} {vl : Int64} {pc : Nat} {L S : List Value} {h : HP} {K : KT} {C : CT} {Q : QT} (hc : chk1 mY mN bytes own ret pc (.invokestatic i, len, a, b, c, q, vi, vl) = true)
    (hK : ∀ pc' L' S' h', K pc' L' S' h' → GW p l e R s m args below meth c0 QQ D ad cy sh NC A nL pc' L' S' h') (hC : hCs l R D ad cy sh NC mY mB mL mR C) (hst : st1 sh (.invokestatic i, len, a, b, c, q, vi, vl) pc L S h K C Q) : GW p l e R s m args below meth c0 QQ D ad cy sh NC A nL pc L S h := by
  intro H locs ls hP hD hS hL
  obtain ⟨hx, hb, hr, hml, hown, hlk, hts, hnw, hK0⟩ := id cx
  unfold st1 at hst
  unfold chk1 at hc
  by_cases hc1 : c = 1
  · subst hc1
    simp only [Bool.and_eq_true, decide_eq_true_eq, if_true] at hc
    obtain ⟨hd, rfl, hlink⟩ := hc
    dsimp only [Nat.beq, cond] at hst
    split at hst
    · rename_i n dp k2 sp k r
      split at hst
      · rename_i n0 n1 hsk hsk2
        obtain ⟨⟨h1, h2, h3, h4, h5⟩, hst⟩ := hst
        cases hcat : Nat.ble (lcat r) 8 with
        | false => rw [hcat] at hst; exact False.elim hst
        | true =>
          rw [hcat] at hst
          dsimp only at hst
          have hcat' : lcat r ≤ 8 := Nat.le_of_ble_eq_true hcat
          obtain ⟨d, rfl⟩ := hRd
          have hk : k < NC := by
            rcases Nat.lt_or_ge k NC with w | w
            · exact w
            · rw [hNC k w] at hsk; cases hsk
          have hk2 : k2 < NC := by
            rcases Nat.lt_or_ge k2 NC with w | w
            · exact w
            · rw [hNC k2 w] at hsk2; cases hsk2
          have he : (wsO ad cy sh NC h)[k]? = some (ad k, .inl (cy 0, n0, .inl (h.1 k))) := by rw [wsO_get hk, hsk]; rfl
          have he2 : (wsO ad cy sh NC h)[k2]? = some (ad k2, .inl (cy 0, n1, .inl (h.1 k2))) := by rw [wsO_get hk2, hsk2]; rfl
          have w := kin_of cp_words
          refine va_copyi hx hb (by rw [hml]; exact hL.2.1.symm) hown (hts _ (inT_gW hlink rfl)) (hts _ (w _ (by simp))) (hts _ (w _ (by simp))) (hts _ (w _ (by simp))) hK0 hP hD hS k k2 0 0 he he2 rfl rfl rfl h1 h2 h3 h4 h5 (fun _ _ => rfl) (by simp [rmD]) ?_ hd (fun H1 locs1 g1 g2 g3 => ?_)
          · rw [lcat_sum]
            have : nativeFrameWords "java/lang/System" "arraycopy" 5 ≤ 40 := by decide +kernel
            simp only [rmD]
            omega
          · rw [ws_arrI hsk2 (by decide)] at g1 g2
            exact hK _ _ _ _ hst H1 locs1 ls g1 g2 g3 hL
      · exact hst.elim
    · exact hst.elim
  · have hbq : Nat.beq c 1 = false := by
      cases hz : Nat.beq c 1 with
      | false => rfl
      | true => exact absurd (Nat.eq_of_beq_eq_true hz) hc1
    simp only [if_neg hc1, Bool.and_eq_true, Bool.or_eq_true, decide_eq_true_eq] at hc
    obtain ⟨hd, rfl, hn, hb40, hlink⟩ := hc
    dsimp only at hst
    rw [hbq] at hst
    dsimp only [cond] at hst
    cases hbl0 : Nat.ble b S.length with
    | false => rw [hbl0] at hst; exact False.elim hst
    | true =>
      rw [hbl0] at hst
      dsimp only at hst
      have hbl : b ≤ S.length := Nat.le_of_ble_eq_true hbl0
      cases hcat : Nat.ble (lcat (S.drop b)) 8 with
      | false => rw [hcat] at hst; exact False.elim hst
      | true =>
        rw [hcat] at hst
        dsimp only at hst
        have hcat' : lcat (S.drop b) ≤ 8 := Nat.le_of_ble_eq_true hcat
        obtain ⟨d', hR, hMet⟩ := hC _ _ _ _ hst
        subst hR
        have hmet := hMet H.size
        obtain ⟨m1, hm⟩ := hM a (by omega)
        unfold chkM at hm
        rw [if_neg (by omega)] at hm
        simp only [Bool.and_eq_true, decide_eq_true_eq] at hm
        obtain ⟨m2, m3, m4, m5, m6, m7⟩ := hm
        rw [hn, Nat.add_sub_cancel] at m6
        have hstk : S.map (cv ad) = (((S.take b).reverse).map (cv ad)).reverse ++ (S.drop b).map (cv ad) := by
          conv => lhs; rw [← List.take_append_drop b S]
          simp
        have hln : (((S.take b).reverse).map (cv ad)).length = b := by simp; omega
        have hrm : 2 * (F0 m pc ls (S.map (cv ad))).monitorRoom + (((S.drop b).map (cv ad)).map fun v => v.category).sum ≤ 8 := lv_room (by rw [lcat_sum]; exact hcat')
        have hpre : PreS s H (va_Pc (((S.take b).reverse).map (cv ad)) (Pw D ad cy sh NC h H.size)) (((S.take b).reverse).map (cv ad)) := ⟨Pw_blind, Pw_at hP hD hS hK0 hnw hX hA⟩
        have hsub := A1_sub (ad := ad) (cy := cy) (sh := sh) (NC := NC) hD hS hA.1
        have cont : ∀ (v : Option Value) (h' : HP) (H1 : Heap) (locs1 : List Loc), K (pc + 3) L (v.toList ++ S.drop b) h' → va_P D kCl (wsO ad cy sh NC h') H1 → va_D A (wsO ad cy sh NC h') → va_S A s.heap H1 locs1 → W p l e (rmD (d' + 1)) s m args below meth c0 H1 locs1 0 0 QQ (F0 m (pc + 3) ls ((v.map (cv ad)).toList ++ (S.drop b).map (cv ad))) := by
          intro v h' H1 locs1 hk g1 g2 g3
          have := hK _ _ _ _ hk H1 locs1 ls g1 g2 g3 hL
          rw [List.map_append] at this
          cases v <;> exact this
        have hgood : ∀ w ∈ Cond.code (mY a) (mB a) (mL a) (mR a) :: gW, w ∈ gW := fun w hw => by
          rcases List.mem_cons.mp hw with rfl | hw
          · exact m1
          · exact hw
        rcases hlink with hlink | hlink
        · refine ab_call (va_runS ⟨hx, hb, hml, hown, hts⟩ hmet (va_cwS b hts (good_all fun w hw => ?_) rfl rfl rfl ⟨m4.1, m4.2, m6⟩ (room_ok m5)) hpre rfl hln hL.2.1 hstk hrm hd ⟨Nat.le_refl _, Nat.le_refl _⟩) hS hsub hsub cont
          unfold va_wsS at hw
          rcases List.mem_append.mp hw with hw | hw
          · simp only [List.mem_cons, List.not_mem_nil, or_false] at hw
            rcases hw with rfl | rfl | rfl
            · exact inT_gW hlink rfl
            · exact inT_gW m7 rfl
            · exact inT_gW m2 rfl
          · exact hgood w hw
        · exact ab_call (va_runSN ⟨hx, hb, hml, hown, hts⟩ hmet ⟨va_cnB b hts (good_all hgood) rfl rfl rfl (hnw _ (inT_nW hlink rfl)) (hts _ (inT_gW m2 rfl)) ⟨m4.1, m4.2, m6⟩ (room_ok m5), hts _ (inT_gW m7 rfl), trivial⟩ hpre rfl hln hL.2.1 hstk hrm hd ⟨Nat.le_refl _, Nat.le_refl _⟩) hS hsub hsub cont
end AMC
