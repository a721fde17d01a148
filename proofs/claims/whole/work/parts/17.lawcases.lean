/-! THE CLAIM OUT OF ONE WALK OF THE LAW'S BODY. Your part is whole_start (and what it stands on); all else here is the same for every law, but numbers. -/
def R_law : String := "EvenRotaLaw"
def lw_P (b : Addr) (xs : List Int32) (args : Array Value) (s : State) : Prop := args = #[.ref b] ∧ s.IntsAt b xs ∧ xs.length ≤ 3072 ∧ (Jvm.Cond.and given_1 narrow_1).before args s = true
def lw_Q (_ : Array Value) (s : State) (o : Outcome) (t : State) : Prop := o = .returned (some (.int 1)) ∧ Framed s o t [] 600000 7302250
def lw_Z (below : List Frame) (a : Array Value) (s : State) : State → Prop := fun t => ∃ o, t.status = .running ∧ Ended t below o ∧ lw_Q a s o t
/-- the law's own end, with 1 on the stack, nothing written that was there before, its room as the claim has it -/
theorem lw_ret {p : Program} {l : Launch} {e : Env} {s : State} {m : MethodId} {below : List Frame} {meth : Method} {c : Code} {b : Nat} (hx : p.tables.exec = Jvm.exec) (hb : c.code = code) (hr : meth.sig.returnType = ret) (hlocks : meth.locks = false) {pc : Nat} {H : Heap} {ls : Array Slot} (hdg : decode code pc = .ok (.ireturn, 1)) : W p l e room_1 s m #[Value.ref b] below meth c H [] 600000 7302250 (lw_Z below #[Value.ref b] s) (F0 m pc ls [.int 1]) := by
  intro T hT X
  obtain ⟨fs, hret, hrun, hended, hW, hframe⟩ := X.leave (v := some (.int 1)) (hlocks := hlocks) (fun h => by rw [hr] at h; cases h)
  have hmeth' : T.vm.method? m = some meth := X.method'
  refine ⟨T.setFrames fs, ?_, .returned (some (.int 1)), hrun, hended, rfl, ⟨_, rfl⟩, hW, hframe⟩
  jvm_step X.here [X.here.top, hx, hb, hdg, hmeth', hr, ret, narrow_b1]
  (try refine ⟨rfl, ?_⟩); (try refine ⟨rfl, ?_⟩)
  first | (intro acts; rw [hret _ acts rfl rfl rfl]) | rw [hret _ _ rfl rfl rfl]
  exact Steps.refl _
/-- what holds at the law's entry: the machine, the code, the tables' words (any of lw_tbl by 'hts w (by decide +kernel)'), the script of L ints xs at the cell b, what the Statement gives of the start (any of its parts by flat_of_before) -/
def lw_At (p : Program) (s : State) (m : MethodId) (meth : Method) (c : Code) (b L : Nat) (xs : Nat → Int32) : Prop :=
  p.tables.exec = Jvm.exec ∧ c.code = code ∧ meth.sig.returnType = ret ∧ c.maxLocals = 4 ∧ s.vm.findClass R_law = some m.cls ∧ (∀ w ∈ lw_tbl, w.before #[Value.ref b] s = true) ∧ va_X b L xs s s.heap ∧ b < s.heap.size ∧ meth.locks = false ∧ (Jvm.Cond.and given_1 narrow_1).before #[Value.ref b] s = true

/-- how deep the runs may call -/
abbrev DD : Nat := 60
def opI (Inv : HP → Prop) (jC jM : Nat) (as : List Value) : Prop := ∀ h, Inv h → ∃ (v : Int32) (h1 h2 : HP), Run DD jC (.ref 0 :: as) h (some (.int v)) h1 ∧ Run DD jM (.ref 65 :: as) h1 (some (.int v)) h2 ∧ Inv h2
def opL (Inv : HP → Prop) (jC jM : Nat) (as : List Value) : Prop := ∀ h, Inv h → ∃ (v : Int64) (h1 h2 : HP), Run DD jC (.ref 0 :: as) h (some (.long v)) h1 ∧ Run DD jM (.ref 65 :: as) h1 (some (.long v)) h2 ∧ Inv h2
theorem ab_callG {p : Program} {l : Launch} {e : Env} {R : Room} {s : State} {m : MethodId} {args : Array Value} {below : List Frame} {meth : Method} {c0 : Code} {QQ : State → Prop} {D : va_G} {ad : Nat → Nat} {cy : Nat → ClassId} {sh : Nat → SH} {NC : Nat} {A : Nat → Prop} {cells slots : Nat} {H : Heap} {locs : List Loc} {pc : Nat} {ls : Array Slot} {st0 rest : List Value} {k : QT} {A1 : Nat → Prop} {a' : Array Value} {free : Addr → Prop} (hr : va_Run p l e R s m args below meth c0 H locs cells slots 0 0 (F0 m pc ls st0) rest (Qw D ad cy sh NC k A1 a') free) (hS : va_S A s.heap H locs) (hA : ∀ q, A1 q → A q) (hf : ∀ q, free q → A q)
    (kk : ∀ (v : Option Value) (h' : HP) (H1 : Heap) (locs1 : List Loc), k v h' → va_P D kCl (wsO ad cy sh NC h') H1 → va_D A (wsO ad cy sh NC h') → va_S A s.heap H1 locs1 → W p l e R s m args below meth c0 H1 locs1 cells slots QQ (F0 m (pc + 3) ls ((v.map (cv ad)).toList ++ rest))) : W p l e R s m args below meth c0 H locs cells slots QQ (F0 m pc ls st0) := by
  intro T hT X
  obtain ⟨v, st₀, t, T', L, h0, X', hL, e1, e2, ⟨⟨w, h', hv, hp, hP1, hK1, hD1⟩, hz, hk⟩, st⟩ := hr T hT X
  cases hv
  rw [h0] at hz hk
  obtain ⟨t2, a1, b1⟩ := kk w h' T'.heap (locs ++ L) hp (by rw [e1]; exact hP1) ⟨hD1.1, fun i q hq => hA _ (hD1.2 i q hq)⟩
    ⟨Nat.le_trans hS.1 (by rw [e1]; exact hz), fun q h1 h2 => by rw [e1, hk q (Nat.lt_of_lt_of_le h1 hS.1) (fun z => h2 (hA q z))]; exact hS.2.1 q h1 h2, fun q hq => by
      rcases List.mem_append.mp hq with h | h
      · exact hS.2.2 q h
      · exact hf _ (hL q h)⟩ T' rfl X'
  exact ⟨t2, st t2 a1, b1⟩
section LAW
variable {p : Program} {l : Launch} {e : Env} {s : State} {m : MethodId} {below : List Frame} {meth : Method} {c : Code} {b L : Nat} {xs : Nat → Int32} {D : va_G} {ad : Nat → Nat} {cy : Nat → ClassId}
/-- what stands all along the law's walk -/
def lw_C (p : Program) (s : State) (m : MethodId) (meth : Method) (c : Code) (b L : Nat) (xs : Nat → Int32) (D : va_G) (ad : Nat → Nat) (cy : Nat → ClassId) : Prop := lw_At p s m meth c b L xs ∧ va_K D kCl (tyL cy) s ∧ XP ad 121 s
def LW (p : Program) (l : Launch) (e : Env) (s : State) (m : MethodId) (below : List Frame) (meth : Method) (c : Code) (b : Nat) (D : va_G) (ad : Nat → Nat) (cy : Nat → ClassId) (i pc : Nat) (st : List Value) (h : HP) : Prop :=
  ∀ (H : Heap) (locs : List Loc) (ls : Array Slot), va_P D kCl (wsO ad cy shP 121 h) H → va_D (fun q : Nat => s.heap.size ≤ q) (wsO ad cy shP 121 h) → va_S (fun q : Nat => s.heap.size ≤ q) s.heap H locs → lv_has ls 4 [(0, .ref b), (1, .ref (ad 0)), (2, .ref (ad 65)), (3, .int (nI i))] → W p l e room_1 s m #[Value.ref b] below meth c H locs 121 16229 (lw_Z below #[Value.ref b] s) (F0 m pc ls st)
theorem law_call (C0 : lw_C p s m meth c b L xs D ad cy) {i pc idx j k n q : Nat} {As rest st : List Value} {v : Value} {h h' : HP} {ci : Nat} {fl : List Nat} {r : vw_C} (hd : decode code pc = .ok (.invokevirtual idx, 3)) (hq : inT q (.methodLink R_law idx (mYP j)) = true) (hn : mNP j = n) (hn40 : n < 40) (hk : k < 121) (hsk : shP k = .inr (ci, fl)) (hkc : kCl[ci]? = some r) (hcl : r.1 = (mYP j).cls) (hlen : As.length = n) (hst : st = (As.map (cv ad)).reverse ++ .ref (ad k) :: rest) (hcat : (rest.map fun v => v.category).sum ≤ 8) (hrun : Run DD j (.ref k :: As) h (some v) h')
    (K : LW p l e s m below meth c b D ad cy i (pc + 3) (cv ad v :: rest) h') : LW p l e s m below meth c b D ad cy i pc st h := by
  intro H locs ls hP hD hS hl
  obtain ⟨⟨hx, hb, hr, hml, hown, hts, hX, hbl, hlocks, hgv⟩, hK0, hXP⟩ := C0
  have hg : ∀ w ∈ gW, w.before #[Value.ref b] s = true := fun w hw => hts w (List.mem_filter.mp hw).1
  have hnw : ∀ w ∈ nW, va_Nw w s := fun w hw => va_Nw.of (nest_tab (nW_nest hw)) (hts w (List.mem_filter.mp hw).1)
  have hA : AX (fun q : Nat => s.heap.size ≤ q) ad 121 s := ⟨fun _ h => h, fun _ h => Or.inr h⟩
  obtain ⟨n1, hble, hw⟩ := hrun
  have hmet := snd_met (l := l) (D := D) (ad := ad) (cy := cy) tokP (Nat.le_of_ble_eq_true hble) hw H.size
  obtain ⟨m1, hm⟩ := tokP.2.2.2.1 j (by omega)
  unfold chkM at hm
  rw [if_pos (by omega)] at hm
  simp only [Bool.and_eq_true, decide_eq_true_eq] at hm
  obtain ⟨m2, m3, m4, m5, m6, m7, m8⟩ := hm
  rw [hn] at m6
  have he : (wsO ad cy shP 121 h)[k]? = some (ad k, .inr (ci, fl.mapIdx (fun i q => fvl ad h k i q))) := by rw [wsO_get hk, hsk]; rfl
  have hrec := va_recv hK0 hP hkc he
  rw [hcl] at hrec
  have hpre : PreV s H (mYP j).cls (ad k) (va_Pc ((Value.ref k :: As).map (cv ad)) (Pw D ad cy shP 121 h H.size)) (As.map (cv ad)) := ⟨Pw_blind, hrec, Pw_at hP hD hS hK0 hnw hXP hA⟩
  have hsub := A1_sub (s := s) (A := fun q : Nat => s.heap.size ≤ q) hD hS hA.1
  subst hst
  refine ab_callG (va_runV (C := (mYP j).cls) ⟨hx, hb, hml, hown, hg⟩ hmet (cwV n hg (good_all fun w hw => ?_) rfl rfl rfl ⟨rfl, m4.1, m4.2, m6⟩ ?_) hpre rfl (by rw [List.length_map]; exact hlen) hl.1 rfl (lv_room hcat) hd ⟨by decide, by decide⟩) hS hsub hsub (fun v' h2 H1 locs1 hk g1 g2 g3 => ?_)
  · rcases List.mem_append.mp hw with hw | hw
    · simp only [List.mem_cons, List.not_mem_nil, or_false] at hw
      rcases hw with rfl | rfl | rfl | rfl
      · exact inT_gW hq rfl
      · exact inT_gW m7 rfl
      · exact inT_gW m8 rfl
      · exact inT_gW m2 rfl
    · exact good_code m1 w hw
  · simp only [rmD, room_1, DD]
    omega
  · obtain ⟨rfl, rfl⟩ := hk
    exact K H1 locs1 ls g1 g2 g3 hl
theorem law_in {i j : Nat} (h : i + 6 ≤ L) (hL : L ≤ 3072) (hj : j < 6) : vp_in (nI i + nI j) L := by
  rw [nI_add]
  exact vp_in_nI (by omega) (by omega)
theorem law_in0 {i : Nat} (h : i + 6 ≤ L) (hL : L ≤ 3072) : vp_in (nI i) L := vp_in_nI (by omega) (by omega)
theorem lgc (x : Int64) : lg_cmp x x = 0 := by simp [lg_cmp]
set_option maxHeartbeats 4000000 in
theorem lc_0 (C0 : lw_C p s m meth c b L xs D ad cy) {Inv : HP → Prop} {i : Nat} {h : HP} (hL : L ≤ 3072) (hiL : i + 6 ≤ L) (hI : Inv h) (hop : opI Inv j_E_feed j_M_feed [.int (xs (nI i + 1).toNatClampNeg), .int (xs (nI i + 2).toNatClampNeg), .int (xs (nI i + 3).toNatClampNeg), .int (xs (nI i + 4).toNatClampNeg), .int (xs (nI i + 5).toNatClampNeg)]) (K : ∀ h2, Inv h2 → LW p l e s m below meth c b D ad cy i 1244 [] h2) : LW p l e s m below meth c b D ad cy i 188 [] h := by
  obtain ⟨⟨hx, hb, hr, hml, hown, hts, hX, hbl, hlocks, hgv⟩, hK0, hXP⟩ := id C0
  have hbA : ¬ (fun q : Nat => s.heap.size ≤ q) b := Nat.not_le.mpr hbl
  obtain ⟨v, h1, h2, r1, r2, hI2⟩ := hop h hI
  intro H locs ls hP hD hS hl
  refine lv_aload_n hx hb (ldec (pc := 188) rfl) rfl (lv_at hl 1 rfl) ?_
  refine lv_aload_n hx hb (ldec (pc := 189) rfl) rfl (lv_at hl 0 rfl) ?_
  refine lv_iload_n hx hb (ldec (pc := 190) rfl) rfl (lv_at hl 3 rfl) ?_
  refine lv_iconst (v := 1) hx hb (ldec (pc := 191) rfl) (by decide) ?_
  refine lv_iadd hx hb (ldec (pc := 192) rfl) ?_
  refine va_sld hx hb hX hbl hbA hS (law_in (j := 1) hiL hL (by decide)) (ldec (pc := 193) rfl) ?_
  refine lv_aload_n hx hb (ldec (pc := 194) rfl) rfl (lv_at hl 0 rfl) ?_
  refine lv_iload_n hx hb (ldec (pc := 195) rfl) rfl (lv_at hl 3 rfl) ?_
  refine lv_iconst (v := 2) hx hb (ldec (pc := 196) rfl) (by decide) ?_
  refine lv_iadd hx hb (ldec (pc := 197) rfl) ?_
  refine va_sld hx hb hX hbl hbA hS (law_in (j := 2) hiL hL (by decide)) (ldec (pc := 198) rfl) ?_
  refine lv_aload_n hx hb (ldec (pc := 199) rfl) rfl (lv_at hl 0 rfl) ?_
  refine lv_iload_n hx hb (ldec (pc := 200) rfl) rfl (lv_at hl 3 rfl) ?_
  refine lv_iconst (v := 3) hx hb (ldec (pc := 201) rfl) (by decide) ?_
  refine lv_iadd hx hb (ldec (pc := 202) rfl) ?_
  refine va_sld hx hb hX hbl hbA hS (law_in (j := 3) hiL hL (by decide)) (ldec (pc := 203) rfl) ?_
  refine lv_aload_n hx hb (ldec (pc := 204) rfl) rfl (lv_at hl 0 rfl) ?_
  refine lv_iload_n hx hb (ldec (pc := 205) rfl) rfl (lv_at hl 3 rfl) ?_
  refine lv_iconst (v := 4) hx hb (ldec (pc := 206) rfl) (by decide) ?_
  refine lv_iadd hx hb (ldec (pc := 207) rfl) ?_
  refine va_sld hx hb hX hbl hbA hS (law_in (j := 4) hiL hL (by decide)) (ldec (pc := 208) rfl) ?_
  refine lv_aload_n hx hb (ldec (pc := 209) rfl) rfl (lv_at hl 0 rfl) ?_
  refine lv_iload_n hx hb (ldec (pc := 210) rfl) rfl (lv_at hl 3 rfl) ?_
  refine lv_iconst (v := 5) hx hb (ldec (pc := 211) rfl) (by decide) ?_
  refine lv_iadd hx hb (ldec (pc := 212) rfl) ?_
  refine va_sld hx hb hX hbl hbA hS (law_in (j := 5) hiL hL (by decide)) (ldec (pc := 213) rfl) ?_
  refine law_call (k := 0) (n := 5) (q := 12313) (As := [.int (xs (nI i + 1).toNatClampNeg), .int (xs (nI i + 2).toNatClampNeg), .int (xs (nI i + 3).toNatClampNeg), .int (xs (nI i + 4).toNatClampNeg), .int (xs (nI i + 5).toNatClampNeg)]) (rest := []) C0 (ldec (pc := 214) rfl) (by decide +kernel) rfl (by decide) (by decide) rfl rfl rfl rfl rfl (Nat.le_of_ble_eq_true rfl) r1 ?_ H locs ls hP hD hS hl
  clear hP hD hS hl
  intro H locs ls hP hD hS hl
  refine lv_aload_n hx hb (ldec (pc := 217) rfl) rfl (lv_at hl 2 rfl) ?_
  refine lv_aload_n hx hb (ldec (pc := 218) rfl) rfl (lv_at hl 0 rfl) ?_
  refine lv_iload_n hx hb (ldec (pc := 219) rfl) rfl (lv_at hl 3 rfl) ?_
  refine lv_iconst (v := 1) hx hb (ldec (pc := 220) rfl) (by decide) ?_
  refine lv_iadd hx hb (ldec (pc := 221) rfl) ?_
  refine va_sld hx hb hX hbl hbA hS (law_in (j := 1) hiL hL (by decide)) (ldec (pc := 222) rfl) ?_
  refine lv_aload_n hx hb (ldec (pc := 223) rfl) rfl (lv_at hl 0 rfl) ?_
  refine lv_iload_n hx hb (ldec (pc := 224) rfl) rfl (lv_at hl 3 rfl) ?_
  refine lv_iconst (v := 2) hx hb (ldec (pc := 225) rfl) (by decide) ?_
  refine lv_iadd hx hb (ldec (pc := 226) rfl) ?_
  refine va_sld hx hb hX hbl hbA hS (law_in (j := 2) hiL hL (by decide)) (ldec (pc := 227) rfl) ?_
  refine lv_aload_n hx hb (ldec (pc := 228) rfl) rfl (lv_at hl 0 rfl) ?_
  refine lv_iload_n hx hb (ldec (pc := 229) rfl) rfl (lv_at hl 3 rfl) ?_
  refine lv_iconst (v := 3) hx hb (ldec (pc := 230) rfl) (by decide) ?_
  refine lv_iadd hx hb (ldec (pc := 231) rfl) ?_
  refine va_sld hx hb hX hbl hbA hS (law_in (j := 3) hiL hL (by decide)) (ldec (pc := 232) rfl) ?_
  refine lv_aload_n hx hb (ldec (pc := 233) rfl) rfl (lv_at hl 0 rfl) ?_
  refine lv_iload_n hx hb (ldec (pc := 234) rfl) rfl (lv_at hl 3 rfl) ?_
  refine lv_iconst (v := 4) hx hb (ldec (pc := 235) rfl) (by decide) ?_
  refine lv_iadd hx hb (ldec (pc := 236) rfl) ?_
  refine va_sld hx hb hX hbl hbA hS (law_in (j := 4) hiL hL (by decide)) (ldec (pc := 237) rfl) ?_
  refine lv_aload_n hx hb (ldec (pc := 238) rfl) rfl (lv_at hl 0 rfl) ?_
  refine lv_iload_n hx hb (ldec (pc := 239) rfl) rfl (lv_at hl 3 rfl) ?_
  refine lv_iconst (v := 5) hx hb (ldec (pc := 240) rfl) (by decide) ?_
  refine lv_iadd hx hb (ldec (pc := 241) rfl) ?_
  refine va_sld hx hb hX hbl hbA hS (law_in (j := 5) hiL hL (by decide)) (ldec (pc := 242) rfl) ?_
  refine law_call (k := 65) (n := 5) (q := 28729) (As := [.int (xs (nI i + 1).toNatClampNeg), .int (xs (nI i + 2).toNatClampNeg), .int (xs (nI i + 3).toNatClampNeg), .int (xs (nI i + 4).toNatClampNeg), .int (xs (nI i + 5).toNatClampNeg)]) (rest := [.int v]) C0 (ldec (pc := 243) rfl) (by decide +kernel) rfl (by decide) (by decide) rfl rfl rfl rfl rfl (Nat.le_of_ble_eq_true rfl) r2 ?_ H locs ls hP hD hS hl
  clear hP hD hS hl
  intro H locs ls hP hD hS hl
  exact lv_icmp_eq (tgt := 1244) hx hb (ldec (pc := 246) rfl) (by decide) (fun _ => K h2 hI2 H locs ls hP hD hS hl) (fun z => absurd rfl z)
set_option maxHeartbeats 4000000 in
theorem lc_1 (C0 : lw_C p s m meth c b L xs D ad cy) {Inv : HP → Prop} {i : Nat} {h : HP} (hL : L ≤ 3072) (hiL : i + 6 ≤ L) (hI : Inv h) (hop : opI Inv j_E_end j_M_end [.int (xs (nI i + 1).toNatClampNeg)]) (K : ∀ h2, Inv h2 → LW p l e s m below meth c b D ad cy i 1244 [] h2) : LW p l e s m below meth c b D ad cy i 251 [] h := by
  obtain ⟨⟨hx, hb, hr, hml, hown, hts, hX, hbl, hlocks, hgv⟩, hK0, hXP⟩ := id C0
  have hbA : ¬ (fun q : Nat => s.heap.size ≤ q) b := Nat.not_le.mpr hbl
  obtain ⟨v, h1, h2, r1, r2, hI2⟩ := hop h hI
  intro H locs ls hP hD hS hl
  refine lv_aload_n hx hb (ldec (pc := 251) rfl) rfl (lv_at hl 1 rfl) ?_
  refine lv_aload_n hx hb (ldec (pc := 252) rfl) rfl (lv_at hl 0 rfl) ?_
  refine lv_iload_n hx hb (ldec (pc := 253) rfl) rfl (lv_at hl 3 rfl) ?_
  refine lv_iconst (v := 1) hx hb (ldec (pc := 254) rfl) (by decide) ?_
  refine lv_iadd hx hb (ldec (pc := 255) rfl) ?_
  refine va_sld hx hb hX hbl hbA hS (law_in (j := 1) hiL hL (by decide)) (ldec (pc := 256) rfl) ?_
  refine law_call (k := 0) (n := 1) (q := 12325) (As := [.int (xs (nI i + 1).toNatClampNeg)]) (rest := []) C0 (ldec (pc := 257) rfl) (by decide +kernel) rfl (by decide) (by decide) rfl rfl rfl rfl rfl (Nat.le_of_ble_eq_true rfl) r1 ?_ H locs ls hP hD hS hl
  clear hP hD hS hl
  intro H locs ls hP hD hS hl
  refine lv_aload_n hx hb (ldec (pc := 260) rfl) rfl (lv_at hl 2 rfl) ?_
  refine lv_aload_n hx hb (ldec (pc := 261) rfl) rfl (lv_at hl 0 rfl) ?_
  refine lv_iload_n hx hb (ldec (pc := 262) rfl) rfl (lv_at hl 3 rfl) ?_
  refine lv_iconst (v := 1) hx hb (ldec (pc := 263) rfl) (by decide) ?_
  refine lv_iadd hx hb (ldec (pc := 264) rfl) ?_
  refine va_sld hx hb hX hbl hbA hS (law_in (j := 1) hiL hL (by decide)) (ldec (pc := 265) rfl) ?_
  refine law_call (k := 65) (n := 1) (q := 28733) (As := [.int (xs (nI i + 1).toNatClampNeg)]) (rest := [.int v]) C0 (ldec (pc := 266) rfl) (by decide +kernel) rfl (by decide) (by decide) rfl rfl rfl rfl rfl (Nat.le_of_ble_eq_true rfl) r2 ?_ H locs ls hP hD hS hl
  clear hP hD hS hl
  intro H locs ls hP hD hS hl
  exact lv_icmp_eq (tgt := 1244) hx hb (ldec (pc := 269) rfl) (by decide) (fun _ => K h2 hI2 H locs ls hP hD hS hl) (fun z => absurd rfl z)
set_option maxHeartbeats 4000000 in
theorem lc_2 (C0 : lw_C p s m meth c b L xs D ad cy) {Inv : HP → Prop} {i : Nat} {h : HP} (hL : L ≤ 3072) (hiL : i + 6 ≤ L) (hI : Inv h) (hop : opI Inv j_E_house j_M_house []) (K : ∀ h2, Inv h2 → LW p l e s m below meth c b D ad cy i 1244 [] h2) : LW p l e s m below meth c b D ad cy i 274 [] h := by
  obtain ⟨⟨hx, hb, hr, hml, hown, hts, hX, hbl, hlocks, hgv⟩, hK0, hXP⟩ := id C0
  have hbA : ¬ (fun q : Nat => s.heap.size ≤ q) b := Nat.not_le.mpr hbl
  obtain ⟨v, h1, h2, r1, r2, hI2⟩ := hop h hI
  intro H locs ls hP hD hS hl
  refine lv_aload_n hx hb (ldec (pc := 274) rfl) rfl (lv_at hl 1 rfl) ?_
  refine law_call (k := 0) (n := 0) (q := 12329) (As := []) (rest := []) C0 (ldec (pc := 275) rfl) (by decide +kernel) rfl (by decide) (by decide) rfl rfl rfl rfl rfl (Nat.le_of_ble_eq_true rfl) r1 ?_ H locs ls hP hD hS hl
  clear hP hD hS hl
  intro H locs ls hP hD hS hl
  refine lv_aload_n hx hb (ldec (pc := 278) rfl) rfl (lv_at hl 2 rfl) ?_
  refine law_call (k := 65) (n := 0) (q := 28737) (As := []) (rest := [.int v]) C0 (ldec (pc := 279) rfl) (by decide +kernel) rfl (by decide) (by decide) rfl rfl rfl rfl rfl (Nat.le_of_ble_eq_true rfl) r2 ?_ H locs ls hP hD hS hl
  clear hP hD hS hl
  intro H locs ls hP hD hS hl
  exact lv_icmp_eq (tgt := 1244) hx hb (ldec (pc := 282) rfl) (by decide) (fun _ => K h2 hI2 H locs ls hP hD hS hl) (fun z => absurd rfl z)
set_option maxHeartbeats 4000000 in
theorem lc_3 (C0 : lw_C p s m meth c b L xs D ad cy) {Inv : HP → Prop} {i : Nat} {h : HP} (hL : L ≤ 3072) (hiL : i + 6 ≤ L) (hI : Inv h) (hop : opI Inv j_E_fault j_M_fault [.int (xs (nI i + 1).toNatClampNeg)]) (K : ∀ h2, Inv h2 → LW p l e s m below meth c b D ad cy i 1244 [] h2) : LW p l e s m below meth c b D ad cy i 287 [] h := by
  obtain ⟨⟨hx, hb, hr, hml, hown, hts, hX, hbl, hlocks, hgv⟩, hK0, hXP⟩ := id C0
  have hbA : ¬ (fun q : Nat => s.heap.size ≤ q) b := Nat.not_le.mpr hbl
  obtain ⟨v, h1, h2, r1, r2, hI2⟩ := hop h hI
  intro H locs ls hP hD hS hl
  refine lv_aload_n hx hb (ldec (pc := 287) rfl) rfl (lv_at hl 1 rfl) ?_
  refine lv_aload_n hx hb (ldec (pc := 288) rfl) rfl (lv_at hl 0 rfl) ?_
  refine lv_iload_n hx hb (ldec (pc := 289) rfl) rfl (lv_at hl 3 rfl) ?_
  refine lv_iconst (v := 1) hx hb (ldec (pc := 290) rfl) (by decide) ?_
  refine lv_iadd hx hb (ldec (pc := 291) rfl) ?_
  refine va_sld hx hb hX hbl hbA hS (law_in (j := 1) hiL hL (by decide)) (ldec (pc := 292) rfl) ?_
  refine law_call (k := 0) (n := 1) (q := 16504) (As := [.int (xs (nI i + 1).toNatClampNeg)]) (rest := []) C0 (ldec (pc := 293) rfl) (by decide +kernel) rfl (by decide) (by decide) rfl rfl rfl rfl rfl (Nat.le_of_ble_eq_true rfl) r1 ?_ H locs ls hP hD hS hl
  clear hP hD hS hl
  intro H locs ls hP hD hS hl
  refine lv_aload_n hx hb (ldec (pc := 296) rfl) rfl (lv_at hl 2 rfl) ?_
  refine lv_aload_n hx hb (ldec (pc := 297) rfl) rfl (lv_at hl 0 rfl) ?_
  refine lv_iload_n hx hb (ldec (pc := 298) rfl) rfl (lv_at hl 3 rfl) ?_
  refine lv_iconst (v := 1) hx hb (ldec (pc := 299) rfl) (by decide) ?_
  refine lv_iadd hx hb (ldec (pc := 300) rfl) ?_
  refine va_sld hx hb hX hbl hbA hS (law_in (j := 1) hiL hL (by decide)) (ldec (pc := 301) rfl) ?_
  refine law_call (k := 65) (n := 1) (q := 32797) (As := [.int (xs (nI i + 1).toNatClampNeg)]) (rest := [.int v]) C0 (ldec (pc := 302) rfl) (by decide +kernel) rfl (by decide) (by decide) rfl rfl rfl rfl rfl (Nat.le_of_ble_eq_true rfl) r2 ?_ H locs ls hP hD hS hl
  clear hP hD hS hl
  intro H locs ls hP hD hS hl
  exact lv_icmp_eq (tgt := 1244) hx hb (ldec (pc := 305) rfl) (by decide) (fun _ => K h2 hI2 H locs ls hP hD hS hl) (fun z => absurd rfl z)
set_option maxHeartbeats 4000000 in
theorem lc_4 (C0 : lw_C p s m meth c b L xs D ad cy) {Inv : HP → Prop} {i : Nat} {h : HP} (hL : L ≤ 3072) (hiL : i + 6 ≤ L) (hI : Inv h) (hop : opI Inv j_E_has j_M_has [.int (xs (nI i + 1).toNatClampNeg)]) (K : ∀ h2, Inv h2 → LW p l e s m below meth c b D ad cy i 1244 [] h2) : LW p l e s m below meth c b D ad cy i 310 [] h := by
  obtain ⟨⟨hx, hb, hr, hml, hown, hts, hX, hbl, hlocks, hgv⟩, hK0, hXP⟩ := id C0
  have hbA : ¬ (fun q : Nat => s.heap.size ≤ q) b := Nat.not_le.mpr hbl
  obtain ⟨v, h1, h2, r1, r2, hI2⟩ := hop h hI
  intro H locs ls hP hD hS hl
  refine lv_aload_n hx hb (ldec (pc := 310) rfl) rfl (lv_at hl 1 rfl) ?_
  refine lv_aload_n hx hb (ldec (pc := 311) rfl) rfl (lv_at hl 0 rfl) ?_
  refine lv_iload_n hx hb (ldec (pc := 312) rfl) rfl (lv_at hl 3 rfl) ?_
  refine lv_iconst (v := 1) hx hb (ldec (pc := 313) rfl) (by decide) ?_
  refine lv_iadd hx hb (ldec (pc := 314) rfl) ?_
  refine va_sld hx hb hX hbl hbA hS (law_in (j := 1) hiL hL (by decide)) (ldec (pc := 315) rfl) ?_
  refine law_call (k := 0) (n := 1) (q := 16508) (As := [.int (xs (nI i + 1).toNatClampNeg)]) (rest := []) C0 (ldec (pc := 316) rfl) (by decide +kernel) rfl (by decide) (by decide) rfl rfl rfl rfl rfl (Nat.le_of_ble_eq_true rfl) r1 ?_ H locs ls hP hD hS hl
  clear hP hD hS hl
  intro H locs ls hP hD hS hl
  refine lv_aload_n hx hb (ldec (pc := 319) rfl) rfl (lv_at hl 2 rfl) ?_
  refine lv_aload_n hx hb (ldec (pc := 320) rfl) rfl (lv_at hl 0 rfl) ?_
  refine lv_iload_n hx hb (ldec (pc := 321) rfl) rfl (lv_at hl 3 rfl) ?_
  refine lv_iconst (v := 1) hx hb (ldec (pc := 322) rfl) (by decide) ?_
  refine lv_iadd hx hb (ldec (pc := 323) rfl) ?_
  refine va_sld hx hb hX hbl hbA hS (law_in (j := 1) hiL hL (by decide)) (ldec (pc := 324) rfl) ?_
  refine law_call (k := 65) (n := 1) (q := 32801) (As := [.int (xs (nI i + 1).toNatClampNeg)]) (rest := [.int v]) C0 (ldec (pc := 325) rfl) (by decide +kernel) rfl (by decide) (by decide) rfl rfl rfl rfl rfl (Nat.le_of_ble_eq_true rfl) r2 ?_ H locs ls hP hD hS hl
  clear hP hD hS hl
  intro H locs ls hP hD hS hl
  exact lv_icmp_eq (tgt := 1244) hx hb (ldec (pc := 328) rfl) (by decide) (fun _ => K h2 hI2 H locs ls hP hD hS hl) (fun z => absurd rfl z)
set_option maxHeartbeats 4000000 in
theorem lc_5 (C0 : lw_C p s m meth c b L xs D ad cy) {Inv : HP → Prop} {i : Nat} {h : HP} (hL : L ≤ 3072) (hiL : i + 6 ≤ L) (hI : Inv h) (hop0 : opI Inv j_E_letter j_M_letter [.int 0, .int (xs (nI i + 2).toNatClampNeg), .int (xs (nI i + 3).toNatClampNeg)]) (hop1 : opI Inv j_E_letter j_M_letter [.int 1, .int (xs (nI i + 2).toNatClampNeg), .int (xs (nI i + 3).toNatClampNeg)]) (K : ∀ h2, Inv h2 → LW p l e s m below meth c b D ad cy i 1244 [] h2) : LW p l e s m below meth c b D ad cy i 333 [] h := by
  obtain ⟨⟨hx, hb, hr, hml, hown, hts, hX, hbl, hlocks, hgv⟩, hK0, hXP⟩ := id C0
  have hbA : ¬ (fun q : Nat => s.heap.size ≤ q) b := Nat.not_le.mpr hbl
  by_cases hz : (xs (nI i + 1).toNatClampNeg) = 0
  · obtain ⟨v, h1, h2, r1, r2, hI2⟩ := hop0 h hI
    intro H locs ls hP hD hS hl
    refine lv_aload_n hx hb (ldec (pc := 333) rfl) rfl (lv_at hl 1 rfl) ?_
    refine lv_aload_n hx hb (ldec (pc := 334) rfl) rfl (lv_at hl 0 rfl) ?_
    refine lv_iload_n hx hb (ldec (pc := 335) rfl) rfl (lv_at hl 3 rfl) ?_
    refine lv_iconst (v := 1) hx hb (ldec (pc := 336) rfl) (by decide) ?_
    refine lv_iadd hx hb (ldec (pc := 337) rfl) ?_
    refine va_sld hx hb hX hbl hbA hS (law_in (j := 1) hiL hL (by decide)) (ldec (pc := 338) rfl) ?_
    refine lv_if_eq (tgt := 346) hx hb (ldec (pc := 339) rfl) (by decide) (fun _ => ?_) (fun z => absurd hz z)
    refine lv_iconst (v := 0) hx hb (ldec (pc := 346) rfl) (by decide) ?_
    refine lv_aload_n hx hb (ldec (pc := 347) rfl) rfl (lv_at hl 0 rfl) ?_
    refine lv_iload_n hx hb (ldec (pc := 348) rfl) rfl (lv_at hl 3 rfl) ?_
    refine lv_iconst (v := 2) hx hb (ldec (pc := 349) rfl) (by decide) ?_
    refine lv_iadd hx hb (ldec (pc := 350) rfl) ?_
    refine va_sld hx hb hX hbl hbA hS (law_in (j := 2) hiL hL (by decide)) (ldec (pc := 351) rfl) ?_
    refine lv_aload_n hx hb (ldec (pc := 352) rfl) rfl (lv_at hl 0 rfl) ?_
    refine lv_iload_n hx hb (ldec (pc := 353) rfl) rfl (lv_at hl 3 rfl) ?_
    refine lv_iconst (v := 3) hx hb (ldec (pc := 354) rfl) (by decide) ?_
    refine lv_iadd hx hb (ldec (pc := 355) rfl) ?_
    refine va_sld hx hb hX hbl hbA hS (law_in (j := 3) hiL hL (by decide)) (ldec (pc := 356) rfl) ?_
    refine law_call (k := 0) (n := 3) (q := 16516) (As := [.int 0, .int (xs (nI i + 2).toNatClampNeg), .int (xs (nI i + 3).toNatClampNeg)]) (rest := []) C0 (ldec (pc := 357) rfl) (by decide +kernel) rfl (by decide) (by decide) rfl rfl rfl rfl rfl (Nat.le_of_ble_eq_true rfl) r1 ?_ H locs ls hP hD hS hl
    clear hP hD hS hl
    intro H locs ls hP hD hS hl
    refine lv_aload_n hx hb (ldec (pc := 360) rfl) rfl (lv_at hl 2 rfl) ?_
    refine lv_aload_n hx hb (ldec (pc := 361) rfl) rfl (lv_at hl 0 rfl) ?_
    refine lv_iload_n hx hb (ldec (pc := 362) rfl) rfl (lv_at hl 3 rfl) ?_
    refine lv_iconst (v := 1) hx hb (ldec (pc := 363) rfl) (by decide) ?_
    refine lv_iadd hx hb (ldec (pc := 364) rfl) ?_
    refine va_sld hx hb hX hbl hbA hS (law_in (j := 1) hiL hL (by decide)) (ldec (pc := 365) rfl) ?_
    refine lv_if_eq (tgt := 373) hx hb (ldec (pc := 366) rfl) (by decide) (fun _ => ?_) (fun z => absurd hz z)
    refine lv_iconst (v := 0) hx hb (ldec (pc := 373) rfl) (by decide) ?_
    refine lv_aload_n hx hb (ldec (pc := 374) rfl) rfl (lv_at hl 0 rfl) ?_
    refine lv_iload_n hx hb (ldec (pc := 375) rfl) rfl (lv_at hl 3 rfl) ?_
    refine lv_iconst (v := 2) hx hb (ldec (pc := 376) rfl) (by decide) ?_
    refine lv_iadd hx hb (ldec (pc := 377) rfl) ?_
    refine va_sld hx hb hX hbl hbA hS (law_in (j := 2) hiL hL (by decide)) (ldec (pc := 378) rfl) ?_
    refine lv_aload_n hx hb (ldec (pc := 379) rfl) rfl (lv_at hl 0 rfl) ?_
    refine lv_iload_n hx hb (ldec (pc := 380) rfl) rfl (lv_at hl 3 rfl) ?_
    refine lv_iconst (v := 3) hx hb (ldec (pc := 381) rfl) (by decide) ?_
    refine lv_iadd hx hb (ldec (pc := 382) rfl) ?_
    refine va_sld hx hb hX hbl hbA hS (law_in (j := 3) hiL hL (by decide)) (ldec (pc := 383) rfl) ?_
    refine law_call (k := 65) (n := 3) (q := 32805) (As := [.int 0, .int (xs (nI i + 2).toNatClampNeg), .int (xs (nI i + 3).toNatClampNeg)]) (rest := [.int v]) C0 (ldec (pc := 384) rfl) (by decide +kernel) rfl (by decide) (by decide) rfl rfl rfl rfl rfl (Nat.le_of_ble_eq_true rfl) r2 ?_ H locs ls hP hD hS hl
    clear hP hD hS hl
    intro H locs ls hP hD hS hl
    exact lv_icmp_eq (tgt := 1244) hx hb (ldec (pc := 387) rfl) (by decide) (fun _ => K h2 hI2 H locs ls hP hD hS hl) (fun z => absurd rfl z)
  · obtain ⟨v, h1, h2, r1, r2, hI2⟩ := hop1 h hI
    intro H locs ls hP hD hS hl
    refine lv_aload_n hx hb (ldec (pc := 333) rfl) rfl (lv_at hl 1 rfl) ?_
    refine lv_aload_n hx hb (ldec (pc := 334) rfl) rfl (lv_at hl 0 rfl) ?_
    refine lv_iload_n hx hb (ldec (pc := 335) rfl) rfl (lv_at hl 3 rfl) ?_
    refine lv_iconst (v := 1) hx hb (ldec (pc := 336) rfl) (by decide) ?_
    refine lv_iadd hx hb (ldec (pc := 337) rfl) ?_
    refine va_sld hx hb hX hbl hbA hS (law_in (j := 1) hiL hL (by decide)) (ldec (pc := 338) rfl) ?_
    refine lv_if_eq (tgt := 346) hx hb (ldec (pc := 339) rfl) (by decide) (fun z => absurd z hz) (fun _ => ?_)
    refine lv_iconst (v := 1) hx hb (ldec (pc := 342) rfl) (by decide) ?_
    refine lv_goto (tgt := 347) hx hb (ldec (pc := 343) rfl) (by decide) ?_
    refine lv_aload_n hx hb (ldec (pc := 347) rfl) rfl (lv_at hl 0 rfl) ?_
    refine lv_iload_n hx hb (ldec (pc := 348) rfl) rfl (lv_at hl 3 rfl) ?_
    refine lv_iconst (v := 2) hx hb (ldec (pc := 349) rfl) (by decide) ?_
    refine lv_iadd hx hb (ldec (pc := 350) rfl) ?_
    refine va_sld hx hb hX hbl hbA hS (law_in (j := 2) hiL hL (by decide)) (ldec (pc := 351) rfl) ?_
    refine lv_aload_n hx hb (ldec (pc := 352) rfl) rfl (lv_at hl 0 rfl) ?_
    refine lv_iload_n hx hb (ldec (pc := 353) rfl) rfl (lv_at hl 3 rfl) ?_
    refine lv_iconst (v := 3) hx hb (ldec (pc := 354) rfl) (by decide) ?_
    refine lv_iadd hx hb (ldec (pc := 355) rfl) ?_
    refine va_sld hx hb hX hbl hbA hS (law_in (j := 3) hiL hL (by decide)) (ldec (pc := 356) rfl) ?_
    refine law_call (k := 0) (n := 3) (q := 16516) (As := [.int 1, .int (xs (nI i + 2).toNatClampNeg), .int (xs (nI i + 3).toNatClampNeg)]) (rest := []) C0 (ldec (pc := 357) rfl) (by decide +kernel) rfl (by decide) (by decide) rfl rfl rfl rfl rfl (Nat.le_of_ble_eq_true rfl) r1 ?_ H locs ls hP hD hS hl
    clear hP hD hS hl
    intro H locs ls hP hD hS hl
    refine lv_aload_n hx hb (ldec (pc := 360) rfl) rfl (lv_at hl 2 rfl) ?_
    refine lv_aload_n hx hb (ldec (pc := 361) rfl) rfl (lv_at hl 0 rfl) ?_
    refine lv_iload_n hx hb (ldec (pc := 362) rfl) rfl (lv_at hl 3 rfl) ?_
    refine lv_iconst (v := 1) hx hb (ldec (pc := 363) rfl) (by decide) ?_
    refine lv_iadd hx hb (ldec (pc := 364) rfl) ?_
    refine va_sld hx hb hX hbl hbA hS (law_in (j := 1) hiL hL (by decide)) (ldec (pc := 365) rfl) ?_
    refine lv_if_eq (tgt := 373) hx hb (ldec (pc := 366) rfl) (by decide) (fun z => absurd z hz) (fun _ => ?_)
    refine lv_iconst (v := 1) hx hb (ldec (pc := 369) rfl) (by decide) ?_
    refine lv_goto (tgt := 374) hx hb (ldec (pc := 370) rfl) (by decide) ?_
    refine lv_aload_n hx hb (ldec (pc := 374) rfl) rfl (lv_at hl 0 rfl) ?_
    refine lv_iload_n hx hb (ldec (pc := 375) rfl) rfl (lv_at hl 3 rfl) ?_
    refine lv_iconst (v := 2) hx hb (ldec (pc := 376) rfl) (by decide) ?_
    refine lv_iadd hx hb (ldec (pc := 377) rfl) ?_
    refine va_sld hx hb hX hbl hbA hS (law_in (j := 2) hiL hL (by decide)) (ldec (pc := 378) rfl) ?_
    refine lv_aload_n hx hb (ldec (pc := 379) rfl) rfl (lv_at hl 0 rfl) ?_
    refine lv_iload_n hx hb (ldec (pc := 380) rfl) rfl (lv_at hl 3 rfl) ?_
    refine lv_iconst (v := 3) hx hb (ldec (pc := 381) rfl) (by decide) ?_
    refine lv_iadd hx hb (ldec (pc := 382) rfl) ?_
    refine va_sld hx hb hX hbl hbA hS (law_in (j := 3) hiL hL (by decide)) (ldec (pc := 383) rfl) ?_
    refine law_call (k := 65) (n := 3) (q := 32805) (As := [.int 1, .int (xs (nI i + 2).toNatClampNeg), .int (xs (nI i + 3).toNatClampNeg)]) (rest := [.int v]) C0 (ldec (pc := 384) rfl) (by decide +kernel) rfl (by decide) (by decide) rfl rfl rfl rfl rfl (Nat.le_of_ble_eq_true rfl) r2 ?_ H locs ls hP hD hS hl
    clear hP hD hS hl
    intro H locs ls hP hD hS hl
    exact lv_icmp_eq (tgt := 1244) hx hb (ldec (pc := 387) rfl) (by decide) (fun _ => K h2 hI2 H locs ls hP hD hS hl) (fun z => absurd rfl z)
set_option maxHeartbeats 4000000 in
theorem lc_6 (C0 : lw_C p s m meth c b L xs D ad cy) {Inv : HP → Prop} {i : Nat} {h : HP} (hL : L ≤ 3072) (hiL : i + 6 ≤ L) (hI : Inv h) (hop : opI Inv j_E_turn j_M_turn [.int (xs (nI i + 1).toNatClampNeg), .int (xs (nI i + 2).toNatClampNeg)]) (K : ∀ h2, Inv h2 → LW p l e s m below meth c b D ad cy i 1244 [] h2) : LW p l e s m below meth c b D ad cy i 392 [] h := by
  obtain ⟨⟨hx, hb, hr, hml, hown, hts, hX, hbl, hlocks, hgv⟩, hK0, hXP⟩ := id C0
  have hbA : ¬ (fun q : Nat => s.heap.size ≤ q) b := Nat.not_le.mpr hbl
  obtain ⟨v, h1, h2, r1, r2, hI2⟩ := hop h hI
  intro H locs ls hP hD hS hl
  refine lv_aload_n hx hb (ldec (pc := 392) rfl) rfl (lv_at hl 1 rfl) ?_
  refine lv_aload_n hx hb (ldec (pc := 393) rfl) rfl (lv_at hl 0 rfl) ?_
  refine lv_iload_n hx hb (ldec (pc := 394) rfl) rfl (lv_at hl 3 rfl) ?_
  refine lv_iconst (v := 1) hx hb (ldec (pc := 395) rfl) (by decide) ?_
  refine lv_iadd hx hb (ldec (pc := 396) rfl) ?_
  refine va_sld hx hb hX hbl hbA hS (law_in (j := 1) hiL hL (by decide)) (ldec (pc := 397) rfl) ?_
  refine lv_aload_n hx hb (ldec (pc := 398) rfl) rfl (lv_at hl 0 rfl) ?_
  refine lv_iload_n hx hb (ldec (pc := 399) rfl) rfl (lv_at hl 3 rfl) ?_
  refine lv_iconst (v := 2) hx hb (ldec (pc := 400) rfl) (by decide) ?_
  refine lv_iadd hx hb (ldec (pc := 401) rfl) ?_
  refine va_sld hx hb hX hbl hbA hS (law_in (j := 2) hiL hL (by decide)) (ldec (pc := 402) rfl) ?_
  refine law_call (k := 0) (n := 2) (q := 16531) (As := [.int (xs (nI i + 1).toNatClampNeg), .int (xs (nI i + 2).toNatClampNeg)]) (rest := []) C0 (ldec (pc := 403) rfl) (by decide +kernel) rfl (by decide) (by decide) rfl rfl rfl rfl rfl (Nat.le_of_ble_eq_true rfl) r1 ?_ H locs ls hP hD hS hl
  clear hP hD hS hl
  intro H locs ls hP hD hS hl
  refine lv_aload_n hx hb (ldec (pc := 406) rfl) rfl (lv_at hl 2 rfl) ?_
  refine lv_aload_n hx hb (ldec (pc := 407) rfl) rfl (lv_at hl 0 rfl) ?_
  refine lv_iload_n hx hb (ldec (pc := 408) rfl) rfl (lv_at hl 3 rfl) ?_
  refine lv_iconst (v := 1) hx hb (ldec (pc := 409) rfl) (by decide) ?_
  refine lv_iadd hx hb (ldec (pc := 410) rfl) ?_
  refine va_sld hx hb hX hbl hbA hS (law_in (j := 1) hiL hL (by decide)) (ldec (pc := 411) rfl) ?_
  refine lv_aload_n hx hb (ldec (pc := 412) rfl) rfl (lv_at hl 0 rfl) ?_
  refine lv_iload_n hx hb (ldec (pc := 413) rfl) rfl (lv_at hl 3 rfl) ?_
  refine lv_iconst (v := 2) hx hb (ldec (pc := 414) rfl) (by decide) ?_
  refine lv_iadd hx hb (ldec (pc := 415) rfl) ?_
  refine va_sld hx hb hX hbl hbA hS (law_in (j := 2) hiL hL (by decide)) (ldec (pc := 416) rfl) ?_
  refine law_call (k := 65) (n := 2) (q := 32818) (As := [.int (xs (nI i + 1).toNatClampNeg), .int (xs (nI i + 2).toNatClampNeg)]) (rest := [.int v]) C0 (ldec (pc := 417) rfl) (by decide +kernel) rfl (by decide) (by decide) rfl rfl rfl rfl rfl (Nat.le_of_ble_eq_true rfl) r2 ?_ H locs ls hP hD hS hl
  clear hP hD hS hl
  intro H locs ls hP hD hS hl
  exact lv_icmp_eq (tgt := 1244) hx hb (ldec (pc := 420) rfl) (by decide) (fun _ => K h2 hI2 H locs ls hP hD hS hl) (fun z => absurd rfl z)
set_option maxHeartbeats 4000000 in
theorem lc_7 (C0 : lw_C p s m meth c b L xs D ad cy) {Inv : HP → Prop} {i : Nat} {h : HP} (hL : L ≤ 3072) (hiL : i + 6 ≤ L) (hI : Inv h) (hop : opI Inv j_E_may j_M_may [.int (xs (nI i + 1).toNatClampNeg), .int (xs (nI i + 2).toNatClampNeg)]) (K : ∀ h2, Inv h2 → LW p l e s m below meth c b D ad cy i 1244 [] h2) : LW p l e s m below meth c b D ad cy i 425 [] h := by
  obtain ⟨⟨hx, hb, hr, hml, hown, hts, hX, hbl, hlocks, hgv⟩, hK0, hXP⟩ := id C0
  have hbA : ¬ (fun q : Nat => s.heap.size ≤ q) b := Nat.not_le.mpr hbl
  obtain ⟨v, h1, h2, r1, r2, hI2⟩ := hop h hI
  intro H locs ls hP hD hS hl
  refine lv_aload_n hx hb (ldec (pc := 425) rfl) rfl (lv_at hl 1 rfl) ?_
  refine lv_aload_n hx hb (ldec (pc := 426) rfl) rfl (lv_at hl 0 rfl) ?_
  refine lv_iload_n hx hb (ldec (pc := 427) rfl) rfl (lv_at hl 3 rfl) ?_
  refine lv_iconst (v := 1) hx hb (ldec (pc := 428) rfl) (by decide) ?_
  refine lv_iadd hx hb (ldec (pc := 429) rfl) ?_
  refine va_sld hx hb hX hbl hbA hS (law_in (j := 1) hiL hL (by decide)) (ldec (pc := 430) rfl) ?_
  refine lv_aload_n hx hb (ldec (pc := 431) rfl) rfl (lv_at hl 0 rfl) ?_
  refine lv_iload_n hx hb (ldec (pc := 432) rfl) rfl (lv_at hl 3 rfl) ?_
  refine lv_iconst (v := 2) hx hb (ldec (pc := 433) rfl) (by decide) ?_
  refine lv_iadd hx hb (ldec (pc := 434) rfl) ?_
  refine va_sld hx hb hX hbl hbA hS (law_in (j := 2) hiL hL (by decide)) (ldec (pc := 435) rfl) ?_
  refine law_call (k := 0) (n := 2) (q := 16567) (As := [.int (xs (nI i + 1).toNatClampNeg), .int (xs (nI i + 2).toNatClampNeg)]) (rest := []) C0 (ldec (pc := 436) rfl) (by decide +kernel) rfl (by decide) (by decide) rfl rfl rfl rfl rfl (Nat.le_of_ble_eq_true rfl) r1 ?_ H locs ls hP hD hS hl
  clear hP hD hS hl
  intro H locs ls hP hD hS hl
  refine lv_aload_n hx hb (ldec (pc := 439) rfl) rfl (lv_at hl 2 rfl) ?_
  refine lv_aload_n hx hb (ldec (pc := 440) rfl) rfl (lv_at hl 0 rfl) ?_
  refine lv_iload_n hx hb (ldec (pc := 441) rfl) rfl (lv_at hl 3 rfl) ?_
  refine lv_iconst (v := 1) hx hb (ldec (pc := 442) rfl) (by decide) ?_
  refine lv_iadd hx hb (ldec (pc := 443) rfl) ?_
  refine va_sld hx hb hX hbl hbA hS (law_in (j := 1) hiL hL (by decide)) (ldec (pc := 444) rfl) ?_
  refine lv_aload_n hx hb (ldec (pc := 445) rfl) rfl (lv_at hl 0 rfl) ?_
  refine lv_iload_n hx hb (ldec (pc := 446) rfl) rfl (lv_at hl 3 rfl) ?_
  refine lv_iconst (v := 2) hx hb (ldec (pc := 447) rfl) (by decide) ?_
  refine lv_iadd hx hb (ldec (pc := 448) rfl) ?_
  refine va_sld hx hb hX hbl hbA hS (law_in (j := 2) hiL hL (by decide)) (ldec (pc := 449) rfl) ?_
  refine law_call (k := 65) (n := 2) (q := 32850) (As := [.int (xs (nI i + 1).toNatClampNeg), .int (xs (nI i + 2).toNatClampNeg)]) (rest := [.int v]) C0 (ldec (pc := 450) rfl) (by decide +kernel) rfl (by decide) (by decide) rfl rfl rfl rfl rfl (Nat.le_of_ble_eq_true rfl) r2 ?_ H locs ls hP hD hS hl
  clear hP hD hS hl
  intro H locs ls hP hD hS hl
  exact lv_icmp_eq (tgt := 1244) hx hb (ldec (pc := 453) rfl) (by decide) (fun _ => K h2 hI2 H locs ls hP hD hS hl) (fun z => absurd rfl z)
set_option maxHeartbeats 4000000 in
theorem lc_8 (C0 : lw_C p s m meth c b L xs D ad cy) {Inv : HP → Prop} {i : Nat} {h : HP} (hL : L ≤ 3072) (hiL : i + 6 ≤ L) (hI : Inv h) (hop : opI Inv j_E_due j_M_due [.int (xs (nI i + 1).toNatClampNeg), .int (xs (nI i + 2).toNatClampNeg)]) (K : ∀ h2, Inv h2 → LW p l e s m below meth c b D ad cy i 1244 [] h2) : LW p l e s m below meth c b D ad cy i 458 [] h := by
  obtain ⟨⟨hx, hb, hr, hml, hown, hts, hX, hbl, hlocks, hgv⟩, hK0, hXP⟩ := id C0
  have hbA : ¬ (fun q : Nat => s.heap.size ≤ q) b := Nat.not_le.mpr hbl
  obtain ⟨v, h1, h2, r1, r2, hI2⟩ := hop h hI
  intro H locs ls hP hD hS hl
  refine lv_aload_n hx hb (ldec (pc := 458) rfl) rfl (lv_at hl 1 rfl) ?_
  refine lv_aload_n hx hb (ldec (pc := 459) rfl) rfl (lv_at hl 0 rfl) ?_
  refine lv_iload_n hx hb (ldec (pc := 460) rfl) rfl (lv_at hl 3 rfl) ?_
  refine lv_iconst (v := 1) hx hb (ldec (pc := 461) rfl) (by decide) ?_
  refine lv_iadd hx hb (ldec (pc := 462) rfl) ?_
  refine va_sld hx hb hX hbl hbA hS (law_in (j := 1) hiL hL (by decide)) (ldec (pc := 463) rfl) ?_
  refine lv_aload_n hx hb (ldec (pc := 464) rfl) rfl (lv_at hl 0 rfl) ?_
  refine lv_iload_n hx hb (ldec (pc := 465) rfl) rfl (lv_at hl 3 rfl) ?_
  refine lv_iconst (v := 2) hx hb (ldec (pc := 466) rfl) (by decide) ?_
  refine lv_iadd hx hb (ldec (pc := 467) rfl) ?_
  refine va_sld hx hb hX hbl hbA hS (law_in (j := 2) hiL hL (by decide)) (ldec (pc := 468) rfl) ?_
  refine law_call (k := 0) (n := 2) (q := 16571) (As := [.int (xs (nI i + 1).toNatClampNeg), .int (xs (nI i + 2).toNatClampNeg)]) (rest := []) C0 (ldec (pc := 469) rfl) (by decide +kernel) rfl (by decide) (by decide) rfl rfl rfl rfl rfl (Nat.le_of_ble_eq_true rfl) r1 ?_ H locs ls hP hD hS hl
  clear hP hD hS hl
  intro H locs ls hP hD hS hl
  refine lv_aload_n hx hb (ldec (pc := 472) rfl) rfl (lv_at hl 2 rfl) ?_
  refine lv_aload_n hx hb (ldec (pc := 473) rfl) rfl (lv_at hl 0 rfl) ?_
  refine lv_iload_n hx hb (ldec (pc := 474) rfl) rfl (lv_at hl 3 rfl) ?_
  refine lv_iconst (v := 1) hx hb (ldec (pc := 475) rfl) (by decide) ?_
  refine lv_iadd hx hb (ldec (pc := 476) rfl) ?_
  refine va_sld hx hb hX hbl hbA hS (law_in (j := 1) hiL hL (by decide)) (ldec (pc := 477) rfl) ?_
  refine lv_aload_n hx hb (ldec (pc := 478) rfl) rfl (lv_at hl 0 rfl) ?_
  refine lv_iload_n hx hb (ldec (pc := 479) rfl) rfl (lv_at hl 3 rfl) ?_
  refine lv_iconst (v := 2) hx hb (ldec (pc := 480) rfl) (by decide) ?_
  refine lv_iadd hx hb (ldec (pc := 481) rfl) ?_
  refine va_sld hx hb hX hbl hbA hS (law_in (j := 2) hiL hL (by decide)) (ldec (pc := 482) rfl) ?_
  refine law_call (k := 65) (n := 2) (q := 32854) (As := [.int (xs (nI i + 1).toNatClampNeg), .int (xs (nI i + 2).toNatClampNeg)]) (rest := [.int v]) C0 (ldec (pc := 483) rfl) (by decide +kernel) rfl (by decide) (by decide) rfl rfl rfl rfl rfl (Nat.le_of_ble_eq_true rfl) r2 ?_ H locs ls hP hD hS hl
  clear hP hD hS hl
  intro H locs ls hP hD hS hl
  exact lv_icmp_eq (tgt := 1244) hx hb (ldec (pc := 486) rfl) (by decide) (fun _ => K h2 hI2 H locs ls hP hD hS hl) (fun z => absurd rfl z)
set_option maxHeartbeats 4000000 in
theorem lc_9 (C0 : lw_C p s m meth c b L xs D ad cy) {Inv : HP → Prop} {i : Nat} {h : HP} (hL : L ≤ 3072) (hiL : i + 6 ≤ L) (hI : Inv h) (hop : opL Inv j_E_level j_M_level [.int (xs (nI i + 1).toNatClampNeg), .int (xs (nI i + 2).toNatClampNeg), .int (xs (nI i + 3).toNatClampNeg)]) (K : ∀ h2, Inv h2 → LW p l e s m below meth c b D ad cy i 1244 [] h2) : LW p l e s m below meth c b D ad cy i 491 [] h := by
  obtain ⟨⟨hx, hb, hr, hml, hown, hts, hX, hbl, hlocks, hgv⟩, hK0, hXP⟩ := id C0
  have hbA : ¬ (fun q : Nat => s.heap.size ≤ q) b := Nat.not_le.mpr hbl
  obtain ⟨v, h1, h2, r1, r2, hI2⟩ := hop h hI
  intro H locs ls hP hD hS hl
  refine lv_aload_n hx hb (ldec (pc := 491) rfl) rfl (lv_at hl 1 rfl) ?_
  refine lv_aload_n hx hb (ldec (pc := 492) rfl) rfl (lv_at hl 0 rfl) ?_
  refine lv_iload_n hx hb (ldec (pc := 493) rfl) rfl (lv_at hl 3 rfl) ?_
  refine lv_iconst (v := 1) hx hb (ldec (pc := 494) rfl) (by decide) ?_
  refine lv_iadd hx hb (ldec (pc := 495) rfl) ?_
  refine va_sld hx hb hX hbl hbA hS (law_in (j := 1) hiL hL (by decide)) (ldec (pc := 496) rfl) ?_
  refine lv_aload_n hx hb (ldec (pc := 497) rfl) rfl (lv_at hl 0 rfl) ?_
  refine lv_iload_n hx hb (ldec (pc := 498) rfl) rfl (lv_at hl 3 rfl) ?_
  refine lv_iconst (v := 2) hx hb (ldec (pc := 499) rfl) (by decide) ?_
  refine lv_iadd hx hb (ldec (pc := 500) rfl) ?_
  refine va_sld hx hb hX hbl hbA hS (law_in (j := 2) hiL hL (by decide)) (ldec (pc := 501) rfl) ?_
  refine lv_aload_n hx hb (ldec (pc := 502) rfl) rfl (lv_at hl 0 rfl) ?_
  refine lv_iload_n hx hb (ldec (pc := 503) rfl) rfl (lv_at hl 3 rfl) ?_
  refine lv_iconst (v := 3) hx hb (ldec (pc := 504) rfl) (by decide) ?_
  refine lv_iadd hx hb (ldec (pc := 505) rfl) ?_
  refine va_sld hx hb hX hbl hbA hS (law_in (j := 3) hiL hL (by decide)) (ldec (pc := 506) rfl) ?_
  refine law_call (k := 0) (n := 3) (q := 16579) (As := [.int (xs (nI i + 1).toNatClampNeg), .int (xs (nI i + 2).toNatClampNeg), .int (xs (nI i + 3).toNatClampNeg)]) (rest := []) C0 (ldec (pc := 507) rfl) (by decide +kernel) rfl (by decide) (by decide) rfl rfl rfl rfl rfl (Nat.le_of_ble_eq_true rfl) r1 ?_ H locs ls hP hD hS hl
  clear hP hD hS hl
  intro H locs ls hP hD hS hl
  refine lv_aload_n hx hb (ldec (pc := 510) rfl) rfl (lv_at hl 2 rfl) ?_
  refine lv_aload_n hx hb (ldec (pc := 511) rfl) rfl (lv_at hl 0 rfl) ?_
  refine lv_iload_n hx hb (ldec (pc := 512) rfl) rfl (lv_at hl 3 rfl) ?_
  refine lv_iconst (v := 1) hx hb (ldec (pc := 513) rfl) (by decide) ?_
  refine lv_iadd hx hb (ldec (pc := 514) rfl) ?_
  refine va_sld hx hb hX hbl hbA hS (law_in (j := 1) hiL hL (by decide)) (ldec (pc := 515) rfl) ?_
  refine lv_aload_n hx hb (ldec (pc := 516) rfl) rfl (lv_at hl 0 rfl) ?_
  refine lv_iload_n hx hb (ldec (pc := 517) rfl) rfl (lv_at hl 3 rfl) ?_
  refine lv_iconst (v := 2) hx hb (ldec (pc := 518) rfl) (by decide) ?_
  refine lv_iadd hx hb (ldec (pc := 519) rfl) ?_
  refine va_sld hx hb hX hbl hbA hS (law_in (j := 2) hiL hL (by decide)) (ldec (pc := 520) rfl) ?_
  refine lv_aload_n hx hb (ldec (pc := 521) rfl) rfl (lv_at hl 0 rfl) ?_
  refine lv_iload_n hx hb (ldec (pc := 522) rfl) rfl (lv_at hl 3 rfl) ?_
  refine lv_iconst (v := 3) hx hb (ldec (pc := 523) rfl) (by decide) ?_
  refine lv_iadd hx hb (ldec (pc := 524) rfl) ?_
  refine va_sld hx hb hX hbl hbA hS (law_in (j := 3) hiL hL (by decide)) (ldec (pc := 525) rfl) ?_
  refine law_call (k := 65) (n := 3) (q := 32863) (As := [.int (xs (nI i + 1).toNatClampNeg), .int (xs (nI i + 2).toNatClampNeg), .int (xs (nI i + 3).toNatClampNeg)]) (rest := [.long v]) C0 (ldec (pc := 526) rfl) (by decide +kernel) rfl (by decide) (by decide) rfl rfl rfl rfl rfl (Nat.le_of_ble_eq_true rfl) r2 ?_ H locs ls hP hD hS hl
  clear hP hD hS hl
  intro H locs ls hP hD hS hl
  refine W.lcmp hx hb (ldec (pc := 529) rfl) ?_
  exact lv_if_eq (tgt := 1244) hx hb (ldec (pc := 530) rfl) (by decide) (fun _ => K h2 hI2 H locs ls hP hD hS hl) (fun z => absurd (lgc v) z)
set_option maxHeartbeats 4000000 in
theorem lc_10 (C0 : lw_C p s m meth c b L xs D ad cy) {Inv : HP → Prop} {i : Nat} {h : HP} (hL : L ≤ 3072) (hiL : i + 6 ≤ L) (hI : Inv h) (hop : opL Inv j_E_gap j_M_gap [.int (xs (nI i + 1).toNatClampNeg), .int (xs (nI i + 2).toNatClampNeg)]) (K : ∀ h2, Inv h2 → LW p l e s m below meth c b D ad cy i 1244 [] h2) : LW p l e s m below meth c b D ad cy i 535 [] h := by
  obtain ⟨⟨hx, hb, hr, hml, hown, hts, hX, hbl, hlocks, hgv⟩, hK0, hXP⟩ := id C0
  have hbA : ¬ (fun q : Nat => s.heap.size ≤ q) b := Nat.not_le.mpr hbl
  obtain ⟨v, h1, h2, r1, r2, hI2⟩ := hop h hI
  intro H locs ls hP hD hS hl
  refine lv_aload_n hx hb (ldec (pc := 535) rfl) rfl (lv_at hl 1 rfl) ?_
  refine lv_aload_n hx hb (ldec (pc := 536) rfl) rfl (lv_at hl 0 rfl) ?_
  refine lv_iload_n hx hb (ldec (pc := 537) rfl) rfl (lv_at hl 3 rfl) ?_
  refine lv_iconst (v := 1) hx hb (ldec (pc := 538) rfl) (by decide) ?_
  refine lv_iadd hx hb (ldec (pc := 539) rfl) ?_
  refine va_sld hx hb hX hbl hbA hS (law_in (j := 1) hiL hL (by decide)) (ldec (pc := 540) rfl) ?_
  refine lv_aload_n hx hb (ldec (pc := 541) rfl) rfl (lv_at hl 0 rfl) ?_
  refine lv_iload_n hx hb (ldec (pc := 542) rfl) rfl (lv_at hl 3 rfl) ?_
  refine lv_iconst (v := 2) hx hb (ldec (pc := 543) rfl) (by decide) ?_
  refine lv_iadd hx hb (ldec (pc := 544) rfl) ?_
  refine va_sld hx hb hX hbl hbA hS (law_in (j := 2) hiL hL (by decide)) (ldec (pc := 545) rfl) ?_
  refine law_call (k := 0) (n := 2) (q := 16606) (As := [.int (xs (nI i + 1).toNatClampNeg), .int (xs (nI i + 2).toNatClampNeg)]) (rest := []) C0 (ldec (pc := 546) rfl) (by decide +kernel) rfl (by decide) (by decide) rfl rfl rfl rfl rfl (Nat.le_of_ble_eq_true rfl) r1 ?_ H locs ls hP hD hS hl
  clear hP hD hS hl
  intro H locs ls hP hD hS hl
  refine lv_aload_n hx hb (ldec (pc := 549) rfl) rfl (lv_at hl 2 rfl) ?_
  refine lv_aload_n hx hb (ldec (pc := 550) rfl) rfl (lv_at hl 0 rfl) ?_
  refine lv_iload_n hx hb (ldec (pc := 551) rfl) rfl (lv_at hl 3 rfl) ?_
  refine lv_iconst (v := 1) hx hb (ldec (pc := 552) rfl) (by decide) ?_
  refine lv_iadd hx hb (ldec (pc := 553) rfl) ?_
  refine va_sld hx hb hX hbl hbA hS (law_in (j := 1) hiL hL (by decide)) (ldec (pc := 554) rfl) ?_
  refine lv_aload_n hx hb (ldec (pc := 555) rfl) rfl (lv_at hl 0 rfl) ?_
  refine lv_iload_n hx hb (ldec (pc := 556) rfl) rfl (lv_at hl 3 rfl) ?_
  refine lv_iconst (v := 2) hx hb (ldec (pc := 557) rfl) (by decide) ?_
  refine lv_iadd hx hb (ldec (pc := 558) rfl) ?_
  refine va_sld hx hb hX hbl hbA hS (law_in (j := 2) hiL hL (by decide)) (ldec (pc := 559) rfl) ?_
  refine law_call (k := 65) (n := 2) (q := 32876) (As := [.int (xs (nI i + 1).toNatClampNeg), .int (xs (nI i + 2).toNatClampNeg)]) (rest := [.long v]) C0 (ldec (pc := 560) rfl) (by decide +kernel) rfl (by decide) (by decide) rfl rfl rfl rfl rfl (Nat.le_of_ble_eq_true rfl) r2 ?_ H locs ls hP hD hS hl
  clear hP hD hS hl
  intro H locs ls hP hD hS hl
  refine W.lcmp hx hb (ldec (pc := 563) rfl) ?_
  exact lv_if_eq (tgt := 1244) hx hb (ldec (pc := 564) rfl) (by decide) (fun _ => K h2 hI2 H locs ls hP hD hS hl) (fun z => absurd (lgc v) z)
set_option maxHeartbeats 4000000 in
theorem lc_11 (C0 : lw_C p s m meth c b L xs D ad cy) {Inv : HP → Prop} {i : Nat} {h : HP} (hL : L ≤ 3072) (hiL : i + 6 ≤ L) (hI : Inv h) (hop0 : opI Inv j_E_stretch j_M_stretch [.int (xs (nI i + 1).toNatClampNeg), .int (xs (nI i + 2).toNatClampNeg), .int 0]) (hop1 : opI Inv j_E_stretch j_M_stretch [.int (xs (nI i + 1).toNatClampNeg), .int (xs (nI i + 2).toNatClampNeg), .int 1]) (K : ∀ h2, Inv h2 → LW p l e s m below meth c b D ad cy i 1244 [] h2) : LW p l e s m below meth c b D ad cy i 569 [] h := by
  obtain ⟨⟨hx, hb, hr, hml, hown, hts, hX, hbl, hlocks, hgv⟩, hK0, hXP⟩ := id C0
  have hbA : ¬ (fun q : Nat => s.heap.size ≤ q) b := Nat.not_le.mpr hbl
  by_cases hz : (xs (nI i + 3).toNatClampNeg) = 0
  · obtain ⟨v, h1, h2, r1, r2, hI2⟩ := hop0 h hI
    intro H locs ls hP hD hS hl
    refine lv_aload_n hx hb (ldec (pc := 569) rfl) rfl (lv_at hl 1 rfl) ?_
    refine lv_aload_n hx hb (ldec (pc := 570) rfl) rfl (lv_at hl 0 rfl) ?_
    refine lv_iload_n hx hb (ldec (pc := 571) rfl) rfl (lv_at hl 3 rfl) ?_
    refine lv_iconst (v := 1) hx hb (ldec (pc := 572) rfl) (by decide) ?_
    refine lv_iadd hx hb (ldec (pc := 573) rfl) ?_
    refine va_sld hx hb hX hbl hbA hS (law_in (j := 1) hiL hL (by decide)) (ldec (pc := 574) rfl) ?_
    refine lv_aload_n hx hb (ldec (pc := 575) rfl) rfl (lv_at hl 0 rfl) ?_
    refine lv_iload_n hx hb (ldec (pc := 576) rfl) rfl (lv_at hl 3 rfl) ?_
    refine lv_iconst (v := 2) hx hb (ldec (pc := 577) rfl) (by decide) ?_
    refine lv_iadd hx hb (ldec (pc := 578) rfl) ?_
    refine va_sld hx hb hX hbl hbA hS (law_in (j := 2) hiL hL (by decide)) (ldec (pc := 579) rfl) ?_
    refine lv_aload_n hx hb (ldec (pc := 580) rfl) rfl (lv_at hl 0 rfl) ?_
    refine lv_iload_n hx hb (ldec (pc := 581) rfl) rfl (lv_at hl 3 rfl) ?_
    refine lv_iconst (v := 3) hx hb (ldec (pc := 582) rfl) (by decide) ?_
    refine lv_iadd hx hb (ldec (pc := 583) rfl) ?_
    refine va_sld hx hb hX hbl hbA hS (law_in (j := 3) hiL hL (by decide)) (ldec (pc := 584) rfl) ?_
    refine lv_if_eq (tgt := 592) hx hb (ldec (pc := 585) rfl) (by decide) (fun _ => ?_) (fun z => absurd hz z)
    refine lv_iconst (v := 0) hx hb (ldec (pc := 592) rfl) (by decide) ?_
    refine law_call (k := 0) (n := 3) (q := 16618) (As := [.int (xs (nI i + 1).toNatClampNeg), .int (xs (nI i + 2).toNatClampNeg), .int 0]) (rest := []) C0 (ldec (pc := 593) rfl) (by decide +kernel) rfl (by decide) (by decide) rfl rfl rfl rfl rfl (Nat.le_of_ble_eq_true rfl) r1 ?_ H locs ls hP hD hS hl
    clear hP hD hS hl
    intro H locs ls hP hD hS hl
    refine lv_aload_n hx hb (ldec (pc := 596) rfl) rfl (lv_at hl 2 rfl) ?_
    refine lv_aload_n hx hb (ldec (pc := 597) rfl) rfl (lv_at hl 0 rfl) ?_
    refine lv_iload_n hx hb (ldec (pc := 598) rfl) rfl (lv_at hl 3 rfl) ?_
    refine lv_iconst (v := 1) hx hb (ldec (pc := 599) rfl) (by decide) ?_
    refine lv_iadd hx hb (ldec (pc := 600) rfl) ?_
    refine va_sld hx hb hX hbl hbA hS (law_in (j := 1) hiL hL (by decide)) (ldec (pc := 601) rfl) ?_
    refine lv_aload_n hx hb (ldec (pc := 602) rfl) rfl (lv_at hl 0 rfl) ?_
    refine lv_iload_n hx hb (ldec (pc := 603) rfl) rfl (lv_at hl 3 rfl) ?_
    refine lv_iconst (v := 2) hx hb (ldec (pc := 604) rfl) (by decide) ?_
    refine lv_iadd hx hb (ldec (pc := 605) rfl) ?_
    refine va_sld hx hb hX hbl hbA hS (law_in (j := 2) hiL hL (by decide)) (ldec (pc := 606) rfl) ?_
    refine lv_aload_n hx hb (ldec (pc := 607) rfl) rfl (lv_at hl 0 rfl) ?_
    refine lv_iload_n hx hb (ldec (pc := 608) rfl) rfl (lv_at hl 3 rfl) ?_
    refine lv_iconst (v := 3) hx hb (ldec (pc := 609) rfl) (by decide) ?_
    refine lv_iadd hx hb (ldec (pc := 610) rfl) ?_
    refine va_sld hx hb hX hbl hbA hS (law_in (j := 3) hiL hL (by decide)) (ldec (pc := 611) rfl) ?_
    refine lv_if_eq (tgt := 619) hx hb (ldec (pc := 612) rfl) (by decide) (fun _ => ?_) (fun z => absurd hz z)
    refine lv_iconst (v := 0) hx hb (ldec (pc := 619) rfl) (by decide) ?_
    refine law_call (k := 65) (n := 3) (q := 32885) (As := [.int (xs (nI i + 1).toNatClampNeg), .int (xs (nI i + 2).toNatClampNeg), .int 0]) (rest := [.int v]) C0 (ldec (pc := 620) rfl) (by decide +kernel) rfl (by decide) (by decide) rfl rfl rfl rfl rfl (Nat.le_of_ble_eq_true rfl) r2 ?_ H locs ls hP hD hS hl
    clear hP hD hS hl
    intro H locs ls hP hD hS hl
    exact lv_icmp_eq (tgt := 1244) hx hb (ldec (pc := 623) rfl) (by decide) (fun _ => K h2 hI2 H locs ls hP hD hS hl) (fun z => absurd rfl z)
  · obtain ⟨v, h1, h2, r1, r2, hI2⟩ := hop1 h hI
    intro H locs ls hP hD hS hl
    refine lv_aload_n hx hb (ldec (pc := 569) rfl) rfl (lv_at hl 1 rfl) ?_
    refine lv_aload_n hx hb (ldec (pc := 570) rfl) rfl (lv_at hl 0 rfl) ?_
    refine lv_iload_n hx hb (ldec (pc := 571) rfl) rfl (lv_at hl 3 rfl) ?_
    refine lv_iconst (v := 1) hx hb (ldec (pc := 572) rfl) (by decide) ?_
    refine lv_iadd hx hb (ldec (pc := 573) rfl) ?_
    refine va_sld hx hb hX hbl hbA hS (law_in (j := 1) hiL hL (by decide)) (ldec (pc := 574) rfl) ?_
    refine lv_aload_n hx hb (ldec (pc := 575) rfl) rfl (lv_at hl 0 rfl) ?_
    refine lv_iload_n hx hb (ldec (pc := 576) rfl) rfl (lv_at hl 3 rfl) ?_
    refine lv_iconst (v := 2) hx hb (ldec (pc := 577) rfl) (by decide) ?_
    refine lv_iadd hx hb (ldec (pc := 578) rfl) ?_
    refine va_sld hx hb hX hbl hbA hS (law_in (j := 2) hiL hL (by decide)) (ldec (pc := 579) rfl) ?_
    refine lv_aload_n hx hb (ldec (pc := 580) rfl) rfl (lv_at hl 0 rfl) ?_
    refine lv_iload_n hx hb (ldec (pc := 581) rfl) rfl (lv_at hl 3 rfl) ?_
    refine lv_iconst (v := 3) hx hb (ldec (pc := 582) rfl) (by decide) ?_
    refine lv_iadd hx hb (ldec (pc := 583) rfl) ?_
    refine va_sld hx hb hX hbl hbA hS (law_in (j := 3) hiL hL (by decide)) (ldec (pc := 584) rfl) ?_
    refine lv_if_eq (tgt := 592) hx hb (ldec (pc := 585) rfl) (by decide) (fun z => absurd z hz) (fun _ => ?_)
    refine lv_iconst (v := 1) hx hb (ldec (pc := 588) rfl) (by decide) ?_
    refine lv_goto (tgt := 593) hx hb (ldec (pc := 589) rfl) (by decide) ?_
    refine law_call (k := 0) (n := 3) (q := 16618) (As := [.int (xs (nI i + 1).toNatClampNeg), .int (xs (nI i + 2).toNatClampNeg), .int 1]) (rest := []) C0 (ldec (pc := 593) rfl) (by decide +kernel) rfl (by decide) (by decide) rfl rfl rfl rfl rfl (Nat.le_of_ble_eq_true rfl) r1 ?_ H locs ls hP hD hS hl
    clear hP hD hS hl
    intro H locs ls hP hD hS hl
    refine lv_aload_n hx hb (ldec (pc := 596) rfl) rfl (lv_at hl 2 rfl) ?_
    refine lv_aload_n hx hb (ldec (pc := 597) rfl) rfl (lv_at hl 0 rfl) ?_
    refine lv_iload_n hx hb (ldec (pc := 598) rfl) rfl (lv_at hl 3 rfl) ?_
    refine lv_iconst (v := 1) hx hb (ldec (pc := 599) rfl) (by decide) ?_
    refine lv_iadd hx hb (ldec (pc := 600) rfl) ?_
    refine va_sld hx hb hX hbl hbA hS (law_in (j := 1) hiL hL (by decide)) (ldec (pc := 601) rfl) ?_
    refine lv_aload_n hx hb (ldec (pc := 602) rfl) rfl (lv_at hl 0 rfl) ?_
    refine lv_iload_n hx hb (ldec (pc := 603) rfl) rfl (lv_at hl 3 rfl) ?_
    refine lv_iconst (v := 2) hx hb (ldec (pc := 604) rfl) (by decide) ?_
    refine lv_iadd hx hb (ldec (pc := 605) rfl) ?_
    refine va_sld hx hb hX hbl hbA hS (law_in (j := 2) hiL hL (by decide)) (ldec (pc := 606) rfl) ?_
    refine lv_aload_n hx hb (ldec (pc := 607) rfl) rfl (lv_at hl 0 rfl) ?_
    refine lv_iload_n hx hb (ldec (pc := 608) rfl) rfl (lv_at hl 3 rfl) ?_
    refine lv_iconst (v := 3) hx hb (ldec (pc := 609) rfl) (by decide) ?_
    refine lv_iadd hx hb (ldec (pc := 610) rfl) ?_
    refine va_sld hx hb hX hbl hbA hS (law_in (j := 3) hiL hL (by decide)) (ldec (pc := 611) rfl) ?_
    refine lv_if_eq (tgt := 619) hx hb (ldec (pc := 612) rfl) (by decide) (fun z => absurd z hz) (fun _ => ?_)
    refine lv_iconst (v := 1) hx hb (ldec (pc := 615) rfl) (by decide) ?_
    refine lv_goto (tgt := 620) hx hb (ldec (pc := 616) rfl) (by decide) ?_
    refine law_call (k := 65) (n := 3) (q := 32885) (As := [.int (xs (nI i + 1).toNatClampNeg), .int (xs (nI i + 2).toNatClampNeg), .int 1]) (rest := [.int v]) C0 (ldec (pc := 620) rfl) (by decide +kernel) rfl (by decide) (by decide) rfl rfl rfl rfl rfl (Nat.le_of_ble_eq_true rfl) r2 ?_ H locs ls hP hD hS hl
    clear hP hD hS hl
    intro H locs ls hP hD hS hl
    exact lv_icmp_eq (tgt := 1244) hx hb (ldec (pc := 623) rfl) (by decide) (fun _ => K h2 hI2 H locs ls hP hD hS hl) (fun z => absurd rfl z)
set_option maxHeartbeats 4000000 in
theorem lc_12 (C0 : lw_C p s m meth c b L xs D ad cy) {Inv : HP → Prop} {i : Nat} {h : HP} (hL : L ≤ 3072) (hiL : i + 6 ≤ L) (hI : Inv h) (hop : opL Inv j_E_worst j_M_worst [.int (xs (nI i + 1).toNatClampNeg)]) (K : ∀ h2, Inv h2 → LW p l e s m below meth c b D ad cy i 1244 [] h2) : LW p l e s m below meth c b D ad cy i 628 [] h := by
  obtain ⟨⟨hx, hb, hr, hml, hown, hts, hX, hbl, hlocks, hgv⟩, hK0, hXP⟩ := id C0
  have hbA : ¬ (fun q : Nat => s.heap.size ≤ q) b := Nat.not_le.mpr hbl
  obtain ⟨v, h1, h2, r1, r2, hI2⟩ := hop h hI
  intro H locs ls hP hD hS hl
  refine lv_aload_n hx hb (ldec (pc := 628) rfl) rfl (lv_at hl 1 rfl) ?_
  refine lv_aload_n hx hb (ldec (pc := 629) rfl) rfl (lv_at hl 0 rfl) ?_
  refine lv_iload_n hx hb (ldec (pc := 630) rfl) rfl (lv_at hl 3 rfl) ?_
  refine lv_iconst (v := 1) hx hb (ldec (pc := 631) rfl) (by decide) ?_
  refine lv_iadd hx hb (ldec (pc := 632) rfl) ?_
  refine va_sld hx hb hX hbl hbA hS (law_in (j := 1) hiL hL (by decide)) (ldec (pc := 633) rfl) ?_
  refine law_call (k := 0) (n := 1) (q := 20484) (As := [.int (xs (nI i + 1).toNatClampNeg)]) (rest := []) C0 (ldec (pc := 634) rfl) (by decide +kernel) rfl (by decide) (by decide) rfl rfl rfl rfl rfl (Nat.le_of_ble_eq_true rfl) r1 ?_ H locs ls hP hD hS hl
  clear hP hD hS hl
  intro H locs ls hP hD hS hl
  refine lv_aload_n hx hb (ldec (pc := 637) rfl) rfl (lv_at hl 2 rfl) ?_
  refine lv_aload_n hx hb (ldec (pc := 638) rfl) rfl (lv_at hl 0 rfl) ?_
  refine lv_iload_n hx hb (ldec (pc := 639) rfl) rfl (lv_at hl 3 rfl) ?_
  refine lv_iconst (v := 1) hx hb (ldec (pc := 640) rfl) (by decide) ?_
  refine lv_iadd hx hb (ldec (pc := 641) rfl) ?_
  refine va_sld hx hb hX hbl hbA hS (law_in (j := 1) hiL hL (by decide)) (ldec (pc := 642) rfl) ?_
  refine law_call (k := 65) (n := 1) (q := 32889) (As := [.int (xs (nI i + 1).toNatClampNeg)]) (rest := [.long v]) C0 (ldec (pc := 643) rfl) (by decide +kernel) rfl (by decide) (by decide) rfl rfl rfl rfl rfl (Nat.le_of_ble_eq_true rfl) r2 ?_ H locs ls hP hD hS hl
  clear hP hD hS hl
  intro H locs ls hP hD hS hl
  refine W.lcmp hx hb (ldec (pc := 646) rfl) ?_
  exact lv_if_eq (tgt := 1244) hx hb (ldec (pc := 647) rfl) (by decide) (fun _ => K h2 hI2 H locs ls hP hD hS hl) (fun z => absurd (lgc v) z)
set_option maxHeartbeats 4000000 in
theorem lc_13 (C0 : lw_C p s m meth c b L xs D ad cy) {Inv : HP → Prop} {i : Nat} {h : HP} (hL : L ≤ 3072) (hiL : i + 6 ≤ L) (hI : Inv h) (hop : opI Inv j_E_bars j_M_bars []) (K : ∀ h2, Inv h2 → LW p l e s m below meth c b D ad cy i 1244 [] h2) : LW p l e s m below meth c b D ad cy i 652 [] h := by
  obtain ⟨⟨hx, hb, hr, hml, hown, hts, hX, hbl, hlocks, hgv⟩, hK0, hXP⟩ := id C0
  have hbA : ¬ (fun q : Nat => s.heap.size ≤ q) b := Nat.not_le.mpr hbl
  obtain ⟨v, h1, h2, r1, r2, hI2⟩ := hop h hI
  intro H locs ls hP hD hS hl
  refine lv_aload_n hx hb (ldec (pc := 652) rfl) rfl (lv_at hl 1 rfl) ?_
  refine law_call (k := 0) (n := 0) (q := 20493) (As := []) (rest := []) C0 (ldec (pc := 653) rfl) (by decide +kernel) rfl (by decide) (by decide) rfl rfl rfl rfl rfl (Nat.le_of_ble_eq_true rfl) r1 ?_ H locs ls hP hD hS hl
  clear hP hD hS hl
  intro H locs ls hP hD hS hl
  refine lv_aload_n hx hb (ldec (pc := 656) rfl) rfl (lv_at hl 2 rfl) ?_
  refine law_call (k := 65) (n := 0) (q := 32897) (As := []) (rest := [.int v]) C0 (ldec (pc := 657) rfl) (by decide +kernel) rfl (by decide) (by decide) rfl rfl rfl rfl rfl (Nat.le_of_ble_eq_true rfl) r2 ?_ H locs ls hP hD hS hl
  clear hP hD hS hl
  intro H locs ls hP hD hS hl
  exact lv_icmp_eq (tgt := 1244) hx hb (ldec (pc := 660) rfl) (by decide) (fun _ => K h2 hI2 H locs ls hP hD hS hl) (fun z => absurd rfl z)
set_option maxHeartbeats 4000000 in
theorem lc_14 (C0 : lw_C p s m meth c b L xs D ad cy) {Inv : HP → Prop} {i : Nat} {h : HP} (hL : L ≤ 3072) (hiL : i + 6 ≤ L) (hI : Inv h) (hop : opI Inv j_E_first j_M_first []) (K : ∀ h2, Inv h2 → LW p l e s m below meth c b D ad cy i 1244 [] h2) : LW p l e s m below meth c b D ad cy i 665 [] h := by
  obtain ⟨⟨hx, hb, hr, hml, hown, hts, hX, hbl, hlocks, hgv⟩, hK0, hXP⟩ := id C0
  have hbA : ¬ (fun q : Nat => s.heap.size ≤ q) b := Nat.not_le.mpr hbl
  obtain ⟨v, h1, h2, r1, r2, hI2⟩ := hop h hI
  intro H locs ls hP hD hS hl
  refine lv_aload_n hx hb (ldec (pc := 665) rfl) rfl (lv_at hl 1 rfl) ?_
  refine law_call (k := 0) (n := 0) (q := 20497) (As := []) (rest := []) C0 (ldec (pc := 666) rfl) (by decide +kernel) rfl (by decide) (by decide) rfl rfl rfl rfl rfl (Nat.le_of_ble_eq_true rfl) r1 ?_ H locs ls hP hD hS hl
  clear hP hD hS hl
  intro H locs ls hP hD hS hl
  refine lv_aload_n hx hb (ldec (pc := 669) rfl) rfl (lv_at hl 2 rfl) ?_
  refine law_call (k := 65) (n := 0) (q := 32901) (As := []) (rest := [.int v]) C0 (ldec (pc := 670) rfl) (by decide +kernel) rfl (by decide) (by decide) rfl rfl rfl rfl rfl (Nat.le_of_ble_eq_true rfl) r2 ?_ H locs ls hP hD hS hl
  clear hP hD hS hl
  intro H locs ls hP hD hS hl
  exact lv_icmp_eq (tgt := 1244) hx hb (ldec (pc := 673) rfl) (by decide) (fun _ => K h2 hI2 H locs ls hP hD hS hl) (fun z => absurd rfl z)
set_option maxHeartbeats 4000000 in
theorem lc_15 (C0 : lw_C p s m meth c b L xs D ad cy) {Inv : HP → Prop} {i : Nat} {h : HP} (hL : L ≤ 3072) (hiL : i + 6 ≤ L) (hI : Inv h) (hop : opI Inv j_E_set j_M_set [.int (xs (nI i + 1).toNatClampNeg), .int (xs (nI i + 2).toNatClampNeg)]) (K : ∀ h2, Inv h2 → LW p l e s m below meth c b D ad cy i 1244 [] h2) : LW p l e s m below meth c b D ad cy i 678 [] h := by
  obtain ⟨⟨hx, hb, hr, hml, hown, hts, hX, hbl, hlocks, hgv⟩, hK0, hXP⟩ := id C0
  have hbA : ¬ (fun q : Nat => s.heap.size ≤ q) b := Nat.not_le.mpr hbl
  obtain ⟨v, h1, h2, r1, r2, hI2⟩ := hop h hI
  intro H locs ls hP hD hS hl
  refine lv_aload_n hx hb (ldec (pc := 678) rfl) rfl (lv_at hl 1 rfl) ?_
  refine lv_aload_n hx hb (ldec (pc := 679) rfl) rfl (lv_at hl 0 rfl) ?_
  refine lv_iload_n hx hb (ldec (pc := 680) rfl) rfl (lv_at hl 3 rfl) ?_
  refine lv_iconst (v := 1) hx hb (ldec (pc := 681) rfl) (by decide) ?_
  refine lv_iadd hx hb (ldec (pc := 682) rfl) ?_
  refine va_sld hx hb hX hbl hbA hS (law_in (j := 1) hiL hL (by decide)) (ldec (pc := 683) rfl) ?_
  refine lv_aload_n hx hb (ldec (pc := 684) rfl) rfl (lv_at hl 0 rfl) ?_
  refine lv_iload_n hx hb (ldec (pc := 685) rfl) rfl (lv_at hl 3 rfl) ?_
  refine lv_iconst (v := 2) hx hb (ldec (pc := 686) rfl) (by decide) ?_
  refine lv_iadd hx hb (ldec (pc := 687) rfl) ?_
  refine va_sld hx hb hX hbl hbA hS (law_in (j := 2) hiL hL (by decide)) (ldec (pc := 688) rfl) ?_
  refine law_call (k := 0) (n := 2) (q := 20501) (As := [.int (xs (nI i + 1).toNatClampNeg), .int (xs (nI i + 2).toNatClampNeg)]) (rest := []) C0 (ldec (pc := 689) rfl) (by decide +kernel) rfl (by decide) (by decide) rfl rfl rfl rfl rfl (Nat.le_of_ble_eq_true rfl) r1 ?_ H locs ls hP hD hS hl
  clear hP hD hS hl
  intro H locs ls hP hD hS hl
  refine lv_aload_n hx hb (ldec (pc := 692) rfl) rfl (lv_at hl 2 rfl) ?_
  refine lv_aload_n hx hb (ldec (pc := 693) rfl) rfl (lv_at hl 0 rfl) ?_
  refine lv_iload_n hx hb (ldec (pc := 694) rfl) rfl (lv_at hl 3 rfl) ?_
  refine lv_iconst (v := 1) hx hb (ldec (pc := 695) rfl) (by decide) ?_
  refine lv_iadd hx hb (ldec (pc := 696) rfl) ?_
  refine va_sld hx hb hX hbl hbA hS (law_in (j := 1) hiL hL (by decide)) (ldec (pc := 697) rfl) ?_
  refine lv_aload_n hx hb (ldec (pc := 698) rfl) rfl (lv_at hl 0 rfl) ?_
  refine lv_iload_n hx hb (ldec (pc := 699) rfl) rfl (lv_at hl 3 rfl) ?_
  refine lv_iconst (v := 2) hx hb (ldec (pc := 700) rfl) (by decide) ?_
  refine lv_iadd hx hb (ldec (pc := 701) rfl) ?_
  refine va_sld hx hb hX hbl hbA hS (law_in (j := 2) hiL hL (by decide)) (ldec (pc := 702) rfl) ?_
  refine law_call (k := 65) (n := 2) (q := 32905) (As := [.int (xs (nI i + 1).toNatClampNeg), .int (xs (nI i + 2).toNatClampNeg)]) (rest := [.int v]) C0 (ldec (pc := 703) rfl) (by decide +kernel) rfl (by decide) (by decide) rfl rfl rfl rfl rfl (Nat.le_of_ble_eq_true rfl) r2 ?_ H locs ls hP hD hS hl
  clear hP hD hS hl
  intro H locs ls hP hD hS hl
  exact lv_icmp_eq (tgt := 1244) hx hb (ldec (pc := 706) rfl) (by decide) (fun _ => K h2 hI2 H locs ls hP hD hS hl) (fun z => absurd rfl z)
set_option maxHeartbeats 4000000 in
theorem lc_16 (C0 : lw_C p s m meth c b L xs D ad cy) {Inv : HP → Prop} {i : Nat} {h : HP} (hL : L ≤ 3072) (hiL : i + 6 ≤ L) (hI : Inv h) (hop : opI Inv j_E_give j_M_give [.int (xs (nI i + 1).toNatClampNeg), .int (xs (nI i + 2).toNatClampNeg)]) (K : ∀ h2, Inv h2 → LW p l e s m below meth c b D ad cy i 1244 [] h2) : LW p l e s m below meth c b D ad cy i 711 [] h := by
  obtain ⟨⟨hx, hb, hr, hml, hown, hts, hX, hbl, hlocks, hgv⟩, hK0, hXP⟩ := id C0
  have hbA : ¬ (fun q : Nat => s.heap.size ≤ q) b := Nat.not_le.mpr hbl
  obtain ⟨v, h1, h2, r1, r2, hI2⟩ := hop h hI
  intro H locs ls hP hD hS hl
  refine lv_aload_n hx hb (ldec (pc := 711) rfl) rfl (lv_at hl 1 rfl) ?_
  refine lv_aload_n hx hb (ldec (pc := 712) rfl) rfl (lv_at hl 0 rfl) ?_
  refine lv_iload_n hx hb (ldec (pc := 713) rfl) rfl (lv_at hl 3 rfl) ?_
  refine lv_iconst (v := 1) hx hb (ldec (pc := 714) rfl) (by decide) ?_
  refine lv_iadd hx hb (ldec (pc := 715) rfl) ?_
  refine va_sld hx hb hX hbl hbA hS (law_in (j := 1) hiL hL (by decide)) (ldec (pc := 716) rfl) ?_
  refine lv_aload_n hx hb (ldec (pc := 717) rfl) rfl (lv_at hl 0 rfl) ?_
  refine lv_iload_n hx hb (ldec (pc := 718) rfl) rfl (lv_at hl 3 rfl) ?_
  refine lv_iconst (v := 2) hx hb (ldec (pc := 719) rfl) (by decide) ?_
  refine lv_iadd hx hb (ldec (pc := 720) rfl) ?_
  refine va_sld hx hb hX hbl hbA hS (law_in (j := 2) hiL hL (by decide)) (ldec (pc := 721) rfl) ?_
  refine law_call (k := 0) (n := 2) (q := 20509) (As := [.int (xs (nI i + 1).toNatClampNeg), .int (xs (nI i + 2).toNatClampNeg)]) (rest := []) C0 (ldec (pc := 722) rfl) (by decide +kernel) rfl (by decide) (by decide) rfl rfl rfl rfl rfl (Nat.le_of_ble_eq_true rfl) r1 ?_ H locs ls hP hD hS hl
  clear hP hD hS hl
  intro H locs ls hP hD hS hl
  refine lv_aload_n hx hb (ldec (pc := 725) rfl) rfl (lv_at hl 2 rfl) ?_
  refine lv_aload_n hx hb (ldec (pc := 726) rfl) rfl (lv_at hl 0 rfl) ?_
  refine lv_iload_n hx hb (ldec (pc := 727) rfl) rfl (lv_at hl 3 rfl) ?_
  refine lv_iconst (v := 1) hx hb (ldec (pc := 728) rfl) (by decide) ?_
  refine lv_iadd hx hb (ldec (pc := 729) rfl) ?_
  refine va_sld hx hb hX hbl hbA hS (law_in (j := 1) hiL hL (by decide)) (ldec (pc := 730) rfl) ?_
  refine lv_aload_n hx hb (ldec (pc := 731) rfl) rfl (lv_at hl 0 rfl) ?_
  refine lv_iload_n hx hb (ldec (pc := 732) rfl) rfl (lv_at hl 3 rfl) ?_
  refine lv_iconst (v := 2) hx hb (ldec (pc := 733) rfl) (by decide) ?_
  refine lv_iadd hx hb (ldec (pc := 734) rfl) ?_
  refine va_sld hx hb hX hbl hbA hS (law_in (j := 2) hiL hL (by decide)) (ldec (pc := 735) rfl) ?_
  refine law_call (k := 65) (n := 2) (q := 32913) (As := [.int (xs (nI i + 1).toNatClampNeg), .int (xs (nI i + 2).toNatClampNeg)]) (rest := [.int v]) C0 (ldec (pc := 736) rfl) (by decide +kernel) rfl (by decide) (by decide) rfl rfl rfl rfl rfl (Nat.le_of_ble_eq_true rfl) r2 ?_ H locs ls hP hD hS hl
  clear hP hD hS hl
  intro H locs ls hP hD hS hl
  exact lv_icmp_eq (tgt := 1244) hx hb (ldec (pc := 739) rfl) (by decide) (fun _ => K h2 hI2 H locs ls hP hD hS hl) (fun z => absurd rfl z)
set_option maxHeartbeats 4000000 in
theorem lc_17 (C0 : lw_C p s m meth c b L xs D ad cy) {Inv : HP → Prop} {i : Nat} {h : HP} (hL : L ≤ 3072) (hiL : i + 6 ≤ L) (hI : Inv h) (hop : opI Inv j_E_step j_M_step [.int (xs (nI i + 1).toNatClampNeg)]) (K : ∀ h2, Inv h2 → LW p l e s m below meth c b D ad cy i 1244 [] h2) : LW p l e s m below meth c b D ad cy i 744 [] h := by
  obtain ⟨⟨hx, hb, hr, hml, hown, hts, hX, hbl, hlocks, hgv⟩, hK0, hXP⟩ := id C0
  have hbA : ¬ (fun q : Nat => s.heap.size ≤ q) b := Nat.not_le.mpr hbl
  obtain ⟨v, h1, h2, r1, r2, hI2⟩ := hop h hI
  intro H locs ls hP hD hS hl
  refine lv_aload_n hx hb (ldec (pc := 744) rfl) rfl (lv_at hl 1 rfl) ?_
  refine lv_aload_n hx hb (ldec (pc := 745) rfl) rfl (lv_at hl 0 rfl) ?_
  refine lv_iload_n hx hb (ldec (pc := 746) rfl) rfl (lv_at hl 3 rfl) ?_
  refine lv_iconst (v := 1) hx hb (ldec (pc := 747) rfl) (by decide) ?_
  refine lv_iadd hx hb (ldec (pc := 748) rfl) ?_
  refine va_sld hx hb hX hbl hbA hS (law_in (j := 1) hiL hL (by decide)) (ldec (pc := 749) rfl) ?_
  refine law_call (k := 0) (n := 1) (q := 20513) (As := [.int (xs (nI i + 1).toNatClampNeg)]) (rest := []) C0 (ldec (pc := 750) rfl) (by decide +kernel) rfl (by decide) (by decide) rfl rfl rfl rfl rfl (Nat.le_of_ble_eq_true rfl) r1 ?_ H locs ls hP hD hS hl
  clear hP hD hS hl
  intro H locs ls hP hD hS hl
  refine lv_aload_n hx hb (ldec (pc := 753) rfl) rfl (lv_at hl 2 rfl) ?_
  refine lv_aload_n hx hb (ldec (pc := 754) rfl) rfl (lv_at hl 0 rfl) ?_
  refine lv_iload_n hx hb (ldec (pc := 755) rfl) rfl (lv_at hl 3 rfl) ?_
  refine lv_iconst (v := 1) hx hb (ldec (pc := 756) rfl) (by decide) ?_
  refine lv_iadd hx hb (ldec (pc := 757) rfl) ?_
  refine va_sld hx hb hX hbl hbA hS (law_in (j := 1) hiL hL (by decide)) (ldec (pc := 758) rfl) ?_
  refine law_call (k := 65) (n := 1) (q := 32917) (As := [.int (xs (nI i + 1).toNatClampNeg)]) (rest := [.int v]) C0 (ldec (pc := 759) rfl) (by decide +kernel) rfl (by decide) (by decide) rfl rfl rfl rfl rfl (Nat.le_of_ble_eq_true rfl) r2 ?_ H locs ls hP hD hS hl
  clear hP hD hS hl
  intro H locs ls hP hD hS hl
  exact lv_icmp_eq (tgt := 1244) hx hb (ldec (pc := 762) rfl) (by decide) (fun _ => K h2 hI2 H locs ls hP hD hS hl) (fun z => absurd rfl z)
set_option maxHeartbeats 4000000 in
theorem lc_18 (C0 : lw_C p s m meth c b L xs D ad cy) {Inv : HP → Prop} {i : Nat} {h : HP} (hL : L ≤ 3072) (hiL : i + 6 ≤ L) (hI : Inv h) (hop : opI Inv j_E_round j_M_round [.int (xs (nI i + 1).toNatClampNeg)]) (K : ∀ h2, Inv h2 → LW p l e s m below meth c b D ad cy i 1244 [] h2) : LW p l e s m below meth c b D ad cy i 767 [] h := by
  obtain ⟨⟨hx, hb, hr, hml, hown, hts, hX, hbl, hlocks, hgv⟩, hK0, hXP⟩ := id C0
  have hbA : ¬ (fun q : Nat => s.heap.size ≤ q) b := Nat.not_le.mpr hbl
  obtain ⟨v, h1, h2, r1, r2, hI2⟩ := hop h hI
  intro H locs ls hP hD hS hl
  refine lv_aload_n hx hb (ldec (pc := 767) rfl) rfl (lv_at hl 1 rfl) ?_
  refine lv_aload_n hx hb (ldec (pc := 768) rfl) rfl (lv_at hl 0 rfl) ?_
  refine lv_iload_n hx hb (ldec (pc := 769) rfl) rfl (lv_at hl 3 rfl) ?_
  refine lv_iconst (v := 1) hx hb (ldec (pc := 770) rfl) (by decide) ?_
  refine lv_iadd hx hb (ldec (pc := 771) rfl) ?_
  refine va_sld hx hb hX hbl hbA hS (law_in (j := 1) hiL hL (by decide)) (ldec (pc := 772) rfl) ?_
  refine law_call (k := 0) (n := 1) (q := 20555) (As := [.int (xs (nI i + 1).toNatClampNeg)]) (rest := []) C0 (ldec (pc := 773) rfl) (by decide +kernel) rfl (by decide) (by decide) rfl rfl rfl rfl rfl (Nat.le_of_ble_eq_true rfl) r1 ?_ H locs ls hP hD hS hl
  clear hP hD hS hl
  intro H locs ls hP hD hS hl
  refine lv_aload_n hx hb (ldec (pc := 776) rfl) rfl (lv_at hl 2 rfl) ?_
  refine lv_aload_n hx hb (ldec (pc := 777) rfl) rfl (lv_at hl 0 rfl) ?_
  refine lv_iload_n hx hb (ldec (pc := 778) rfl) rfl (lv_at hl 3 rfl) ?_
  refine lv_iconst (v := 1) hx hb (ldec (pc := 779) rfl) (by decide) ?_
  refine lv_iadd hx hb (ldec (pc := 780) rfl) ?_
  refine va_sld hx hb hX hbl hbA hS (law_in (j := 1) hiL hL (by decide)) (ldec (pc := 781) rfl) ?_
  refine law_call (k := 65) (n := 1) (q := 32929) (As := [.int (xs (nI i + 1).toNatClampNeg)]) (rest := [.int v]) C0 (ldec (pc := 782) rfl) (by decide +kernel) rfl (by decide) (by decide) rfl rfl rfl rfl rfl (Nat.le_of_ble_eq_true rfl) r2 ?_ H locs ls hP hD hS hl
  clear hP hD hS hl
  intro H locs ls hP hD hS hl
  exact lv_icmp_eq (tgt := 1244) hx hb (ldec (pc := 785) rfl) (by decide) (fun _ => K h2 hI2 H locs ls hP hD hS hl) (fun z => absurd rfl z)
set_option maxHeartbeats 4000000 in
theorem lc_19 (C0 : lw_C p s m meth c b L xs D ad cy) {Inv : HP → Prop} {i : Nat} {h : HP} (hL : L ≤ 3072) (hiL : i + 6 ≤ L) (hI : Inv h) (hop : opI Inv j_E_block j_M_block [.int (xs (nI i + 1).toNatClampNeg)]) (K : ∀ h2, Inv h2 → LW p l e s m below meth c b D ad cy i 1244 [] h2) : LW p l e s m below meth c b D ad cy i 790 [] h := by
  obtain ⟨⟨hx, hb, hr, hml, hown, hts, hX, hbl, hlocks, hgv⟩, hK0, hXP⟩ := id C0
  have hbA : ¬ (fun q : Nat => s.heap.size ≤ q) b := Nat.not_le.mpr hbl
  obtain ⟨v, h1, h2, r1, r2, hI2⟩ := hop h hI
  intro H locs ls hP hD hS hl
  refine lv_aload_n hx hb (ldec (pc := 790) rfl) rfl (lv_at hl 1 rfl) ?_
  refine lv_aload_n hx hb (ldec (pc := 791) rfl) rfl (lv_at hl 0 rfl) ?_
  refine lv_iload_n hx hb (ldec (pc := 792) rfl) rfl (lv_at hl 3 rfl) ?_
  refine lv_iconst (v := 1) hx hb (ldec (pc := 793) rfl) (by decide) ?_
  refine lv_iadd hx hb (ldec (pc := 794) rfl) ?_
  refine va_sld hx hb hX hbl hbA hS (law_in (j := 1) hiL hL (by decide)) (ldec (pc := 795) rfl) ?_
  refine law_call (k := 0) (n := 1) (q := 20567) (As := [.int (xs (nI i + 1).toNatClampNeg)]) (rest := []) C0 (ldec (pc := 796) rfl) (by decide +kernel) rfl (by decide) (by decide) rfl rfl rfl rfl rfl (Nat.le_of_ble_eq_true rfl) r1 ?_ H locs ls hP hD hS hl
  clear hP hD hS hl
  intro H locs ls hP hD hS hl
  refine lv_aload_n hx hb (ldec (pc := 799) rfl) rfl (lv_at hl 2 rfl) ?_
  refine lv_aload_n hx hb (ldec (pc := 800) rfl) rfl (lv_at hl 0 rfl) ?_
  refine lv_iload_n hx hb (ldec (pc := 801) rfl) rfl (lv_at hl 3 rfl) ?_
  refine lv_iconst (v := 1) hx hb (ldec (pc := 802) rfl) (by decide) ?_
  refine lv_iadd hx hb (ldec (pc := 803) rfl) ?_
  refine va_sld hx hb hX hbl hbA hS (law_in (j := 1) hiL hL (by decide)) (ldec (pc := 804) rfl) ?_
  refine law_call (k := 65) (n := 1) (q := 32941) (As := [.int (xs (nI i + 1).toNatClampNeg)]) (rest := [.int v]) C0 (ldec (pc := 805) rfl) (by decide +kernel) rfl (by decide) (by decide) rfl rfl rfl rfl rfl (Nat.le_of_ble_eq_true rfl) r2 ?_ H locs ls hP hD hS hl
  clear hP hD hS hl
  intro H locs ls hP hD hS hl
  exact lv_icmp_eq (tgt := 1244) hx hb (ldec (pc := 808) rfl) (by decide) (fun _ => K h2 hI2 H locs ls hP hD hS hl) (fun z => absurd rfl z)
set_option maxHeartbeats 4000000 in
theorem lc_20 (C0 : lw_C p s m meth c b L xs D ad cy) {Inv : HP → Prop} {i : Nat} {h : HP} (hL : L ≤ 3072) (hiL : i + 6 ≤ L) (hI : Inv h) (hop : opI Inv j_E_even j_M_even [.int (xs (nI i + 1).toNatClampNeg), .int (xs (nI i + 2).toNatClampNeg), .int (xs (nI i + 3).toNatClampNeg)]) (K : ∀ h2, Inv h2 → LW p l e s m below meth c b D ad cy i 1244 [] h2) : LW p l e s m below meth c b D ad cy i 813 [] h := by
  obtain ⟨⟨hx, hb, hr, hml, hown, hts, hX, hbl, hlocks, hgv⟩, hK0, hXP⟩ := id C0
  have hbA : ¬ (fun q : Nat => s.heap.size ≤ q) b := Nat.not_le.mpr hbl
  obtain ⟨v, h1, h2, r1, r2, hI2⟩ := hop h hI
  intro H locs ls hP hD hS hl
  refine lv_aload_n hx hb (ldec (pc := 813) rfl) rfl (lv_at hl 1 rfl) ?_
  refine lv_aload_n hx hb (ldec (pc := 814) rfl) rfl (lv_at hl 0 rfl) ?_
  refine lv_iload_n hx hb (ldec (pc := 815) rfl) rfl (lv_at hl 3 rfl) ?_
  refine lv_iconst (v := 1) hx hb (ldec (pc := 816) rfl) (by decide) ?_
  refine lv_iadd hx hb (ldec (pc := 817) rfl) ?_
  refine va_sld hx hb hX hbl hbA hS (law_in (j := 1) hiL hL (by decide)) (ldec (pc := 818) rfl) ?_
  refine lv_aload_n hx hb (ldec (pc := 819) rfl) rfl (lv_at hl 0 rfl) ?_
  refine lv_iload_n hx hb (ldec (pc := 820) rfl) rfl (lv_at hl 3 rfl) ?_
  refine lv_iconst (v := 2) hx hb (ldec (pc := 821) rfl) (by decide) ?_
  refine lv_iadd hx hb (ldec (pc := 822) rfl) ?_
  refine va_sld hx hb hX hbl hbA hS (law_in (j := 2) hiL hL (by decide)) (ldec (pc := 823) rfl) ?_
  refine lv_aload_n hx hb (ldec (pc := 824) rfl) rfl (lv_at hl 0 rfl) ?_
  refine lv_iload_n hx hb (ldec (pc := 825) rfl) rfl (lv_at hl 3 rfl) ?_
  refine lv_iconst (v := 3) hx hb (ldec (pc := 826) rfl) (by decide) ?_
  refine lv_iadd hx hb (ldec (pc := 827) rfl) ?_
  refine va_sld hx hb hX hbl hbA hS (law_in (j := 3) hiL hL (by decide)) (ldec (pc := 828) rfl) ?_
  refine law_call (k := 0) (n := 3) (q := 20571) (As := [.int (xs (nI i + 1).toNatClampNeg), .int (xs (nI i + 2).toNatClampNeg), .int (xs (nI i + 3).toNatClampNeg)]) (rest := []) C0 (ldec (pc := 829) rfl) (by decide +kernel) rfl (by decide) (by decide) rfl rfl rfl rfl rfl (Nat.le_of_ble_eq_true rfl) r1 ?_ H locs ls hP hD hS hl
  clear hP hD hS hl
  intro H locs ls hP hD hS hl
  refine lv_aload_n hx hb (ldec (pc := 832) rfl) rfl (lv_at hl 2 rfl) ?_
  refine lv_aload_n hx hb (ldec (pc := 833) rfl) rfl (lv_at hl 0 rfl) ?_
  refine lv_iload_n hx hb (ldec (pc := 834) rfl) rfl (lv_at hl 3 rfl) ?_
  refine lv_iconst (v := 1) hx hb (ldec (pc := 835) rfl) (by decide) ?_
  refine lv_iadd hx hb (ldec (pc := 836) rfl) ?_
  refine va_sld hx hb hX hbl hbA hS (law_in (j := 1) hiL hL (by decide)) (ldec (pc := 837) rfl) ?_
  refine lv_aload_n hx hb (ldec (pc := 838) rfl) rfl (lv_at hl 0 rfl) ?_
  refine lv_iload_n hx hb (ldec (pc := 839) rfl) rfl (lv_at hl 3 rfl) ?_
  refine lv_iconst (v := 2) hx hb (ldec (pc := 840) rfl) (by decide) ?_
  refine lv_iadd hx hb (ldec (pc := 841) rfl) ?_
  refine va_sld hx hb hX hbl hbA hS (law_in (j := 2) hiL hL (by decide)) (ldec (pc := 842) rfl) ?_
  refine lv_aload_n hx hb (ldec (pc := 843) rfl) rfl (lv_at hl 0 rfl) ?_
  refine lv_iload_n hx hb (ldec (pc := 844) rfl) rfl (lv_at hl 3 rfl) ?_
  refine lv_iconst (v := 3) hx hb (ldec (pc := 845) rfl) (by decide) ?_
  refine lv_iadd hx hb (ldec (pc := 846) rfl) ?_
  refine va_sld hx hb hX hbl hbA hS (law_in (j := 3) hiL hL (by decide)) (ldec (pc := 847) rfl) ?_
  refine law_call (k := 65) (n := 3) (q := 32945) (As := [.int (xs (nI i + 1).toNatClampNeg), .int (xs (nI i + 2).toNatClampNeg), .int (xs (nI i + 3).toNatClampNeg)]) (rest := [.int v]) C0 (ldec (pc := 848) rfl) (by decide +kernel) rfl (by decide) (by decide) rfl rfl rfl rfl rfl (Nat.le_of_ble_eq_true rfl) r2 ?_ H locs ls hP hD hS hl
  clear hP hD hS hl
  intro H locs ls hP hD hS hl
  exact lv_icmp_eq (tgt := 1244) hx hb (ldec (pc := 851) rfl) (by decide) (fun _ => K h2 hI2 H locs ls hP hD hS hl) (fun z => absurd rfl z)
set_option maxHeartbeats 4000000 in
theorem lc_21 (C0 : lw_C p s m meth c b L xs D ad cy) {Inv : HP → Prop} {i : Nat} {h : HP} (hL : L ≤ 3072) (hiL : i + 6 ≤ L) (hI : Inv h) (hop : opI Inv j_E_cut j_M_cut [.int (xs (nI i + 1).toNatClampNeg)]) (K : ∀ h2, Inv h2 → LW p l e s m below meth c b D ad cy i 1244 [] h2) : LW p l e s m below meth c b D ad cy i 856 [] h := by
  obtain ⟨⟨hx, hb, hr, hml, hown, hts, hX, hbl, hlocks, hgv⟩, hK0, hXP⟩ := id C0
  have hbA : ¬ (fun q : Nat => s.heap.size ≤ q) b := Nat.not_le.mpr hbl
  obtain ⟨v, h1, h2, r1, r2, hI2⟩ := hop h hI
  intro H locs ls hP hD hS hl
  refine lv_aload_n hx hb (ldec (pc := 856) rfl) rfl (lv_at hl 1 rfl) ?_
  refine lv_aload_n hx hb (ldec (pc := 857) rfl) rfl (lv_at hl 0 rfl) ?_
  refine lv_iload_n hx hb (ldec (pc := 858) rfl) rfl (lv_at hl 3 rfl) ?_
  refine lv_iconst (v := 1) hx hb (ldec (pc := 859) rfl) (by decide) ?_
  refine lv_iadd hx hb (ldec (pc := 860) rfl) ?_
  refine va_sld hx hb hX hbl hbA hS (law_in (j := 1) hiL hL (by decide)) (ldec (pc := 861) rfl) ?_
  refine law_call (k := 0) (n := 1) (q := 20612) (As := [.int (xs (nI i + 1).toNatClampNeg)]) (rest := []) C0 (ldec (pc := 862) rfl) (by decide +kernel) rfl (by decide) (by decide) rfl rfl rfl rfl rfl (Nat.le_of_ble_eq_true rfl) r1 ?_ H locs ls hP hD hS hl
  clear hP hD hS hl
  intro H locs ls hP hD hS hl
  refine lv_aload_n hx hb (ldec (pc := 865) rfl) rfl (lv_at hl 2 rfl) ?_
  refine lv_aload_n hx hb (ldec (pc := 866) rfl) rfl (lv_at hl 0 rfl) ?_
  refine lv_iload_n hx hb (ldec (pc := 867) rfl) rfl (lv_at hl 3 rfl) ?_
  refine lv_iconst (v := 1) hx hb (ldec (pc := 868) rfl) (by decide) ?_
  refine lv_iadd hx hb (ldec (pc := 869) rfl) ?_
  refine va_sld hx hb hX hbl hbA hS (law_in (j := 1) hiL hL (by decide)) (ldec (pc := 870) rfl) ?_
  refine law_call (k := 65) (n := 1) (q := 32961) (As := [.int (xs (nI i + 1).toNatClampNeg)]) (rest := [.int v]) C0 (ldec (pc := 871) rfl) (by decide +kernel) rfl (by decide) (by decide) rfl rfl rfl rfl rfl (Nat.le_of_ble_eq_true rfl) r2 ?_ H locs ls hP hD hS hl
  clear hP hD hS hl
  intro H locs ls hP hD hS hl
  exact lv_icmp_eq (tgt := 1244) hx hb (ldec (pc := 874) rfl) (by decide) (fun _ => K h2 hI2 H locs ls hP hD hS hl) (fun z => absurd rfl z)
set_option maxHeartbeats 4000000 in
theorem lc_22 (C0 : lw_C p s m meth c b L xs D ad cy) {Inv : HP → Prop} {i : Nat} {h : HP} (hL : L ≤ 3072) (hiL : i + 6 ≤ L) (hI : Inv h) (hop : opI Inv j_E_least j_M_least [.int (xs (nI i + 1).toNatClampNeg)]) (K : ∀ h2, Inv h2 → LW p l e s m below meth c b D ad cy i 1244 [] h2) : LW p l e s m below meth c b D ad cy i 879 [] h := by
  obtain ⟨⟨hx, hb, hr, hml, hown, hts, hX, hbl, hlocks, hgv⟩, hK0, hXP⟩ := id C0
  have hbA : ¬ (fun q : Nat => s.heap.size ≤ q) b := Nat.not_le.mpr hbl
  obtain ⟨v, h1, h2, r1, r2, hI2⟩ := hop h hI
  intro H locs ls hP hD hS hl
  refine lv_aload_n hx hb (ldec (pc := 879) rfl) rfl (lv_at hl 1 rfl) ?_
  refine lv_aload_n hx hb (ldec (pc := 880) rfl) rfl (lv_at hl 0 rfl) ?_
  refine lv_iload_n hx hb (ldec (pc := 881) rfl) rfl (lv_at hl 3 rfl) ?_
  refine lv_iconst (v := 1) hx hb (ldec (pc := 882) rfl) (by decide) ?_
  refine lv_iadd hx hb (ldec (pc := 883) rfl) ?_
  refine va_sld hx hb hX hbl hbA hS (law_in (j := 1) hiL hL (by decide)) (ldec (pc := 884) rfl) ?_
  refine law_call (k := 0) (n := 1) (q := 20616) (As := [.int (xs (nI i + 1).toNatClampNeg)]) (rest := []) C0 (ldec (pc := 885) rfl) (by decide +kernel) rfl (by decide) (by decide) rfl rfl rfl rfl rfl (Nat.le_of_ble_eq_true rfl) r1 ?_ H locs ls hP hD hS hl
  clear hP hD hS hl
  intro H locs ls hP hD hS hl
  refine lv_aload_n hx hb (ldec (pc := 888) rfl) rfl (lv_at hl 2 rfl) ?_
  refine lv_aload_n hx hb (ldec (pc := 889) rfl) rfl (lv_at hl 0 rfl) ?_
  refine lv_iload_n hx hb (ldec (pc := 890) rfl) rfl (lv_at hl 3 rfl) ?_
  refine lv_iconst (v := 1) hx hb (ldec (pc := 891) rfl) (by decide) ?_
  refine lv_iadd hx hb (ldec (pc := 892) rfl) ?_
  refine va_sld hx hb hX hbl hbA hS (law_in (j := 1) hiL hL (by decide)) (ldec (pc := 893) rfl) ?_
  refine law_call (k := 65) (n := 1) (q := 32965) (As := [.int (xs (nI i + 1).toNatClampNeg)]) (rest := [.int v]) C0 (ldec (pc := 894) rfl) (by decide +kernel) rfl (by decide) (by decide) rfl rfl rfl rfl rfl (Nat.le_of_ble_eq_true rfl) r2 ?_ H locs ls hP hD hS hl
  clear hP hD hS hl
  intro H locs ls hP hD hS hl
  exact lv_icmp_eq (tgt := 1244) hx hb (ldec (pc := 897) rfl) (by decide) (fun _ => K h2 hI2 H locs ls hP hD hS hl) (fun z => absurd rfl z)
set_option maxHeartbeats 4000000 in
theorem lc_23 (C0 : lw_C p s m meth c b L xs D ad cy) {Inv : HP → Prop} {i : Nat} {h : HP} (hL : L ≤ 3072) (hiL : i + 6 ≤ L) (hI : Inv h) (hop : opI Inv j_E_cycle j_M_cycle [.int (xs (nI i + 1).toNatClampNeg)]) (K : ∀ h2, Inv h2 → LW p l e s m below meth c b D ad cy i 1244 [] h2) : LW p l e s m below meth c b D ad cy i 902 [] h := by
  obtain ⟨⟨hx, hb, hr, hml, hown, hts, hX, hbl, hlocks, hgv⟩, hK0, hXP⟩ := id C0
  have hbA : ¬ (fun q : Nat => s.heap.size ≤ q) b := Nat.not_le.mpr hbl
  obtain ⟨v, h1, h2, r1, r2, hI2⟩ := hop h hI
  intro H locs ls hP hD hS hl
  refine lv_aload_n hx hb (ldec (pc := 902) rfl) rfl (lv_at hl 1 rfl) ?_
  refine lv_aload_n hx hb (ldec (pc := 903) rfl) rfl (lv_at hl 0 rfl) ?_
  refine lv_iload_n hx hb (ldec (pc := 904) rfl) rfl (lv_at hl 3 rfl) ?_
  refine lv_iconst (v := 1) hx hb (ldec (pc := 905) rfl) (by decide) ?_
  refine lv_iadd hx hb (ldec (pc := 906) rfl) ?_
  refine va_sld hx hb hX hbl hbA hS (law_in (j := 1) hiL hL (by decide)) (ldec (pc := 907) rfl) ?_
  refine law_call (k := 0) (n := 1) (q := 20625) (As := [.int (xs (nI i + 1).toNatClampNeg)]) (rest := []) C0 (ldec (pc := 908) rfl) (by decide +kernel) rfl (by decide) (by decide) rfl rfl rfl rfl rfl (Nat.le_of_ble_eq_true rfl) r1 ?_ H locs ls hP hD hS hl
  clear hP hD hS hl
  intro H locs ls hP hD hS hl
  refine lv_aload_n hx hb (ldec (pc := 911) rfl) rfl (lv_at hl 2 rfl) ?_
  refine lv_aload_n hx hb (ldec (pc := 912) rfl) rfl (lv_at hl 0 rfl) ?_
  refine lv_iload_n hx hb (ldec (pc := 913) rfl) rfl (lv_at hl 3 rfl) ?_
  refine lv_iconst (v := 1) hx hb (ldec (pc := 914) rfl) (by decide) ?_
  refine lv_iadd hx hb (ldec (pc := 915) rfl) ?_
  refine va_sld hx hb hX hbl hbA hS (law_in (j := 1) hiL hL (by decide)) (ldec (pc := 916) rfl) ?_
  refine law_call (k := 65) (n := 1) (q := 32973) (As := [.int (xs (nI i + 1).toNatClampNeg)]) (rest := [.int v]) C0 (ldec (pc := 917) rfl) (by decide +kernel) rfl (by decide) (by decide) rfl rfl rfl rfl rfl (Nat.le_of_ble_eq_true rfl) r2 ?_ H locs ls hP hD hS hl
  clear hP hD hS hl
  intro H locs ls hP hD hS hl
  exact lv_icmp_eq (tgt := 1244) hx hb (ldec (pc := 920) rfl) (by decide) (fun _ => K h2 hI2 H locs ls hP hD hS hl) (fun z => absurd rfl z)
set_option maxHeartbeats 4000000 in
theorem lc_24 (C0 : lw_C p s m meth c b L xs D ad cy) {Inv : HP → Prop} {i : Nat} {h : HP} (hL : L ≤ 3072) (hiL : i + 6 ≤ L) (hI : Inv h) (hop : opI Inv j_E_swaps j_M_swaps [.int (xs (nI i + 1).toNatClampNeg)]) (K : ∀ h2, Inv h2 → LW p l e s m below meth c b D ad cy i 1244 [] h2) : LW p l e s m below meth c b D ad cy i 925 [] h := by
  obtain ⟨⟨hx, hb, hr, hml, hown, hts, hX, hbl, hlocks, hgv⟩, hK0, hXP⟩ := id C0
  have hbA : ¬ (fun q : Nat => s.heap.size ≤ q) b := Nat.not_le.mpr hbl
  obtain ⟨v, h1, h2, r1, r2, hI2⟩ := hop h hI
  intro H locs ls hP hD hS hl
  refine lv_aload_n hx hb (ldec (pc := 925) rfl) rfl (lv_at hl 1 rfl) ?_
  refine lv_aload_n hx hb (ldec (pc := 926) rfl) rfl (lv_at hl 0 rfl) ?_
  refine lv_iload_n hx hb (ldec (pc := 927) rfl) rfl (lv_at hl 3 rfl) ?_
  refine lv_iconst (v := 1) hx hb (ldec (pc := 928) rfl) (by decide) ?_
  refine lv_iadd hx hb (ldec (pc := 929) rfl) ?_
  refine va_sld hx hb hX hbl hbA hS (law_in (j := 1) hiL hL (by decide)) (ldec (pc := 930) rfl) ?_
  refine law_call (k := 0) (n := 1) (q := 20633) (As := [.int (xs (nI i + 1).toNatClampNeg)]) (rest := []) C0 (ldec (pc := 931) rfl) (by decide +kernel) rfl (by decide) (by decide) rfl rfl rfl rfl rfl (Nat.le_of_ble_eq_true rfl) r1 ?_ H locs ls hP hD hS hl
  clear hP hD hS hl
  intro H locs ls hP hD hS hl
  refine lv_aload_n hx hb (ldec (pc := 934) rfl) rfl (lv_at hl 2 rfl) ?_
  refine lv_aload_n hx hb (ldec (pc := 935) rfl) rfl (lv_at hl 0 rfl) ?_
  refine lv_iload_n hx hb (ldec (pc := 936) rfl) rfl (lv_at hl 3 rfl) ?_
  refine lv_iconst (v := 1) hx hb (ldec (pc := 937) rfl) (by decide) ?_
  refine lv_iadd hx hb (ldec (pc := 938) rfl) ?_
  refine va_sld hx hb hX hbl hbA hS (law_in (j := 1) hiL hL (by decide)) (ldec (pc := 939) rfl) ?_
  refine law_call (k := 65) (n := 1) (q := 32978) (As := [.int (xs (nI i + 1).toNatClampNeg)]) (rest := [.int v]) C0 (ldec (pc := 940) rfl) (by decide +kernel) rfl (by decide) (by decide) rfl rfl rfl rfl rfl (Nat.le_of_ble_eq_true rfl) r2 ?_ H locs ls hP hD hS hl
  clear hP hD hS hl
  intro H locs ls hP hD hS hl
  exact lv_icmp_eq (tgt := 1244) hx hb (ldec (pc := 943) rfl) (by decide) (fun _ => K h2 hI2 H locs ls hP hD hS hl) (fun z => absurd rfl z)
set_option maxHeartbeats 4000000 in
theorem lc_25 (C0 : lw_C p s m meth c b L xs D ad cy) {Inv : HP → Prop} {i : Nat} {h : HP} (hL : L ≤ 3072) (hiL : i + 6 ≤ L) (hI : Inv h) (hop : opI Inv j_E_ended j_M_ended []) (K : ∀ h2, Inv h2 → LW p l e s m below meth c b D ad cy i 1244 [] h2) : LW p l e s m below meth c b D ad cy i 948 [] h := by
  obtain ⟨⟨hx, hb, hr, hml, hown, hts, hX, hbl, hlocks, hgv⟩, hK0, hXP⟩ := id C0
  have hbA : ¬ (fun q : Nat => s.heap.size ≤ q) b := Nat.not_le.mpr hbl
  obtain ⟨v, h1, h2, r1, r2, hI2⟩ := hop h hI
  intro H locs ls hP hD hS hl
  refine lv_aload_n hx hb (ldec (pc := 948) rfl) rfl (lv_at hl 1 rfl) ?_
  refine law_call (k := 0) (n := 0) (q := 20674) (As := []) (rest := []) C0 (ldec (pc := 949) rfl) (by decide +kernel) rfl (by decide) (by decide) rfl rfl rfl rfl rfl (Nat.le_of_ble_eq_true rfl) r1 ?_ H locs ls hP hD hS hl
  clear hP hD hS hl
  intro H locs ls hP hD hS hl
  refine lv_aload_n hx hb (ldec (pc := 952) rfl) rfl (lv_at hl 2 rfl) ?_
  refine law_call (k := 65) (n := 0) (q := 32988) (As := []) (rest := [.int v]) C0 (ldec (pc := 953) rfl) (by decide +kernel) rfl (by decide) (by decide) rfl rfl rfl rfl rfl (Nat.le_of_ble_eq_true rfl) r2 ?_ H locs ls hP hD hS hl
  clear hP hD hS hl
  intro H locs ls hP hD hS hl
  exact lv_icmp_eq (tgt := 1244) hx hb (ldec (pc := 956) rfl) (by decide) (fun _ => K h2 hI2 H locs ls hP hD hS hl) (fun z => absurd rfl z)
set_option maxHeartbeats 4000000 in
theorem lc_26 (C0 : lw_C p s m meth c b L xs D ad cy) {Inv : HP → Prop} {i : Nat} {h : HP} (hL : L ≤ 3072) (hiL : i + 6 ≤ L) (hI : Inv h) (hop : opI Inv j_E_ill j_M_ill [.int (xs (nI i + 1).toNatClampNeg), .int (xs (nI i + 2).toNatClampNeg), .int (xs (nI i + 3).toNatClampNeg), .long (((xs (nI i + 4).toNatClampNeg).toInt64 <<< ((32 : Int32).toInt64 &&& 63)) ||| ((xs (nI i + 5).toNatClampNeg).toInt64 &&& 4294967295))]) (K : ∀ h2, Inv h2 → LW p l e s m below meth c b D ad cy i 1244 [] h2) : LW p l e s m below meth c b D ad cy i 961 [] h := by
  obtain ⟨⟨hx, hb, hr, hml, hown, hts, hX, hbl, hlocks, hgv⟩, hK0, hXP⟩ := id C0
  have hbA : ¬ (fun q : Nat => s.heap.size ≤ q) b := Nat.not_le.mpr hbl
  obtain ⟨v, h1, h2, r1, r2, hI2⟩ := hop h hI
  intro H locs ls hP hD hS hl
  refine lv_aload_n hx hb (ldec (pc := 961) rfl) rfl (lv_at hl 1 rfl) ?_
  refine lv_aload_n hx hb (ldec (pc := 962) rfl) rfl (lv_at hl 0 rfl) ?_
  refine lv_iload_n hx hb (ldec (pc := 963) rfl) rfl (lv_at hl 3 rfl) ?_
  refine lv_iconst (v := 1) hx hb (ldec (pc := 964) rfl) (by decide) ?_
  refine lv_iadd hx hb (ldec (pc := 965) rfl) ?_
  refine va_sld hx hb hX hbl hbA hS (law_in (j := 1) hiL hL (by decide)) (ldec (pc := 966) rfl) ?_
  refine lv_aload_n hx hb (ldec (pc := 967) rfl) rfl (lv_at hl 0 rfl) ?_
  refine lv_iload_n hx hb (ldec (pc := 968) rfl) rfl (lv_at hl 3 rfl) ?_
  refine lv_iconst (v := 2) hx hb (ldec (pc := 969) rfl) (by decide) ?_
  refine lv_iadd hx hb (ldec (pc := 970) rfl) ?_
  refine va_sld hx hb hX hbl hbA hS (law_in (j := 2) hiL hL (by decide)) (ldec (pc := 971) rfl) ?_
  refine lv_aload_n hx hb (ldec (pc := 972) rfl) rfl (lv_at hl 0 rfl) ?_
  refine lv_iload_n hx hb (ldec (pc := 973) rfl) rfl (lv_at hl 3 rfl) ?_
  refine lv_iconst (v := 3) hx hb (ldec (pc := 974) rfl) (by decide) ?_
  refine lv_iadd hx hb (ldec (pc := 975) rfl) ?_
  refine va_sld hx hb hX hbl hbA hS (law_in (j := 3) hiL hL (by decide)) (ldec (pc := 976) rfl) ?_
  refine lv_aload_n hx hb (ldec (pc := 977) rfl) rfl (lv_at hl 0 rfl) ?_
  refine lv_iload_n hx hb (ldec (pc := 978) rfl) rfl (lv_at hl 3 rfl) ?_
  refine lv_iconst (v := 4) hx hb (ldec (pc := 979) rfl) (by decide) ?_
  refine lv_iadd hx hb (ldec (pc := 980) rfl) ?_
  refine va_sld hx hb hX hbl hbA hS (law_in (j := 4) hiL hL (by decide)) (ldec (pc := 981) rfl) ?_
  refine lv_i2l hx hb (ldec (pc := 982) rfl) rfl ?_
  refine lv_bipush (v := 32) hx hb (ldec (pc := 983) rfl) (by decide) ?_
  refine lv_lshl hx hb (ldec (pc := 985) rfl) rfl ?_
  refine lv_aload_n hx hb (ldec (pc := 986) rfl) rfl (lv_at hl 0 rfl) ?_
  refine lv_iload_n hx hb (ldec (pc := 987) rfl) rfl (lv_at hl 3 rfl) ?_
  refine lv_iconst (v := 5) hx hb (ldec (pc := 988) rfl) (by decide) ?_
  refine lv_iadd hx hb (ldec (pc := 989) rfl) ?_
  refine va_sld hx hb hX hbl hbA hS (law_in (j := 5) hiL hL (by decide)) (ldec (pc := 990) rfl) ?_
  refine lv_i2l hx hb (ldec (pc := 991) rfl) rfl ?_
  refine lv_ldc2 (v := 4294967295) hx hb hown (hts (.constantLong R_law 129 4294967295) (inT_mem (k := 36911) rfl)) (ldec (pc := 992) rfl) ?_
  refine lv_land hx hb (ldec (pc := 995) rfl) ?_
  refine lv_lor hx hb (ldec (pc := 996) rfl) ?_
  refine law_call (k := 0) (n := 4) (q := 20678) (As := [.int (xs (nI i + 1).toNatClampNeg), .int (xs (nI i + 2).toNatClampNeg), .int (xs (nI i + 3).toNatClampNeg), .long (((xs (nI i + 4).toNatClampNeg).toInt64 <<< ((32 : Int32).toInt64 &&& 63)) ||| ((xs (nI i + 5).toNatClampNeg).toInt64 &&& 4294967295))]) (rest := []) C0 (ldec (pc := 997) rfl) (by decide +kernel) rfl (by decide) (by decide) rfl rfl rfl rfl rfl (Nat.le_of_ble_eq_true rfl) r1 ?_ H locs ls hP hD hS hl
  clear hP hD hS hl
  intro H locs ls hP hD hS hl
  refine lv_aload_n hx hb (ldec (pc := 1000) rfl) rfl (lv_at hl 2 rfl) ?_
  refine lv_aload_n hx hb (ldec (pc := 1001) rfl) rfl (lv_at hl 0 rfl) ?_
  refine lv_iload_n hx hb (ldec (pc := 1002) rfl) rfl (lv_at hl 3 rfl) ?_
  refine lv_iconst (v := 1) hx hb (ldec (pc := 1003) rfl) (by decide) ?_
  refine lv_iadd hx hb (ldec (pc := 1004) rfl) ?_
  refine va_sld hx hb hX hbl hbA hS (law_in (j := 1) hiL hL (by decide)) (ldec (pc := 1005) rfl) ?_
  refine lv_aload_n hx hb (ldec (pc := 1006) rfl) rfl (lv_at hl 0 rfl) ?_
  refine lv_iload_n hx hb (ldec (pc := 1007) rfl) rfl (lv_at hl 3 rfl) ?_
  refine lv_iconst (v := 2) hx hb (ldec (pc := 1008) rfl) (by decide) ?_
  refine lv_iadd hx hb (ldec (pc := 1009) rfl) ?_
  refine va_sld hx hb hX hbl hbA hS (law_in (j := 2) hiL hL (by decide)) (ldec (pc := 1010) rfl) ?_
  refine lv_aload_n hx hb (ldec (pc := 1011) rfl) rfl (lv_at hl 0 rfl) ?_
  refine lv_iload_n hx hb (ldec (pc := 1012) rfl) rfl (lv_at hl 3 rfl) ?_
  refine lv_iconst (v := 3) hx hb (ldec (pc := 1013) rfl) (by decide) ?_
  refine lv_iadd hx hb (ldec (pc := 1014) rfl) ?_
  refine va_sld hx hb hX hbl hbA hS (law_in (j := 3) hiL hL (by decide)) (ldec (pc := 1015) rfl) ?_
  refine lv_aload_n hx hb (ldec (pc := 1016) rfl) rfl (lv_at hl 0 rfl) ?_
  refine lv_iload_n hx hb (ldec (pc := 1017) rfl) rfl (lv_at hl 3 rfl) ?_
  refine lv_iconst (v := 4) hx hb (ldec (pc := 1018) rfl) (by decide) ?_
  refine lv_iadd hx hb (ldec (pc := 1019) rfl) ?_
  refine va_sld hx hb hX hbl hbA hS (law_in (j := 4) hiL hL (by decide)) (ldec (pc := 1020) rfl) ?_
  refine lv_i2l hx hb (ldec (pc := 1021) rfl) rfl ?_
  refine lv_bipush (v := 32) hx hb (ldec (pc := 1022) rfl) (by decide) ?_
  refine lv_lshl hx hb (ldec (pc := 1024) rfl) rfl ?_
  refine lv_aload_n hx hb (ldec (pc := 1025) rfl) rfl (lv_at hl 0 rfl) ?_
  refine lv_iload_n hx hb (ldec (pc := 1026) rfl) rfl (lv_at hl 3 rfl) ?_
  refine lv_iconst (v := 5) hx hb (ldec (pc := 1027) rfl) (by decide) ?_
  refine lv_iadd hx hb (ldec (pc := 1028) rfl) ?_
  refine va_sld hx hb hX hbl hbA hS (law_in (j := 5) hiL hL (by decide)) (ldec (pc := 1029) rfl) ?_
  refine lv_i2l hx hb (ldec (pc := 1030) rfl) rfl ?_
  refine lv_ldc2 (v := 4294967295) hx hb hown (hts (.constantLong R_law 129 4294967295) (inT_mem (k := 36911) rfl)) (ldec (pc := 1031) rfl) ?_
  refine lv_land hx hb (ldec (pc := 1034) rfl) ?_
  refine lv_lor hx hb (ldec (pc := 1035) rfl) ?_
  refine law_call (k := 65) (n := 4) (q := 32992) (As := [.int (xs (nI i + 1).toNatClampNeg), .int (xs (nI i + 2).toNatClampNeg), .int (xs (nI i + 3).toNatClampNeg), .long (((xs (nI i + 4).toNatClampNeg).toInt64 <<< ((32 : Int32).toInt64 &&& 63)) ||| ((xs (nI i + 5).toNatClampNeg).toInt64 &&& 4294967295))]) (rest := [.int v]) C0 (ldec (pc := 1036) rfl) (by decide +kernel) rfl (by decide) (by decide) rfl rfl rfl rfl rfl (Nat.le_of_ble_eq_true rfl) r2 ?_ H locs ls hP hD hS hl
  clear hP hD hS hl
  intro H locs ls hP hD hS hl
  exact lv_icmp_eq (tgt := 1244) hx hb (ldec (pc := 1039) rfl) (by decide) (fun _ => K h2 hI2 H locs ls hP hD hS hl) (fun z => absurd rfl z)
set_option maxHeartbeats 4000000 in
theorem lc_27 (C0 : lw_C p s m meth c b L xs D ad cy) {Inv : HP → Prop} {i : Nat} {h : HP} (hL : L ≤ 3072) (hiL : i + 6 ≤ L) (hI : Inv h) (hop : opI Inv j_E_could j_M_could [.int (xs (nI i + 1).toNatClampNeg)]) (K : ∀ h2, Inv h2 → LW p l e s m below meth c b D ad cy i 1244 [] h2) : LW p l e s m below meth c b D ad cy i 1044 [] h := by
  obtain ⟨⟨hx, hb, hr, hml, hown, hts, hX, hbl, hlocks, hgv⟩, hK0, hXP⟩ := id C0
  have hbA : ¬ (fun q : Nat => s.heap.size ≤ q) b := Nat.not_le.mpr hbl
  obtain ⟨v, h1, h2, r1, r2, hI2⟩ := hop h hI
  intro H locs ls hP hD hS hl
  refine lv_aload_n hx hb (ldec (pc := 1044) rfl) rfl (lv_at hl 1 rfl) ?_
  refine lv_aload_n hx hb (ldec (pc := 1045) rfl) rfl (lv_at hl 0 rfl) ?_
  refine lv_iload_n hx hb (ldec (pc := 1046) rfl) rfl (lv_at hl 3 rfl) ?_
  refine lv_iconst (v := 1) hx hb (ldec (pc := 1047) rfl) (by decide) ?_
  refine lv_iadd hx hb (ldec (pc := 1048) rfl) ?_
  refine va_sld hx hb hX hbl hbA hS (law_in (j := 1) hiL hL (by decide)) (ldec (pc := 1049) rfl) ?_
  refine law_call (k := 0) (n := 1) (q := 24576) (As := [.int (xs (nI i + 1).toNatClampNeg)]) (rest := []) C0 (ldec (pc := 1050) rfl) (by decide +kernel) rfl (by decide) (by decide) rfl rfl rfl rfl rfl (Nat.le_of_ble_eq_true rfl) r1 ?_ H locs ls hP hD hS hl
  clear hP hD hS hl
  intro H locs ls hP hD hS hl
  refine lv_aload_n hx hb (ldec (pc := 1053) rfl) rfl (lv_at hl 2 rfl) ?_
  refine lv_aload_n hx hb (ldec (pc := 1054) rfl) rfl (lv_at hl 0 rfl) ?_
  refine lv_iload_n hx hb (ldec (pc := 1055) rfl) rfl (lv_at hl 3 rfl) ?_
  refine lv_iconst (v := 1) hx hb (ldec (pc := 1056) rfl) (by decide) ?_
  refine lv_iadd hx hb (ldec (pc := 1057) rfl) ?_
  refine va_sld hx hb hX hbl hbA hS (law_in (j := 1) hiL hL (by decide)) (ldec (pc := 1058) rfl) ?_
  refine law_call (k := 65) (n := 1) (q := 36865) (As := [.int (xs (nI i + 1).toNatClampNeg)]) (rest := [.int v]) C0 (ldec (pc := 1059) rfl) (by decide +kernel) rfl (by decide) (by decide) rfl rfl rfl rfl rfl (Nat.le_of_ble_eq_true rfl) r2 ?_ H locs ls hP hD hS hl
  clear hP hD hS hl
  intro H locs ls hP hD hS hl
  exact lv_icmp_eq (tgt := 1244) hx hb (ldec (pc := 1062) rfl) (by decide) (fun _ => K h2 hI2 H locs ls hP hD hS hl) (fun z => absurd rfl z)
set_option maxHeartbeats 4000000 in
theorem lc_28 (C0 : lw_C p s m meth c b L xs D ad cy) {Inv : HP → Prop} {i : Nat} {h : HP} (hL : L ≤ 3072) (hiL : i + 6 ≤ L) (hI : Inv h) (hop : opI Inv j_E_behind j_M_behind [.int (xs (nI i + 1).toNatClampNeg)]) (K : ∀ h2, Inv h2 → LW p l e s m below meth c b D ad cy i 1244 [] h2) : LW p l e s m below meth c b D ad cy i 1067 [] h := by
  obtain ⟨⟨hx, hb, hr, hml, hown, hts, hX, hbl, hlocks, hgv⟩, hK0, hXP⟩ := id C0
  have hbA : ¬ (fun q : Nat => s.heap.size ≤ q) b := Nat.not_le.mpr hbl
  obtain ⟨v, h1, h2, r1, r2, hI2⟩ := hop h hI
  intro H locs ls hP hD hS hl
  refine lv_aload_n hx hb (ldec (pc := 1067) rfl) rfl (lv_at hl 1 rfl) ?_
  refine lv_aload_n hx hb (ldec (pc := 1068) rfl) rfl (lv_at hl 0 rfl) ?_
  refine lv_iload_n hx hb (ldec (pc := 1069) rfl) rfl (lv_at hl 3 rfl) ?_
  refine lv_iconst (v := 1) hx hb (ldec (pc := 1070) rfl) (by decide) ?_
  refine lv_iadd hx hb (ldec (pc := 1071) rfl) ?_
  refine va_sld hx hb hX hbl hbA hS (law_in (j := 1) hiL hL (by decide)) (ldec (pc := 1072) rfl) ?_
  refine law_call (k := 0) (n := 1) (q := 24581) (As := [.int (xs (nI i + 1).toNatClampNeg)]) (rest := []) C0 (ldec (pc := 1073) rfl) (by decide +kernel) rfl (by decide) (by decide) rfl rfl rfl rfl rfl (Nat.le_of_ble_eq_true rfl) r1 ?_ H locs ls hP hD hS hl
  clear hP hD hS hl
  intro H locs ls hP hD hS hl
  refine lv_aload_n hx hb (ldec (pc := 1076) rfl) rfl (lv_at hl 2 rfl) ?_
  refine lv_aload_n hx hb (ldec (pc := 1077) rfl) rfl (lv_at hl 0 rfl) ?_
  refine lv_iload_n hx hb (ldec (pc := 1078) rfl) rfl (lv_at hl 3 rfl) ?_
  refine lv_iconst (v := 1) hx hb (ldec (pc := 1079) rfl) (by decide) ?_
  refine lv_iadd hx hb (ldec (pc := 1080) rfl) ?_
  refine va_sld hx hb hX hbl hbA hS (law_in (j := 1) hiL hL (by decide)) (ldec (pc := 1081) rfl) ?_
  refine law_call (k := 65) (n := 1) (q := 36869) (As := [.int (xs (nI i + 1).toNatClampNeg)]) (rest := [.int v]) C0 (ldec (pc := 1082) rfl) (by decide +kernel) rfl (by decide) (by decide) rfl rfl rfl rfl rfl (Nat.le_of_ble_eq_true rfl) r2 ?_ H locs ls hP hD hS hl
  clear hP hD hS hl
  intro H locs ls hP hD hS hl
  exact lv_icmp_eq (tgt := 1244) hx hb (ldec (pc := 1085) rfl) (by decide) (fun _ => K h2 hI2 H locs ls hP hD hS hl) (fun z => absurd rfl z)
set_option maxHeartbeats 4000000 in
theorem lc_29 (C0 : lw_C p s m meth c b L xs D ad cy) {Inv : HP → Prop} {i : Nat} {h : HP} (hL : L ≤ 3072) (hiL : i + 6 ≤ L) (hI : Inv h) (hop : opI Inv j_E_owes j_M_owes [.int (xs (nI i + 1).toNatClampNeg), .int (xs (nI i + 2).toNatClampNeg)]) (K : ∀ h2, Inv h2 → LW p l e s m below meth c b D ad cy i 1244 [] h2) : LW p l e s m below meth c b D ad cy i 1090 [] h := by
  obtain ⟨⟨hx, hb, hr, hml, hown, hts, hX, hbl, hlocks, hgv⟩, hK0, hXP⟩ := id C0
  have hbA : ¬ (fun q : Nat => s.heap.size ≤ q) b := Nat.not_le.mpr hbl
  obtain ⟨v, h1, h2, r1, r2, hI2⟩ := hop h hI
  intro H locs ls hP hD hS hl
  refine lv_aload_n hx hb (ldec (pc := 1090) rfl) rfl (lv_at hl 1 rfl) ?_
  refine lv_aload_n hx hb (ldec (pc := 1091) rfl) rfl (lv_at hl 0 rfl) ?_
  refine lv_iload_n hx hb (ldec (pc := 1092) rfl) rfl (lv_at hl 3 rfl) ?_
  refine lv_iconst (v := 1) hx hb (ldec (pc := 1093) rfl) (by decide) ?_
  refine lv_iadd hx hb (ldec (pc := 1094) rfl) ?_
  refine va_sld hx hb hX hbl hbA hS (law_in (j := 1) hiL hL (by decide)) (ldec (pc := 1095) rfl) ?_
  refine lv_aload_n hx hb (ldec (pc := 1096) rfl) rfl (lv_at hl 0 rfl) ?_
  refine lv_iload_n hx hb (ldec (pc := 1097) rfl) rfl (lv_at hl 3 rfl) ?_
  refine lv_iconst (v := 2) hx hb (ldec (pc := 1098) rfl) (by decide) ?_
  refine lv_iadd hx hb (ldec (pc := 1099) rfl) ?_
  refine va_sld hx hb hX hbl hbA hS (law_in (j := 2) hiL hL (by decide)) (ldec (pc := 1100) rfl) ?_
  refine law_call (k := 0) (n := 2) (q := 24585) (As := [.int (xs (nI i + 1).toNatClampNeg), .int (xs (nI i + 2).toNatClampNeg)]) (rest := []) C0 (ldec (pc := 1101) rfl) (by decide +kernel) rfl (by decide) (by decide) rfl rfl rfl rfl rfl (Nat.le_of_ble_eq_true rfl) r1 ?_ H locs ls hP hD hS hl
  clear hP hD hS hl
  intro H locs ls hP hD hS hl
  refine lv_aload_n hx hb (ldec (pc := 1104) rfl) rfl (lv_at hl 2 rfl) ?_
  refine lv_aload_n hx hb (ldec (pc := 1105) rfl) rfl (lv_at hl 0 rfl) ?_
  refine lv_iload_n hx hb (ldec (pc := 1106) rfl) rfl (lv_at hl 3 rfl) ?_
  refine lv_iconst (v := 1) hx hb (ldec (pc := 1107) rfl) (by decide) ?_
  refine lv_iadd hx hb (ldec (pc := 1108) rfl) ?_
  refine va_sld hx hb hX hbl hbA hS (law_in (j := 1) hiL hL (by decide)) (ldec (pc := 1109) rfl) ?_
  refine lv_aload_n hx hb (ldec (pc := 1110) rfl) rfl (lv_at hl 0 rfl) ?_
  refine lv_iload_n hx hb (ldec (pc := 1111) rfl) rfl (lv_at hl 3 rfl) ?_
  refine lv_iconst (v := 2) hx hb (ldec (pc := 1112) rfl) (by decide) ?_
  refine lv_iadd hx hb (ldec (pc := 1113) rfl) ?_
  refine va_sld hx hb hX hbl hbA hS (law_in (j := 2) hiL hL (by decide)) (ldec (pc := 1114) rfl) ?_
  refine law_call (k := 65) (n := 2) (q := 36874) (As := [.int (xs (nI i + 1).toNatClampNeg), .int (xs (nI i + 2).toNatClampNeg)]) (rest := [.int v]) C0 (ldec (pc := 1115) rfl) (by decide +kernel) rfl (by decide) (by decide) rfl rfl rfl rfl rfl (Nat.le_of_ble_eq_true rfl) r2 ?_ H locs ls hP hD hS hl
  clear hP hD hS hl
  intro H locs ls hP hD hS hl
  exact lv_icmp_eq (tgt := 1244) hx hb (ldec (pc := 1118) rfl) (by decide) (fun _ => K h2 hI2 H locs ls hP hD hS hl) (fun z => absurd rfl z)
set_option maxHeartbeats 4000000 in
theorem lc_30 (C0 : lw_C p s m meth c b L xs D ad cy) {Inv : HP → Prop} {i : Nat} {h : HP} (hL : L ≤ 3072) (hiL : i + 6 ≤ L) (hI : Inv h) (hop : opI Inv j_E_meet j_M_meet [.int (xs (nI i + 1).toNatClampNeg), .int (xs (nI i + 2).toNatClampNeg)]) (K : ∀ h2, Inv h2 → LW p l e s m below meth c b D ad cy i 1244 [] h2) : LW p l e s m below meth c b D ad cy i 1123 [] h := by
  obtain ⟨⟨hx, hb, hr, hml, hown, hts, hX, hbl, hlocks, hgv⟩, hK0, hXP⟩ := id C0
  have hbA : ¬ (fun q : Nat => s.heap.size ≤ q) b := Nat.not_le.mpr hbl
  obtain ⟨v, h1, h2, r1, r2, hI2⟩ := hop h hI
  intro H locs ls hP hD hS hl
  refine lv_aload_n hx hb (ldec (pc := 1123) rfl) rfl (lv_at hl 1 rfl) ?_
  refine lv_aload_n hx hb (ldec (pc := 1124) rfl) rfl (lv_at hl 0 rfl) ?_
  refine lv_iload_n hx hb (ldec (pc := 1125) rfl) rfl (lv_at hl 3 rfl) ?_
  refine lv_iconst (v := 1) hx hb (ldec (pc := 1126) rfl) (by decide) ?_
  refine lv_iadd hx hb (ldec (pc := 1127) rfl) ?_
  refine va_sld hx hb hX hbl hbA hS (law_in (j := 1) hiL hL (by decide)) (ldec (pc := 1128) rfl) ?_
  refine lv_aload_n hx hb (ldec (pc := 1129) rfl) rfl (lv_at hl 0 rfl) ?_
  refine lv_iload_n hx hb (ldec (pc := 1130) rfl) rfl (lv_at hl 3 rfl) ?_
  refine lv_iconst (v := 2) hx hb (ldec (pc := 1131) rfl) (by decide) ?_
  refine lv_iadd hx hb (ldec (pc := 1132) rfl) ?_
  refine va_sld hx hb hX hbl hbA hS (law_in (j := 2) hiL hL (by decide)) (ldec (pc := 1133) rfl) ?_
  refine law_call (k := 0) (n := 2) (q := 24594) (As := [.int (xs (nI i + 1).toNatClampNeg), .int (xs (nI i + 2).toNatClampNeg)]) (rest := []) C0 (ldec (pc := 1134) rfl) (by decide +kernel) rfl (by decide) (by decide) rfl rfl rfl rfl rfl (Nat.le_of_ble_eq_true rfl) r1 ?_ H locs ls hP hD hS hl
  clear hP hD hS hl
  intro H locs ls hP hD hS hl
  refine lv_aload_n hx hb (ldec (pc := 1137) rfl) rfl (lv_at hl 2 rfl) ?_
  refine lv_aload_n hx hb (ldec (pc := 1138) rfl) rfl (lv_at hl 0 rfl) ?_
  refine lv_iload_n hx hb (ldec (pc := 1139) rfl) rfl (lv_at hl 3 rfl) ?_
  refine lv_iconst (v := 1) hx hb (ldec (pc := 1140) rfl) (by decide) ?_
  refine lv_iadd hx hb (ldec (pc := 1141) rfl) ?_
  refine va_sld hx hb hX hbl hbA hS (law_in (j := 1) hiL hL (by decide)) (ldec (pc := 1142) rfl) ?_
  refine lv_aload_n hx hb (ldec (pc := 1143) rfl) rfl (lv_at hl 0 rfl) ?_
  refine lv_iload_n hx hb (ldec (pc := 1144) rfl) rfl (lv_at hl 3 rfl) ?_
  refine lv_iconst (v := 2) hx hb (ldec (pc := 1145) rfl) (by decide) ?_
  refine lv_iadd hx hb (ldec (pc := 1146) rfl) ?_
  refine va_sld hx hb hX hbl hbA hS (law_in (j := 2) hiL hL (by decide)) (ldec (pc := 1147) rfl) ?_
  refine law_call (k := 65) (n := 2) (q := 36879) (As := [.int (xs (nI i + 1).toNatClampNeg), .int (xs (nI i + 2).toNatClampNeg)]) (rest := [.int v]) C0 (ldec (pc := 1148) rfl) (by decide +kernel) rfl (by decide) (by decide) rfl rfl rfl rfl rfl (Nat.le_of_ble_eq_true rfl) r2 ?_ H locs ls hP hD hS hl
  clear hP hD hS hl
  intro H locs ls hP hD hS hl
  exact lv_icmp_eq (tgt := 1244) hx hb (ldec (pc := 1151) rfl) (by decide) (fun _ => K h2 hI2 H locs ls hP hD hS hl) (fun z => absurd rfl z)
set_option maxHeartbeats 4000000 in
theorem lc_31 (C0 : lw_C p s m meth c b L xs D ad cy) {Inv : HP → Prop} {i : Nat} {h : HP} (hL : L ≤ 3072) (hiL : i + 6 ≤ L) (hI : Inv h) (hop0 : opI Inv j_E_meets j_M_meets [.int 0]) (hop1 : opI Inv j_E_meets j_M_meets [.int 1]) (K : ∀ h2, Inv h2 → LW p l e s m below meth c b D ad cy i 1244 [] h2) : LW p l e s m below meth c b D ad cy i 1156 [] h := by
  obtain ⟨⟨hx, hb, hr, hml, hown, hts, hX, hbl, hlocks, hgv⟩, hK0, hXP⟩ := id C0
  have hbA : ¬ (fun q : Nat => s.heap.size ≤ q) b := Nat.not_le.mpr hbl
  by_cases hz : (xs (nI i + 1).toNatClampNeg) = 0
  · obtain ⟨v, h1, h2, r1, r2, hI2⟩ := hop0 h hI
    intro H locs ls hP hD hS hl
    refine lv_aload_n hx hb (ldec (pc := 1156) rfl) rfl (lv_at hl 1 rfl) ?_
    refine lv_aload_n hx hb (ldec (pc := 1157) rfl) rfl (lv_at hl 0 rfl) ?_
    refine lv_iload_n hx hb (ldec (pc := 1158) rfl) rfl (lv_at hl 3 rfl) ?_
    refine lv_iconst (v := 1) hx hb (ldec (pc := 1159) rfl) (by decide) ?_
    refine lv_iadd hx hb (ldec (pc := 1160) rfl) ?_
    refine va_sld hx hb hX hbl hbA hS (law_in (j := 1) hiL hL (by decide)) (ldec (pc := 1161) rfl) ?_
    refine lv_if_eq (tgt := 1169) hx hb (ldec (pc := 1162) rfl) (by decide) (fun _ => ?_) (fun z => absurd hz z)
    refine lv_iconst (v := 0) hx hb (ldec (pc := 1169) rfl) (by decide) ?_
    refine law_call (k := 0) (n := 1) (q := 24602) (As := [.int 0]) (rest := []) C0 (ldec (pc := 1170) rfl) (by decide +kernel) rfl (by decide) (by decide) rfl rfl rfl rfl rfl (Nat.le_of_ble_eq_true rfl) r1 ?_ H locs ls hP hD hS hl
    clear hP hD hS hl
    intro H locs ls hP hD hS hl
    refine lv_aload_n hx hb (ldec (pc := 1173) rfl) rfl (lv_at hl 2 rfl) ?_
    refine lv_aload_n hx hb (ldec (pc := 1174) rfl) rfl (lv_at hl 0 rfl) ?_
    refine lv_iload_n hx hb (ldec (pc := 1175) rfl) rfl (lv_at hl 3 rfl) ?_
    refine lv_iconst (v := 1) hx hb (ldec (pc := 1176) rfl) (by decide) ?_
    refine lv_iadd hx hb (ldec (pc := 1177) rfl) ?_
    refine va_sld hx hb hX hbl hbA hS (law_in (j := 1) hiL hL (by decide)) (ldec (pc := 1178) rfl) ?_
    refine lv_if_eq (tgt := 1186) hx hb (ldec (pc := 1179) rfl) (by decide) (fun _ => ?_) (fun z => absurd hz z)
    refine lv_iconst (v := 0) hx hb (ldec (pc := 1186) rfl) (by decide) ?_
    refine law_call (k := 65) (n := 1) (q := 36887) (As := [.int 0]) (rest := [.int v]) C0 (ldec (pc := 1187) rfl) (by decide +kernel) rfl (by decide) (by decide) rfl rfl rfl rfl rfl (Nat.le_of_ble_eq_true rfl) r2 ?_ H locs ls hP hD hS hl
    clear hP hD hS hl
    intro H locs ls hP hD hS hl
    exact lv_icmp_eq (tgt := 1244) hx hb (ldec (pc := 1190) rfl) (by decide) (fun _ => K h2 hI2 H locs ls hP hD hS hl) (fun z => absurd rfl z)
  · obtain ⟨v, h1, h2, r1, r2, hI2⟩ := hop1 h hI
    intro H locs ls hP hD hS hl
    refine lv_aload_n hx hb (ldec (pc := 1156) rfl) rfl (lv_at hl 1 rfl) ?_
    refine lv_aload_n hx hb (ldec (pc := 1157) rfl) rfl (lv_at hl 0 rfl) ?_
    refine lv_iload_n hx hb (ldec (pc := 1158) rfl) rfl (lv_at hl 3 rfl) ?_
    refine lv_iconst (v := 1) hx hb (ldec (pc := 1159) rfl) (by decide) ?_
    refine lv_iadd hx hb (ldec (pc := 1160) rfl) ?_
    refine va_sld hx hb hX hbl hbA hS (law_in (j := 1) hiL hL (by decide)) (ldec (pc := 1161) rfl) ?_
    refine lv_if_eq (tgt := 1169) hx hb (ldec (pc := 1162) rfl) (by decide) (fun z => absurd z hz) (fun _ => ?_)
    refine lv_iconst (v := 1) hx hb (ldec (pc := 1165) rfl) (by decide) ?_
    refine lv_goto (tgt := 1170) hx hb (ldec (pc := 1166) rfl) (by decide) ?_
    refine law_call (k := 0) (n := 1) (q := 24602) (As := [.int 1]) (rest := []) C0 (ldec (pc := 1170) rfl) (by decide +kernel) rfl (by decide) (by decide) rfl rfl rfl rfl rfl (Nat.le_of_ble_eq_true rfl) r1 ?_ H locs ls hP hD hS hl
    clear hP hD hS hl
    intro H locs ls hP hD hS hl
    refine lv_aload_n hx hb (ldec (pc := 1173) rfl) rfl (lv_at hl 2 rfl) ?_
    refine lv_aload_n hx hb (ldec (pc := 1174) rfl) rfl (lv_at hl 0 rfl) ?_
    refine lv_iload_n hx hb (ldec (pc := 1175) rfl) rfl (lv_at hl 3 rfl) ?_
    refine lv_iconst (v := 1) hx hb (ldec (pc := 1176) rfl) (by decide) ?_
    refine lv_iadd hx hb (ldec (pc := 1177) rfl) ?_
    refine va_sld hx hb hX hbl hbA hS (law_in (j := 1) hiL hL (by decide)) (ldec (pc := 1178) rfl) ?_
    refine lv_if_eq (tgt := 1186) hx hb (ldec (pc := 1179) rfl) (by decide) (fun z => absurd z hz) (fun _ => ?_)
    refine lv_iconst (v := 1) hx hb (ldec (pc := 1182) rfl) (by decide) ?_
    refine lv_goto (tgt := 1187) hx hb (ldec (pc := 1183) rfl) (by decide) ?_
    refine law_call (k := 65) (n := 1) (q := 36887) (As := [.int 1]) (rest := [.int v]) C0 (ldec (pc := 1187) rfl) (by decide +kernel) rfl (by decide) (by decide) rfl rfl rfl rfl rfl (Nat.le_of_ble_eq_true rfl) r2 ?_ H locs ls hP hD hS hl
    clear hP hD hS hl
    intro H locs ls hP hD hS hl
    exact lv_icmp_eq (tgt := 1244) hx hb (ldec (pc := 1190) rfl) (by decide) (fun _ => K h2 hI2 H locs ls hP hD hS hl) (fun z => absurd rfl z)
set_option maxHeartbeats 4000000 in
theorem lc_32 (C0 : lw_C p s m meth c b L xs D ad cy) {Inv : HP → Prop} {i : Nat} {h : HP} (hL : L ≤ 3072) (hiL : i + 6 ≤ L) (hI : Inv h) (hop : opI Inv j_E_image j_M_image []) (K : ∀ h2, Inv h2 → LW p l e s m below meth c b D ad cy i 1244 [] h2) : LW p l e s m below meth c b D ad cy i 1195 [] h := by
  obtain ⟨⟨hx, hb, hr, hml, hown, hts, hX, hbl, hlocks, hgv⟩, hK0, hXP⟩ := id C0
  have hbA : ¬ (fun q : Nat => s.heap.size ≤ q) b := Nat.not_le.mpr hbl
  obtain ⟨v, h1, h2, r1, r2, hI2⟩ := hop h hI
  intro H locs ls hP hD hS hl
  refine lv_aload_n hx hb (ldec (pc := 1195) rfl) rfl (lv_at hl 1 rfl) ?_
  refine law_call (k := 0) (n := 0) (q := 24606) (As := []) (rest := []) C0 (ldec (pc := 1196) rfl) (by decide +kernel) rfl (by decide) (by decide) rfl rfl rfl rfl rfl (Nat.le_of_ble_eq_true rfl) r1 ?_ H locs ls hP hD hS hl
  clear hP hD hS hl
  intro H locs ls hP hD hS hl
  refine lv_aload_n hx hb (ldec (pc := 1199) rfl) rfl (lv_at hl 2 rfl) ?_
  refine law_call (k := 65) (n := 0) (q := 36891) (As := []) (rest := [.int v]) C0 (ldec (pc := 1200) rfl) (by decide +kernel) rfl (by decide) (by decide) rfl rfl rfl rfl rfl (Nat.le_of_ble_eq_true rfl) r2 ?_ H locs ls hP hD hS hl
  clear hP hD hS hl
  intro H locs ls hP hD hS hl
  exact lv_icmp_eq (tgt := 1244) hx hb (ldec (pc := 1203) rfl) (by decide) (fun _ => K h2 hI2 H locs ls hP hD hS hl) (fun z => absurd rfl z)
set_option maxHeartbeats 4000000 in
theorem lc_33 (C0 : lw_C p s m meth c b L xs D ad cy) {Inv : HP → Prop} {i : Nat} {h : HP} (hL : L ≤ 3072) (hiL : i + 6 ≤ L) (hI : Inv h) (hop : opI Inv j_E_octet j_M_octet [.int (xs (nI i + 1).toNatClampNeg)]) (K : ∀ h2, Inv h2 → LW p l e s m below meth c b D ad cy i 1244 [] h2) : LW p l e s m below meth c b D ad cy i 1208 [] h := by
  obtain ⟨⟨hx, hb, hr, hml, hown, hts, hX, hbl, hlocks, hgv⟩, hK0, hXP⟩ := id C0
  have hbA : ¬ (fun q : Nat => s.heap.size ≤ q) b := Nat.not_le.mpr hbl
  obtain ⟨v, h1, h2, r1, r2, hI2⟩ := hop h hI
  intro H locs ls hP hD hS hl
  refine lv_aload_n hx hb (ldec (pc := 1208) rfl) rfl (lv_at hl 1 rfl) ?_
  refine lv_aload_n hx hb (ldec (pc := 1209) rfl) rfl (lv_at hl 0 rfl) ?_
  refine lv_iload_n hx hb (ldec (pc := 1210) rfl) rfl (lv_at hl 3 rfl) ?_
  refine lv_iconst (v := 1) hx hb (ldec (pc := 1211) rfl) (by decide) ?_
  refine lv_iadd hx hb (ldec (pc := 1212) rfl) ?_
  refine va_sld hx hb hX hbl hbA hS (law_in (j := 1) hiL hL (by decide)) (ldec (pc := 1213) rfl) ?_
  refine law_call (k := 0) (n := 1) (q := 24610) (As := [.int (xs (nI i + 1).toNatClampNeg)]) (rest := []) C0 (ldec (pc := 1214) rfl) (by decide +kernel) rfl (by decide) (by decide) rfl rfl rfl rfl rfl (Nat.le_of_ble_eq_true rfl) r1 ?_ H locs ls hP hD hS hl
  clear hP hD hS hl
  intro H locs ls hP hD hS hl
  refine lv_aload_n hx hb (ldec (pc := 1217) rfl) rfl (lv_at hl 2 rfl) ?_
  refine lv_aload_n hx hb (ldec (pc := 1218) rfl) rfl (lv_at hl 0 rfl) ?_
  refine lv_iload_n hx hb (ldec (pc := 1219) rfl) rfl (lv_at hl 3 rfl) ?_
  refine lv_iconst (v := 1) hx hb (ldec (pc := 1220) rfl) (by decide) ?_
  refine lv_iadd hx hb (ldec (pc := 1221) rfl) ?_
  refine va_sld hx hb hX hbl hbA hS (law_in (j := 1) hiL hL (by decide)) (ldec (pc := 1222) rfl) ?_
  refine law_call (k := 65) (n := 1) (q := 36899) (As := [.int (xs (nI i + 1).toNatClampNeg)]) (rest := [.int v]) C0 (ldec (pc := 1223) rfl) (by decide +kernel) rfl (by decide) (by decide) rfl rfl rfl rfl rfl (Nat.le_of_ble_eq_true rfl) r2 ?_ H locs ls hP hD hS hl
  clear hP hD hS hl
  intro H locs ls hP hD hS hl
  exact lv_icmp_eq (tgt := 1244) hx hb (ldec (pc := 1226) rfl) (by decide) (fun _ => K h2 hI2 H locs ls hP hD hS hl) (fun z => absurd rfl z)
set_option maxHeartbeats 4000000 in
theorem lc_34 (C0 : lw_C p s m meth c b L xs D ad cy) {Inv : HP → Prop} {i : Nat} {h : HP} (hL : L ≤ 3072) (hiL : i + 6 ≤ L) (hI : Inv h) (hop : opI Inv j_E_on j_M_on []) (K : ∀ h2, Inv h2 → LW p l e s m below meth c b D ad cy i 1244 [] h2) : LW p l e s m below meth c b D ad cy i 1231 [] h := by
  obtain ⟨⟨hx, hb, hr, hml, hown, hts, hX, hbl, hlocks, hgv⟩, hK0, hXP⟩ := id C0
  have hbA : ¬ (fun q : Nat => s.heap.size ≤ q) b := Nat.not_le.mpr hbl
  obtain ⟨v, h1, h2, r1, r2, hI2⟩ := hop h hI
  intro H locs ls hP hD hS hl
  refine lv_aload_n hx hb (ldec (pc := 1231) rfl) rfl (lv_at hl 1 rfl) ?_
  refine law_call (k := 0) (n := 0) (q := 24614) (As := []) (rest := []) C0 (ldec (pc := 1232) rfl) (by decide +kernel) rfl (by decide) (by decide) rfl rfl rfl rfl rfl (Nat.le_of_ble_eq_true rfl) r1 ?_ H locs ls hP hD hS hl
  clear hP hD hS hl
  intro H locs ls hP hD hS hl
  refine lv_aload_n hx hb (ldec (pc := 1235) rfl) rfl (lv_at hl 2 rfl) ?_
  refine law_call (k := 65) (n := 0) (q := 36903) (As := []) (rest := [.int v]) C0 (ldec (pc := 1236) rfl) (by decide +kernel) rfl (by decide) (by decide) rfl rfl rfl rfl rfl (Nat.le_of_ble_eq_true rfl) r2 ?_ H locs ls hP hD hS hl
  clear hP hD hS hl
  intro H locs ls hP hD hS hl
  exact lv_icmp_eq (tgt := 1244) hx hb (ldec (pc := 1239) rfl) (by decide) (fun _ => K h2 hI2 H locs ls hP hD hS hl) (fun z => absurd rfl z)
end LAW
