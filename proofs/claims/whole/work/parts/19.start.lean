/-! ===== THE LAW'S START: the two constructors, and what the Statement gives ===== -/
def hIni : HP := (fun k i => match wsM[k]? with
    | some (.inr (_, fs)) => (match fs[i]? with
      | some (.int x) => x
      | _ => 0)
    | some (.inl (_, _, .inl f)) => f i
    | _ => 0,
  fun k i => match wsM[k]? with
    | some (.inr (_, fs)) => (match fs[i]? with
      | some (.long x) => x
      | _ => 0)
    | some (.inl (_, _, .inr (.inl f))) => f i
    | _ => 0)
def okFv (v : Option Value) (q : Option Nat) : Bool := match v, q with
  | some (.int _), some 0 => true
  | some (.long _), some 1 => true
  | some (.ref a), some (b + 2) => Nat.beq a b
  | _, _ => false
def okCe (k : Nat) : Bool := match wsM[k]?, shP k with
  | some (.inr (ci, fs)), .inr (ci', fl) => Nat.beq ci ci' && (Nat.beq fs.length fl.length && (List.range fl.length).all (fun i => okFv fs[i]? fl[i]?))
  | some (.inl (t, n, .inl _)), .inl (t', n') => Nat.beq t t' && (Nat.beq n n' && !Nat.beq t 1)
  | some (.inl (t, n, .inr (.inl _))), .inl (t', n') => Nat.beq t t' && (Nat.beq n n' && Nat.beq t 1)
  | _, _ => false
theorem okCe_all : (List.range 121).all okCe = true := by decide +kernel
theorem wsE_refs : wsE.all (ceOK 65) = true := by decide +kernel
theorem wsM_refs : wsM.all (ceOK 121) = true := by decide +kernel
theorem ini_fv {ad : Nat → Nat} {k i : Nat} {v : Option Value} {q : Option Nat} (h : okFv v q = true) (h1 : ∀ x, v = some (.int x) → hIni.1 k i = x) (h2 : ∀ x, v = some (.long x) → hIni.2 k i = x) : v.map (cv ad) = q.map (fvl ad hIni k i) := by
  unfold okFv at h
  split at h
  · rename_i x
    simp [cv, fvl, h1 x rfl]
  · rename_i x
    simp [cv, fvl, h2 x rfl]
  · rename_i a b
    have := Nat.eq_of_beq_eq_true h
    subst this
    rfl
  · cases h
theorem ini_cell {ad : Nat → Nat} {cy : Nat → ClassId} {k : Nat} {e : CE} (hk : k < 121) (he : wsM[k]? = some e) : cce ad cy e = cel ad cy hIni k (shP k) := by
  have h := List.all_eq_true.mp okCe_all k (List.mem_range.mpr hk)
  unfold okCe at h
  rw [he] at h
  split at h
  · rename_i ci fs ci' fl h1 h2
    cases h1
    rw [h2]
    simp only [Bool.and_eq_true] at h
    obtain ⟨e1, e2, e3⟩ := h
    have e1 := Nat.eq_of_beq_eq_true e1
    have e2 := Nat.eq_of_beq_eq_true e2
    subst e1
    simp only [cce, cel]
    refine congrArg (fun z => (Sum.inr (ci, z) : va_E)) ?_
    apply List.ext_getElem?
    intro i
    rw [List.getElem?_map, List.getElem?_mapIdx]
    by_cases hi : i < fl.length
    · have e4 := List.all_eq_true.mp e3 i (List.mem_range.mpr hi)
      have := ini_fv (ad := ad) (k := k) (i := i) e4 (fun x hx => by simp [hIni, he, hx]) (fun x hx => by simp [hIni, he, hx])
      rw [this]
    · rw [List.getElem?_eq_none (by omega), List.getElem?_eq_none (by omega)]
      rfl
  · rename_i t n f t' n' h1 h2
    cases h1
    rw [h2]
    simp only [Bool.and_eq_true, Bool.not_eq_true'] at h
    obtain ⟨e1, e2, e3⟩ := h
    have e1 := Nat.eq_of_beq_eq_true e1
    have e2 := Nat.eq_of_beq_eq_true e2
    subst e1
    subst e2
    have ht : ¬ t = 1 := fun z => by subst z; cases e3
    have hf : hIni.1 k = f := by
      funext i
      simp [hIni, he]
    simp [cce, cel, ht, hf]
  · rename_i t n f t' n' h1 h2
    cases h1
    rw [h2]
    simp only [Bool.and_eq_true] at h
    obtain ⟨e1, e2, e3⟩ := h
    have e1 := Nat.eq_of_beq_eq_true e1
    have e2 := Nat.eq_of_beq_eq_true e2
    have e3 := Nat.eq_of_beq_eq_true e3
    subst e1
    subst e2
    subst e3
    have hf : hIni.2 k = f := by
      funext i
      simp [hIni, he]
    simp [cce, cel, hf]
  · cases h
theorem ini_ws {ad : Nat → Nat} {cy : Nat → ClassId} : wsC ad cy wsM = wsO ad cy shP 121 hIni := by
  apply List.ext_getElem?
  intro i
  by_cases hi : i < 121
  · have hl : i < wsM.length := by rw [wsM_len.1]; exact hi
    have he : wsM[i]? = some wsM[i] := List.getElem?_eq_getElem hl
    rw [wsC_get he, wsO_get hi, ini_cell hi he]
  · rw [List.getElem?_eq_none (by simp [wsC, wsM_len.1]; omega), List.getElem?_eq_none (by simp [wsO]; omega)]
def txC (j : Nat) : Cond := .eq (.elem (.field (.string "EvenRota$Tokens" 62) "java/lang/String" "value" "[B") (.int (Int32.ofNat j))) (.int (strC j))
theorem tx_el : (flatC (Jvm.Cond.and given_1 narrow_1)).drop 13 = (List.range 160).map txC := by decide +kernel
theorem tx_in {j : Nat} (hj : j < 160) : txC j ∈ flatC (Jvm.Cond.and given_1 narrow_1) := List.mem_of_mem_drop (tx_el ▸ List.mem_map.mpr ⟨j, List.mem_range.mpr hj, rfl⟩)
section START
variable {p : Program} {l : Launch} {e : Env} {s : State} {m : MethodId} {below : List Frame} {meth : Method} {c : Code} {b L : Nat} {xs : Nat → Int32} {D : va_G} {cy : Nat → ClassId}
theorem law_text (C0 : lw_At p s m meth c b L xs) : ∃ t1 t2 : Nat, vk_R "EvenRota$Tokens" 62 sTxt t1 s ∧ XF t1 t2 (fun q : Nat => s.heap.size ≤ q) s s.heap := by
  obtain ⟨hx, hb, hr, hml, hown, hts, hX, hbl, hlocks, hgv⟩ := C0
  have hs := flat_of_before _ hgv
  have hA : ∀ a : Nat, a < s.heap.size → ¬ (fun q : Nat => s.heap.size ≤ q) a := fun a h => Nat.not_le.mpr h
  have hel : ∀ j : Nat, j < 160 → (txC j).before #[Value.ref b] s = true := fun j hj => hs _ (tx_in hj)
  have hex : (Cond.exactly (.string "EvenRota$Tokens" 62) "java/lang/String").before #[Value.ref b] s = true := hs _ (List.mem_of_getElem? (i := 9) (by decide +kernel))
  have hco : (Cond.eq (.field (.string "EvenRota$Tokens" 62) "java/lang/String" "coder" "B") (.int 0)).before #[Value.ref b] s = true := hs _ (List.mem_of_getElem? (i := 10) (by decide +kernel))
  have har : (Cond.arrayOf (.field (.string "EvenRota$Tokens" 62) "java/lang/String" "value" "[B") .byte).before #[Value.ref b] s = true := hs _ (List.mem_of_getElem? (i := 11) (by decide +kernel))
  have hle : (Cond.eq (.length (.field (.string "EvenRota$Tokens" 62) "java/lang/String" "value" "[B")) (.int (Int32.ofNat 160))).before #[Value.ref b] s = true := hs _ (List.mem_of_getElem? (i := 12) (by decide +kernel))
  have n0 : ∀ {P : Nat → Prop}, P 0 → ∀ i : Nat, i < 1 → P i := fun h i hi => by
    obtain rfl : i = 0 := by omega
    exact h
  obtain ⟨adK, adV, hS, hT⟩ := vk_Sof (args := #[Value.ref b]) (s := s) (N := 1) (tm := fun _ => .string "EvenRota$Tokens" 62) (len := [160]) (byt := [strT]) (A := fun q : Nat => s.heap.size ≤ q) (n0 (by decide)) (fun i hi => hex) (fun i hi => hco) (fun i hi => har) (n0 hle) (n0 hel) (fun i j hi hj h => absurd (by omega) h) hA
  obtain ⟨s1, s2, s3, s4⟩ := hS.1 0 (by decide)
  refine ⟨adK 0, adV 0, vk_R.of (A := #[Value.ref b]) (hts _ (seg_mem (i := 3) (List.mem_of_getElem? (i := 65) (rfl : (seg 3)[65]? = some (Cond.stringRef "EvenRota$Tokens" 62 sTxt))))) (hT 0 (by decide)), ?_, ?_, s1, s2, s3, s4⟩
  · exact va_Zof (hts _ (inT_mem (k := 12363) rfl)) (hts _ (inT_mem (k := 4110) rfl)) (va_eqi (hs _ (List.mem_of_getElem? (i := 4) (by decide +kernel)))) hA
  · exact va_Zqof (hts _ (inT_mem (k := 12371) rfl)) (hts _ (inT_mem (k := 4112) rfl)) (hs _ (List.mem_of_getElem? (i := 5) (by decide +kernel))) hA
theorem law_K (C0 : lw_At p s m meth c b L xs) : ∃ (D : va_G) (cy : Nat → ClassId), va_K D kCl (tyL cy) s := by
  obtain ⟨hx, hb, hr, hml, hown, hts, hX, hbl, hlocks, hgv⟩ := C0
  have hg : ∀ w ∈ gW, w.before #[Value.ref b] s = true := fun w hw => hts w (List.mem_filter.mp hw).1
  obtain ⟨c0, i0, h0⟩ := u_known (C := kR_0) (T := kT_0) (N := 10) (n := 10) hg (kin (a := 0) rfl) (hg _ (kmk (a := 0) rfl).1)
  obtain ⟨c1, i1, h1⟩ := u_known (C := kR_1) (T := kT_1) (N := 8) (n := 8) hg (kin (a := 1) rfl) (hg _ (kmk (a := 1) rfl).1)
  obtain ⟨c2, i2, h2⟩ := u_known (C := kR_2) (T := kT_2) (N := 14) (n := 14) hg (kin (a := 2) rfl) (hg _ (kmk (a := 2) rfl).1)
  obtain ⟨c3, i3, h3⟩ := u_known (C := kR_3) (T := kT_3) (N := 13) (n := 13) hg (kin (a := 3) rfl) (hg _ (kmk (a := 3) rfl).1)
  obtain ⟨c4, i4, h4⟩ := u_known (C := kR_4) (T := kT_4) (N := 8) (n := 8) hg (kin (a := 4) rfl) (hg _ (kmk (a := 4) rfl).1)
  obtain ⟨c5, i5, h5⟩ := u_known (C := kR_5) (T := kT_5) (N := 8) (n := 8) hg (kin (a := 5) rfl) (hg _ (kmk (a := 5) rfl).1)
  obtain ⟨c6, i6, h6⟩ := u_known (C := kR_6) (T := kT_6) (N := 6) (n := 6) hg (kin (a := 6) rfl) (hg _ (kmk (a := 6) rfl).1)
  obtain ⟨c7, i7, h7⟩ := u_known (C := kR_7) (T := kT_7) (N := 9) (n := 9) hg (kin (a := 7) rfl) (hg _ (kmk (a := 7) rfl).1)
  obtain ⟨c8, i8, h8⟩ := u_known (C := kR_8) (T := kT_8) (N := 2) (n := 2) hg (kin (a := 8) rfl) (hg _ (kmk (a := 8) rfl).1)
  obtain ⟨c9, i9, h9⟩ := u_known (C := kR_9) (T := kT_9) (N := 8) (n := 8) hg (kin (a := 9) rfl) (hg _ (kmk (a := 9) rfl).1)
  obtain ⟨c10, i10, h10⟩ := u_known (C := kR_10) (T := kT_10) (N := 4) (n := 4) hg (kin (a := 10) rfl) (hg _ (kmk (a := 10) rfl).1)
  obtain ⟨c11, i11, h11⟩ := u_known (C := kR_11) (T := kT_11) (N := 12) (n := 12) hg (kin (a := 11) rfl) (hg _ (kmk (a := 11) rfl).1)
  obtain ⟨c12, i12, h12⟩ := u_known (C := kR_12) (T := kT_12) (N := 81) (n := 81) hg (kin (a := 12) rfl) (hg _ (kmk (a := 12) rfl).1)
  obtain ⟨yI, kI, pI, fI, gI, qI⟩ := Cond.arrayClass_spec (hg (.arrayClass .int) karr.1)
  obtain ⟨yJ, kJ, pJ, fJ, gJ, qJ⟩ := Cond.arrayClass_spec (hg (.arrayClass .long) karr.2.1)
  obtain ⟨yC, kC, pC, fC, gC, qC⟩ := Cond.arrayClass_spec (hg (.arrayClass .char) karr.2.2.1)
  obtain ⟨yZ, kZ, pZ, fZ, gZ, qZ⟩ := Cond.arrayClass_spec (hg (.arrayClass .boolean) karr.2.2.2.1)
  refine ⟨(fun k => match k with | 0 => c0 | 1 => c1 | 2 => c2 | 3 => c3 | 4 => c4 | 5 => c5 | 6 => c6 | 7 => c7 | 8 => c8 | 9 => c9 | 10 => c10 | 11 => c11 | _ => c12, fun k => match k with | 0 => i0 | 1 => i1 | 2 => i2 | 3 => i3 | 4 => i4 | 5 => i5 | 6 => i6 | 7 => i7 | 8 => i8 | 9 => i9 | 10 => i10 | 11 => i11 | _ => i12), fun t => match t with | 0 => yI | 1 => yJ | 2 => yC | _ => yZ, ?_, ?_⟩
  · intro k q hq
    match k, hq with
    | 0, hq => cases hq; exact h0
    | 1, hq => cases hq; exact h1
    | 2, hq => cases hq; exact h2
    | 3, hq => cases hq; exact h3
    | 4, hq => cases hq; exact h4
    | 5, hq => cases hq; exact h5
    | 6, hq => cases hq; exact h6
    | 7, hq => cases hq; exact h7
    | 8, hq => cases hq; exact h8
    | 9, hq => cases hq; exact h9
    | 10, hq => cases hq; exact h10
    | 11, hq => cases hq; exact h11
    | 12, hq => cases hq; exact h12
    | _ + 13, hq => cases hq
  · intro k q hq
    match k, hq with
    | 0, hq => cases hq; exact ⟨fun n z => ⟨fun k h => (by cases h), kI, gI, pI, qI⟩, fI⟩
    | 1, hq => cases hq; exact ⟨fun n z => ⟨fun k h => (by cases h), kJ, gJ, pJ, qJ⟩, fJ⟩
    | 2, hq => cases hq; exact ⟨fun n z => ⟨fun k h => (by cases h), kC, gC, pC, qC⟩, fC⟩
    | 3, hq => cases hq; exact ⟨fun n z => ⟨fun k h => (by cases h), kZ, gZ, pZ, qZ⟩, fZ⟩
    | _ + 4, hq => cases hq
theorem law_ctor {Q : State → Prop} (C0 : lw_At p s m meth c b L xs) (hK0 : va_K D kCl (tyL cy) s) {pc idx j q k nf cells slots : Nat} {ad : Nat → Nat} {ws wsF : List CE} {rest : List Value} {H : Heap} {locs : List Loc} {ls : Array Slot} (hcp : cp cdK mLK nf j 0 (lent (mLK j) [.ref k]) [] ws = some wsF) (hd : decode code pc = .ok (.invokespecial idx, 3)) (hq : inT q (.methodLink R_law idx (mYK j)) = true) (hj : j < 13) (hnj : mNK j = 0) (hll : (largs [.ref k]).length ≤ mLK j) (hcat : (rest.map fun v => v.category).sum ≤ 8) (hnf : nf ≤ 1000) (hc : cells + (wsF.length - ws.length) ≤ 600000 ∧ slots + (ceS wsF - ceS ws) ≤ 7302250)
    (hP : va_P D kCl (wsC ad cy ws) H) (hD : va_D (fun q : Nat => s.heap.size ≤ q) (wsC ad cy ws)) (hS : va_S (fun q : Nat => s.heap.size ≤ q) s.heap H locs) (hsz : ls.size = 4)
    (K : ∀ (ad' : Nat → Nat) (H1 : Heap) (locs1 : List Loc), (∀ k, k < ws.length → ad' k = ad k) → va_P D kCl (wsC ad' cy wsF) H1 → va_D (fun q : Nat => s.heap.size ≤ q) (wsC ad' cy wsF) → va_S (fun q : Nat => s.heap.size ≤ q) s.heap H1 locs1 → W p l e room_1 s m #[Value.ref b] below meth c H1 locs1 (cells + (wsF.length - ws.length)) (slots + (ceS wsF - ceS ws)) Q (F0 m (pc + 3) ls rest)) : W p l e room_1 s m #[Value.ref b] below meth c H locs cells slots Q (F0 m pc ls (.ref (ad k) :: rest)) := by
  obtain ⟨hx, hb, hr, hml, hown, hts, hX, hbl, hlocks, hgv⟩ := C0
  have hg : ∀ w ∈ gW, w.before #[Value.ref b] s = true := fun w hw => hts w (List.mem_filter.mp hw).1
  have hnw : ∀ w ∈ nW, va_Nw w s := fun w hw => va_Nw.of (nest_tab (nW_nest hw)) (hts w (List.mem_filter.mp hw).1)
  obtain ⟨m1, hm⟩ := tocK.1 j (mNK_all j hj)
  unfold chkK at hm
  simp only [Bool.and_eq_true, decide_eq_true_eq] at hm
  obtain ⟨m2, m3, m4, m5, m6, m7, m8⟩ := hm
  rw [hnj] at m7
  have hmet := metC_of (l := l) (D := D) (cy := cy) tocK (n := nf) (j := j) (as := [.ref k]) (ws := ws) (wsF := wsF) (ad := ad) (mNK_all j hj) rfl rfl (fun {p e s m args below meth c0 A} cx hin hA => cp_snd tocK nf nf j 0 (lent (mLK j) [.ref k]) [] ws wsF (Nat.le_refl _) hcp cx hin hA (Nat.le_refl _) (Nat.le_refl _)) hll H.size
  have hpre : PreS s H (va_Pc ([Value.ref k].map (cv ad)) (PwC D ad cy ws H.size)) [.ref (ad k)] :=
    ⟨PwC_blind, fun U hU hW => ⟨rfl, by rw [hU], by rw [hU]; exact hP, va_K.moved hW.alike hK0, ⟨hD.1, fun _ _ _ => trivial⟩, fun w hw => nest_warm (nW_nest hw) hW (hnw w hw)⟩⟩
  have hsub : ∀ q, va_A (wsC ad cy ws) H.size q → s.heap.size ≤ q := by
    intro q hq
    rcases hq with ⟨k, e, hk⟩ | hq
    · exact hD.2 k _ hk
    · exact Nat.le_trans hS.1 hq
  have key := va_runI (p := p) (e := e) (below := below) (meth := meth) (R := room_1) (locs := locs) (cells := cells) (slots := slots) (g := F0 m pc ls (.ref (ad k) :: rest)) (As := []) (rest := rest) (b := ad k) ⟨hx, hb, hml, hown, hg⟩ hmet (cwI 0 hg (good_all (good_code m1)) rfl rfl rfl (hg _ (inT_gW m2 rfl)) (hg _ (inT_gW hq rfl)) (hg _ (inT_gW m8 rfl)) m6 ⟨m4.1, m4.2, m7⟩ (by simp only [rmC, room_1]; omega)) hpre rfl rfl hsz rfl (lv_room hcat) hd hc
  intro T hT' X
  obtain ⟨v, st₀, t, T', Ls, h0, X', hLs, e1, e2, ⟨⟨hv, ad', had', hP1, hK1, hD1⟩, hz, hk⟩, st⟩ := key T hT' X
  cases hv
  rw [h0] at hz hk
  obtain ⟨t2, a1, b1⟩ := K ad' T'.heap (locs ++ Ls) had' (by rw [e1]; exact hP1) ⟨hD1.1, fun i q hq => hsub _ (hD1.2 i q hq)⟩
    ⟨Nat.le_trans hS.1 (by rw [e1]; exact hz), fun q h1 h2 => by rw [e1, hk q (Nat.lt_of_lt_of_le h1 hS.1) (fun z => h2 (hsub q z))]; exact hS.2.1 q h1 h2, fun q hq => by
      rcases List.mem_append.mp hq with h | h
      · exact hS.2.2 q h
      · exact hsub _ (hLs q h)⟩ T' rfl X'
  exact ⟨t2, st t2 a1, b1⟩
set_option maxHeartbeats 8000000 in
/-- THE LAW, from its entry, over what is said of the program's runs -/
theorem whole_open (l : Launch) (hL : L ≤ 3072) (C0 : lw_At p s m meth c b L xs) {Inv : HP → Prop} (hI0 : Inv hIni) (hop : LawOK Inv) : W p l e room_1 s m #[Value.ref b] below meth c s.heap [] 0 0 (lw_Z below #[Value.ref b] s) (entryFrame m ([Value.ref b] : List Value).toArray 4) := by
  obtain ⟨D, cy, hK⟩ := law_K C0
  obtain ⟨t1, t2, hV, hF⟩ := law_text C0
  obtain ⟨hx, hb, hr, hml, hown, hts, hX, hbl, hlocks, hgv⟩ := id C0
  have hg : ∀ w ∈ gW, w.before #[Value.ref b] s = true := fun w hw => hts w (List.mem_filter.mp hw).1
  have hA : ∀ q : Nat, s.heap.size ≤ q → (fun q : Nat => s.heap.size ≤ q) q := fun _ h => h
  have hS : va_S (fun q : Nat => s.heap.size ≤ q) s.heap s.heap [] := va_S.rf
  have hP : va_P D kCl [] s.heap := fun k q h => by simp at h
  have hD : va_D (fun q : Nat => s.heap.size ≤ q) [] := ⟨fun i j p q h => by simp at h, fun k q h => by simp at h⟩
  have hl := lv_entry ([.ref b]) (n := 4) (Nat.le_of_ble_eq_true rfl)
  rw [lg_entry_eq]
  generalize (lg_sl ([.ref b]) ++ List.replicate (4 - (lg_sl ([.ref b])).length) Slot.unset).toArray = ls at hl ⊢
  have hl : lv_has ls 4 [(0, .ref b)] := hl
  refine va_new (ci := 11) (fs := dfl 11 12) (C := kR_11) (T := kT_11) (N := 12) hx hb hg (kin (a := 11) rfl) (kyA 11) (kyA_ok (a := 11) rfl) hown (hts (.classLink R_law 7 kR_11) (inT_mem (k := 4117) rfl)) (hg _ (kmk (a := 11) rfl).1) (hg _ (kmk (a := 11) rfl).2) hK hP hD hS hA rfl (fun j hj => by simp [dfl, vp_V, hj]) (by decide) (by decide) (ldec (pc := 0) rfl) (fun q0 H hP hD hS => ?_)
  have e0 : wsC (fun _ => q0) cy wsE0 = [] ++ [(q0, .inr (11, dfl 11 12))] := by
    show [(q0, cce (fun _ => q0) cy (.inr (11, dfl 11 12)))] = _
    rw [dfl_cv]
    rfl
  rw [← e0] at hP hD
  refine lv_dup hx hb (ldec (pc := 3) rfl) rfl ?_
  refine law_ctor (k := 0) (ad := fun _ => q0) (j := 0) (nf := 200) (q := 4119) (ws := wsE0) (wsF := wsE) C0 hK wsE_ok (ldec (pc := 4) rfl) (by decide +kernel) (by decide) rfl (by decide) (Nat.le_of_ble_eq_true rfl) (by decide) (by rw [wsE_len.1, wsE_len.2]; exact ⟨by decide +kernel, by decide +kernel⟩) hP hD hS hl.1 (fun ad1 H locs had1 hP hD hS => ?_)
  refine lv_astore_n (lv' := [(1, .ref q0), (0, .ref b)]) hx hb (ldec (pc := 7) rfl) rfl hl (by decide) rfl (fun ls hl => ?_)
  refine va_new (ci := 12) (fs := dfl 12 81) (C := kR_12) (T := kT_12) (N := 81) hx hb hg (kin (a := 12) rfl) (kyA 12) (kyA_ok (a := 12) rfl) hown (hts (.classLink R_law 10 kR_12) (inT_mem (k := 24622) rfl)) (hg _ (kmk (a := 12) rfl).1) (hg _ (kmk (a := 12) rfl).2) hK hP hD hS hA rfl (fun j hj => by simp [dfl, vp_V, hj]) (by rw [wsE_len.1]; decide +kernel) (by rw [wsE_len.2]; decide +kernel) (ldec (pc := 8) rfl) (fun q1 H hP hD hS => ?_)
  have e1 : wsC (va_up ad1 wsE.length q1) cy wsM0 = wsC ad1 cy wsE ++ [(q1, .inr (12, dfl 12 81))] := by
    have := wsC_push (ad := ad1) (cy := cy) (ws := wsE) (q := q1) (e := .inr (12, dfl 12 81)) (by rw [wsE_len.1]; exact wsE_refs) (dfl_cv.trans dfl_cv.symm)
    rw [dfl_cv] at this
    exact this
  rw [← e1] at hP hD
  refine lv_dup hx hb (ldec (pc := 11) rfl) rfl ?_
  have e65 : va_up ad1 wsE.length q1 65 = q1 := by rw [wsE_len.1]; simp [va_up]
  have hm0 : wsM0.length = 66 ∧ ceS wsM0 = ceS wsE + 81 := by
    unfold wsM0
    rw [ceS_push]
    exact ⟨by simp [wsE_len.1], by simp [ceN, dfl]⟩
  refine W.eq (g2 := F0 m 12 ls [.ref (va_up ad1 wsE.length q1 65), .ref q1]) (by rw [e65]) ?_
  refine law_ctor (k := 65) (ad := va_up ad1 wsE.length q1) (j := 12) (nf := 600) (q := 24624) (ws := wsM0) (wsF := wsM) C0 hK wsM_ok (ldec (pc := 12) rfl) (by decide +kernel) (by decide) rfl (by decide) (Nat.le_of_ble_eq_true rfl) (by decide) (by rw [wsE_len.1, wsE_len.2, wsM_len.1, wsM_len.2, hm0.1, hm0.2, wsE_len.2]; exact ⟨by decide +kernel, by decide +kernel⟩) hP hD hS hl.1 (fun ad2 H locs had2 hP hD hS => ?_)
  refine lv_astore_n (lv' := [(2, .ref q1), (1, .ref q0), (0, .ref b)]) hx hb (ldec (pc := 15) rfl) rfl hl (by decide) rfl (fun ls hl => ?_)
  refine lv_iconst (v := 0) hx hb (ldec (pc := 16) rfl) (by decide) ?_
  refine lv_istore_n (lv' := [(3, .int 0), (2, .ref q1), (1, .ref q0), (0, .ref b)]) hx hb (ldec (pc := 17) rfl) rfl hl (by decide) rfl (fun ls hl => ?_)
  have hadq : ∀ k, k < wsM.length → va_up ad2 1000 t1 k = ad2 k := fun k hk => by
    rw [wsM_len.1] at hk
    have : k ≠ 1000 := by omega
    simp [va_up, this]
  have e3 : wsC ad2 cy wsM = wsO (va_up ad2 1000 t1) cy shP 121 hIni := by
    rw [← ini_ws]
    exact (wsC_eq hadq (by rw [wsM_len.1]; exact wsM_refs)).symm
  rw [e3] at hP hD
  have a0 : va_up ad2 1000 t1 0 = q0 := by
    rw [hadq 0 (by rw [wsM_len.1]; decide), had2 0 (by rw [hm0.1]; decide)]
    have : (0 : Nat) ≠ wsE.length := by rw [wsE_len.1]; decide
    simp only [va_up, if_neg this]
    exact had1 0 (by decide)
  have a65 : va_up ad2 1000 t1 65 = q1 := by
    rw [hadq 65 (by rw [wsM_len.1]; decide), had2 65 (by rw [hm0.1]; decide), e65]
  have hXP : XP (va_up ad2 1000 t1) 121 s := by
    refine ⟨t2, by simpa [va_up] using hV, fun A' hA' => ?_⟩
    have : XF (va_up ad2 1000 t1 1000) t2 (fun q : Nat => s.heap.size ≤ q) s s.heap := by simpa [va_up] using hF
    refine this.narrow (fun q hq => ?_)
    rcases hA' q hq with ⟨k, hk, rfl⟩ | hq
    · exact hD.2 k _ (wsO_get hk)
    · exact hq
  refine W.cs (cells' := 121) (slots' := 16229) (by rw [wsE_len.1, wsM_len.1, hm0.1]; decide +kernel) (by rw [wsE_len.2, wsM_len.2, hm0.2, wsE_len.2]; decide +kernel) ?_
  refine law_loop (D := D) (ad := va_up ad2 1000 t1) (cy := cy) ⟨C0, hK, hXP⟩ hL hop 600 0 hIni (by decide) (by omega) hI0 H locs ls hP hD hS ?_
  rw [a0, a65]
  exact lv_sub hl [3, 2, 1, 0] rfl
end START
