/-! ===== THE CONSTRUCTORS' MACHINE IS SOUND ===== -/
def arT (t : ArrayType) (a : Nat) : Bool := match t, a with
  | .int, 0 => true
  | .long, 1 => true
  | .char, 2 => true
  | .boolean, 3 => true
  | _, _ => false
def chkC (mY : Nat → MethodName) (mN : Nat → Nat) (bytes : ByteArray) (own : String) (pc : Nat) (E : ENT) : Bool :=
  match E with
  | (ins, len, a, b, c, q, vi, vl) => decide (decode bytes pc = .ok (ins, len)) && (match ins with
    | .iconst n => decide (len = 1) && decide (Int32.ofInt n = vi)
    | .bipush n => decide (len = 2) && decide ((Int8.ofInt n).toInt32 = vi)
    | .sipush n => decide (len = 3) && decide ((Int16.ofInt n).toInt32 = vi)
    | .lconst n => decide (len = 1) && decide (Int64.ofNat (n : Nat) = vl)
    | .aload i => decide (len = 2) && decide (i = a)
    | .aload_n i => decide (len = 1) && decide ((i : Nat) = a)
    | .new i => decide (len = 3) && (match kCl[a]? with
      | some (C, _, N) => decide (N = b) && inT q (.classLink own i C)
      | none => false)
    | .newarray t => decide (len = 2) && arT t a
    | .getfield i => decide (len = 3) && chkF own i a b q
    | .putfield i => decide (len = 3) && (match kCl[a]? with
      | some (_, T, N) => decide (b < N) && (decide ((T b).1 = own) && inT q (.fieldLink own i (T b).1 (T b).2.1 (T b).2.2.1))
      | none => false)
    | .invokespecial i => decide (len = 3) && (if c = 1 then inT q (.methodLink own i Lib.objectInit) else (decide (mN a = b) && (decide (b < 40) && (inT q (.methodLink own i (mY a)) || inT q (.methodLinkNest own i (mY a) "EvenRota")))))
    | _ => decide (len = 1))
def chkK (mY : Nat → MethodName) (mL : Nat → Nat) (mN : Nat → Nat) (mP : Nat → Nat × Nat × Nat × Nat) (j : Nat) : Bool :=
  inT (mP j).2.1 (.initialized (mY j).cls) && (plainFor (mY j) && (decide ((mY j).cls ≠ "java/lang/invoke/MethodHandle" ∧ (mY j).cls ≠ "java/lang/invoke/VarHandle") && (decide (mL j + 19 ≤ 64) && (decide ((mY j).name = "<init>") &&
  (decide ((parseMethodDescriptor (mY j).desc).map (fun d => d.parameters.length) = some (mN j)) && inT (mP j).2.2.1 (.instanceMethod (mY j)))))))
def rmC (n mc ms : Nat) : Room := { frames := n + 4, cells := mc, slots := ms, locals := (n + 4) * 64 }
def PwC (D : va_G) (ad : Nat → Nat) (cy : Nat → ClassId) (ws : List CE) (sz : Nat) (U : State) : Prop := U.heap.size = sz ∧ va_P D kCl (wsC ad cy ws) U.heap ∧ va_K D kCl (tyL cy) U ∧ va_D (fun _ => True) (wsC ad cy ws) ∧ ∀ w ∈ nW, va_Nw w U
def QwC (D : va_G) (ad0 : Nat → Nat) (cy : Nat → ClassId) (n0 : Nat) (wsF : List CE) (A : Nat → Prop) : Array Value → State → Outcome → State → Prop := fun _ st oc t =>
  (oc = .returned none ∧ ∃ ad, (∀ k, k < n0 → ad k = ad0 k) ∧ va_P D kCl (wsC ad cy wsF) t.heap ∧ va_K D kCl (tyL cy) t ∧ va_D A (wsC ad cy wsF)) ∧ va_F A st t
theorem cp_len {cd : Nat → Nat → Option ENT} {mL : Nat → Nat} : ∀ {n j pc : Nat} {L S : List Value} {ws wsF : List CE}, cp cd mL n j pc L S ws = some wsF → ws.length ≤ wsF.length ∧ ceS ws ≤ ceS wsF := by
  intro n
  induction n with
  | zero => intro j pc L S ws wsF h; cases h
  | succ n ih =>
    intro j pc L S ws wsF h
    unfold cp cpg at h
    cases hc : cd j pc with
    | none => rw [hc] at h; cases h
    | some E =>
      obtain ⟨ins, len, a, b, c, q, vi, vl⟩ := E
      rw [hc] at h
      dsimp only at h
      split at h
      · split at h
        · cases h; exact ⟨Nat.le_refl _, Nat.le_refl _⟩
        · cases h
      · cases h1 : Nat.beq c 1 with
        | true =>
          rw [h1] at h
          dsimp only [cond] at h
          split at h
          · obtain ⟨-, h⟩ := bif_some h; exact ih h
          · cases h
        | false =>
          rw [h1] at h
          dsimp only [cond] at h
          split at h
          · obtain ⟨-, h⟩ := bif_some h
            split at h
            · rename_i hw
              have h1 := ih hw
              have h2 := ih h
              omega
            · cases h
          · cases h
      · split at h
        · rename_i hw
          have h1 := cs1_len hw
          have h2 := ih h
          omega
        · cases h
section CTS
variable {l : Launch} {D : va_G} {cy : Nat → ClassId}
variable {mY : Nat → MethodName} {mN : Nat → Nat} {mB : Nat → ByteArray} {mL : Nat → Nat} {mP : Nat → Nat × Nat × Nat × Nat} {cd : Nat → Nat → Option ENT}
variable {p : Program} {e : Env} {R : Room} {s : State} {m : MethodId} {args : Array Value} {below : List Frame} {meth : Method} {c0 : Code} {QQ : State → Prop} {A : Nat → Prop} {nL : Nat} {bytes : ByteArray} {own : String} {ret : Option FieldType}
def GC (p : Program) (l : Launch) (e : Env) (R : Room) (s : State) (m : MethodId) (args : Array Value) (below : List Frame) (meth : Method) (c : Code) (QQ : State → Prop) (D : va_G) (cy : Nat → ClassId) (A : Nat → Prop) (nL n0 s0 : Nat) (ad0 : Nat → Nat) (pc : Nat) (L S : List Value) (ws : List CE) : Prop :=
  ∀ (ad : Nat → Nat) (H : Heap) (locs : List Loc) (ls : Array Slot), (∀ k, k < n0 → ad k = ad0 k) → va_P D kCl (wsC ad cy ws) H → va_D A (wsC ad cy ws) → va_S A s.heap H locs → LR ad ls nL L → W p l e R s m args below meth c H locs (ws.length - n0) (ceS ws - s0) QQ (F0 m pc ls (S.map (cv ad)))
theorem vpB_ok {i : Int32} {n : Nat} (h : vpB i n = true) : vp_in i n := of_decide_eq_true (p := ¬ (i < 0 ∨ n ≤ i.toNatClampNeg)) h
theorem dfl_cv {ad : Nat → Nat} {cy : Nat → ClassId} {a b : Nat} : cce ad cy (.inr (a, dfl a b)) = .inr (a, dfl a b) := by
  simp only [cce, dfl, List.map_map]
  congr 2
  apply List.map_congr_left
  intro j _
  show cv ad (defaultValue (kyA a j)) = defaultValue (kyA a j)
  cases kyA a j <;> rfl
set_option maxHeartbeats 8000000 in
theorem cs1_snd (cx : CX D cy bytes own nL ret p s m args meth c0) (hinit : meth.name = "<init>") (hA : ∀ q, s.heap.size ≤ q → A q) {E : ENT} {pc pc' n0 s0 : Nat} {ad0 : Nat → Nat} {L S L' S' : List Value} {ws ws' : List CE} (hn0 : n0 ≤ ws.length) (hs0 : s0 ≤ ceS ws) (hR : ws'.length - n0 ≤ R.cells ∧ ceS ws' - s0 ≤ R.slots) (hc : chkC mY mN bytes own pc E = true) (hst : cs1 E pc L S ws = some (pc', L', S', ws'))
    (hK : GC p l e R s m args below meth c0 QQ D cy A nL n0 s0 ad0 pc' L' S' ws') : GC p l e R s m args below meth c0 QQ D cy A nL n0 s0 ad0 pc L S ws := by
  intro ad H locs ls had hP hD hS hL
  obtain ⟨hx, hb, hr, hml, hown, hlk, hts, hnw, hK0⟩ := id cx
  obtain ⟨ins, len, a, b, c, q, vi, vl⟩ := E
  unfold cs1 at hst
  unfold chkC at hc
  rw [Bool.and_eq_true, decide_eq_true_eq] at hc
  obtain ⟨hd, hc⟩ := hc
  cases ins <;> dsimp only at hst hc <;> first | (cases hst; done) | skip
  case iconst n =>
    simp only [Bool.and_eq_true, decide_eq_true_eq] at hc
    obtain ⟨rfl, hv⟩ := hc
    cases hst
    exact lv_iconst hx hb hd hv (hK ad H locs ls had hP hD hS hL)
  case bipush n =>
    simp only [Bool.and_eq_true, decide_eq_true_eq] at hc
    obtain ⟨rfl, hv⟩ := hc
    cases hst
    exact lv_bipush hx hb hd hv (hK ad H locs ls had hP hD hS hL)
  case sipush n =>
    simp only [Bool.and_eq_true, decide_eq_true_eq] at hc
    obtain ⟨rfl, hv⟩ := hc
    cases hst
    exact lv_sipush hx hb hd hv (hK ad H locs ls had hP hD hS hL)
  case lconst n =>
    simp only [Bool.and_eq_true, decide_eq_true_eq] at hc
    obtain ⟨rfl, hv⟩ := hc
    cases hst
    exact lv_lconst hx hb hd hv (hK ad H locs ls had hP hD hS hL)
  case aload i =>
    simp only [Bool.and_eq_true, decide_eq_true_eq] at hc
    obtain ⟨rfl, rfl⟩ := hc
    split at hst
    · rename_i k hk
      cases hst
      exact lv_aload hx hb hd (hL.at hk (by simp)) (hK ad H locs ls had hP hD hS hL)
    · cases hst
  case aload_n i =>
    simp only [Bool.and_eq_true, decide_eq_true_eq] at hc
    obtain ⟨rfl, rfl⟩ := hc
    split at hst
    · rename_i k hk
      cases hst
      exact lv_aload_n hx hb hd rfl (hL.at hk (by simp)) (hK ad H locs ls had hP hD hS hL)
    · cases hst
  case dup =>
    rw [decide_eq_true_eq] at hc
    subst hc
    split at hst
    · cases hst
      exact lv_dup hx hb hd rfl (hK ad H locs ls had hP hD hS hL)
    · cases hst
  case new i =>
    rw [Bool.and_eq_true, decide_eq_true_eq] at hc
    obtain ⟨rfl, hc⟩ := hc
    obtain ⟨hok, hst⟩ := bif_some hst
    cases hst
    unfold allOK at hok
    simp only [Bool.and_eq_true] at hok
    obtain ⟨o1, o2, o3⟩ := hok
    cases hkc : kCl[a]? with
    | none => rw [hkc] at hc; cases hc
    | some r =>
      obtain ⟨C, T, N⟩ := r
      rw [hkc] at hc
      simp only [Bool.and_eq_true, decide_eq_true_eq] at hc
      obtain ⟨rfl, hcl⟩ := hc
      obtain ⟨k1, k2⟩ := kmk hkc
      rw [ceS_push] at hR
      have hsz : ceN (.inr (a, dfl a N) : CE) = N := by simp [ceN, dfl]
      rw [hsz] at hR
      have hl1 : (ws ++ [(.inr (a, dfl a N) : CE)]).length = ws.length + 1 := by simp
      rw [hl1] at hR
      refine va_new (fs := dfl a N) hx hb hts (kin hkc) (kyA a) (kyA_ok hkc) hown (hts _ (inT_gW hcl rfl)) (hts _ k1) (hts _ k2) hK0 hP hD hS hA hkc (fun j hj => by simp [dfl, vp_V, hj]) (by omega) (by omega) hd (fun q' H1 g1 g2 g3 => ?_)
      have hads : ∀ k, k < ws.length → va_up ad ws.length q' k = ad k := fun k hk => by simp [va_up, Nat.ne_of_lt hk]
      have hpu := wsC_push (cy := cy) (q := q') (e := .inr (a, dfl a N)) (ad := ad) o3 (dfl_cv.trans dfl_cv.symm)
      rw [dfl_cv] at hpu
      rw [← hpu] at g1 g2
      have := hK (va_up ad ws.length q') H1 locs ls (fun k hk => (hads k (by omega)).trans (had k hk)) g1 g2 g3 (LR_eq hads o1 hL)
      rw [ceS_push, hsz, hl1] at this
      refine W.cs (cells' := ws.length + 1 - n0) (slots' := ceS ws + N - s0) (by omega) (by omega) ?_
      have e1 : (Value.ref ws.length :: S).map (cv (va_up ad ws.length q')) = .ref q' :: S.map (cv ad) := by
        rw [List.map_cons, cvs_eq hads o2]
        simp [cv, va_up]
      rw [e1] at this
      exact this
  case newarray t =>
    rw [Bool.and_eq_true, decide_eq_true_eq] at hc
    obtain ⟨rfl, hc⟩ := hc
    split at hst
    · rename_i n r
      obtain ⟨hok, hst⟩ := bif_some hst
      cases hst
      rw [Bool.and_eq_true] at hok
      obtain ⟨hok, hin⟩ := hok
      unfold allOK at hok
      simp only [Bool.and_eq_true] at hok
      obtain ⟨o1, o2, o3⟩ := hok
      have hin := vpB_ok hin
      have hnn : ¬ n < 0 := fun z => hin (Or.inl z)
      have hnb : n.toNatClampNeg < 10000 := Nat.not_le.mp fun z => hin (Or.inr z)
      rw [ceS_push] at hR
      have hsz : ceN (.inl (a, zerA a n.toNatClampNeg) : CE) = n.toNatClampNeg := by
        simp only [ceN, zerA]
        split <;> rfl
      rw [hsz] at hR
      have hl1 : (ws ++ [(.inl (a, zerA a n.toNatClampNeg) : CE)]).length = ws.length + 1 := by simp
      rw [hl1] at hR
      have main : ∀ (ty : FieldType), newarray.typeOf t = ty → Cond.arrayClass ty ∈ gW → (∀ cA : ClassId, vp_cell cA (zerA a n.toNatClampNeg) = arrV cA n.toNatClampNeg (fun _ => defaultValue ty)) → n.toNatClampNeg * componentBytes ty ≤ 536870912 → (tyL cy)[a]? = some (cy a, ty) → (∀ cA, va_RA s cA ty → s.vm.findClass ("[" ++ ty.toString) = some cA) → W p l e R s m args below meth c0 H locs (ws.length - n0) (ceS ws - s0) QQ (F0 m pc ls ((Value.int n :: r).map (cv ad))) := by
        intro ty hty hw hz hbytes hta hra
        refine va_newa (ty := ty) hx hb (by rw [hty]; exact hts _ hw) hty hK0 hP hD hS hA hz hnn rfl hbytes (by omega) (by omega) hd (fun q' cA H1 g0 g1 g2 g3 => ?_)
        have e2 := hra cA (g0.2 4 (cA, ty) (by simp)).2
        have e3 := hra (cy a) (hK0.2 a (cy a, ty) hta).2
        have e4 : cA = cy a := Option.some.inj (e2.symm.trans e3)
        subst e4
        have hads : ∀ k, k < ws.length → va_up ad ws.length q' k = ad k := fun k hk => by simp [va_up, Nat.ne_of_lt hk]
        have hpu := wsC_push (cy := cy) (q := q') (e := .inl (a, zerA a n.toNatClampNeg)) (ad := ad) o3 rfl
        have g1 : va_P D kCl (wsC ad cy ws ++ [(q', cce ad cy (.inl (a, zerA a n.toNatClampNeg)))]) H1 := g1
        have g2 : va_D A (wsC ad cy ws ++ [(q', cce ad cy (.inl (a, zerA a n.toNatClampNeg)))]) := g2
        rw [← hpu] at g1 g2
        have := hK (va_up ad ws.length q') H1 locs ls (fun k hk => (hads k (by omega)).trans (had k hk)) g1 g2 g3 (LR_eq hads o1 hL)
        rw [ceS_push, hsz, hl1] at this
        refine W.cs (cells' := ws.length + 1 - n0) (slots' := ceS ws + n.toNatClampNeg - s0) (by omega) (by omega) ?_
        have e1 : (Value.ref ws.length :: r).map (cv (va_up ad ws.length q')) = .ref q' :: r.map (cv ad) := by
          rw [List.map_cons, cvs_eq hads o2]
          simp [cv, va_up]
        rw [e1] at this
        exact this
      unfold arT at hc
      split at hc
      · exact main .int rfl karr.1 (fun cA => rfl) (by simp [componentBytes]; omega) rfl (fun cA h => h)
      · exact main .long rfl karr.2.1 (fun cA => rfl) (by simp [componentBytes]; omega) rfl (fun cA h => h)
      · exact main .char rfl karr.2.2.1 (fun cA => rfl) (by simp [componentBytes]; omega) rfl (fun cA h => h)
      · exact main .boolean rfl karr.2.2.2.1 (fun cA => rfl) (by simp [componentBytes]; omega) rfl (fun cA h => h)
      · cases hc
    · cases hst
  case getfield i =>
    rw [Bool.and_eq_true, decide_eq_true_eq] at hc
    obtain ⟨rfl, hc⟩ := hc
    split at hst
    · rename_i k r
      split at hst
      · rename_i ci fs hw
        obtain ⟨hci, hst⟩ := bif_some hst
        have hcc := Nat.eq_of_beq_eq_true hci
        split at hst
        · rename_i v hv
          cases hst
          subst hcc
          unfold chkF at hc
          cases hkc : kCl[ci]? with
          | none => rw [hkc] at hc; cases hc
          | some r =>
            obtain ⟨C, T, N⟩ := r
            rw [hkc] at hc
            simp only [Bool.and_eq_true, Bool.or_eq_true, decide_eq_true_eq] at hc
            obtain ⟨hbN, hl⟩ := hc
            have he := wsC_get (ad := ad) (cy := cy) hw
            have hv' : (fs.map (cv ad))[b]? = some (cv ad v) := by rw [List.getElem?_map, hv]; rfl
            rcases hl with hl | hl
            · exact va_get hx hb hts (kin hkc) hown hK0 hP k he hkc b hbN (hts _ (inT_gW hl rfl)) (fun _ z => z) hv' hd (hK ad H locs ls had hP hD hS hL)
            · exact va_getN hx hb hts (kin hkc) hown hK0 hP k he hkc b hbN (va_Nw.use rfl (hnw _ (inT_nW hl rfl))) (fun _ z => z) hv' hd (hK ad H locs ls had hP hD hS hL)
        · cases hst
      · cases hst
    · cases hst
  case putfield i =>
    rw [Bool.and_eq_true, decide_eq_true_eq] at hc
    obtain ⟨rfl, hc⟩ := hc
    split at hst
    · rename_i v k r
      split at hst
      · rename_i ci fs hw
        obtain ⟨hci, hst⟩ := bif_some hst
        simp only [Bool.and_eq_true] at hci
        obtain ⟨hci, hbl, hty⟩ := hci
        have hcc := Nat.eq_of_beq_eq_true hci
        cases hst
        subst hcc
        cases hkc : kCl[ci]? with
        | none => rw [hkc] at hc; cases hc
        | some rr =>
          obtain ⟨C, T, N⟩ := rr
          rw [hkc] at hc
          simp only [Bool.and_eq_true, decide_eq_true_eq] at hc
          obtain ⟨hbN, hdecl, hl⟩ := hc
          obtain ⟨ty0, t1, t2⟩ := kty hkc
          have he := wsC_get (ad := ad) (cy := cy) hw
          obtain ⟨hn1, hf1⟩ := tyOK_ok (ad := ad) hty
          have hlen : b < (fs.map (cv ad)).length := by rw [List.length_map]; exact Nat.ble_eq.mp hbl
          have kk : ∀ (H1 : Heap) (locs1 : List Loc), va_P D kCl ((wsC ad cy ws).set k (ad k, .inr (ci, (fs.map (cv ad)).set b (cv ad v)))) H1 → va_D A ((wsC ad cy ws).set k (ad k, .inr (ci, (fs.map (cv ad)).set b (cv ad v)))) → va_S A s.heap H1 locs1 → W p l e R s m args below meth c0 H1 locs1 (ws.length - n0) (ceS ws - s0) QQ (F0 m (pc + 3) ls (List.map (cv ad) S')) := by
            intro H1 locs1 g1 g2 g3
            have e1 : (.inr (ci, (fs.map (cv ad)).set b (cv ad v)) : va_E) = cce ad cy (.inr (ci, fs.set b v)) := by simp [cce, List.map_set]
            rw [e1, wsC_set] at g1 g2
            have := hK ad H1 locs1 ls had g1 g2 g3 hL
            rw [List.length_set, ceS_set hw (by simp [ceN])] at this
            exact this
          cases hfin : (T b).2.2.2 with
          | false => exact va_put hx hb hts (kin hkc) ty0 t1 t2 hown hK0 hP hD hS k he hkc b hbN (hts _ (inT_gW hl rfl)) (fun _ z => z) hfin (kyA_ok hkc b hbN) hn1 hf1 hlen hd kk
          | true => exact va_putF hx hb hts (kin hkc) ty0 t1 t2 hown hK0 hP hD hS k he hkc b hbN (hts _ (inT_gW hl rfl)) (fun _ z => z) hfin hinit hdecl (kyA_ok hkc b hbN) hn1 hf1 hlen hd kk
      · cases hst
    · cases hst
  case castore =>
    rw [decide_eq_true_eq] at hc
    subst hc
    split at hst
    · rename_i x i k r
      split at hst
      · rename_i n f hw
        obtain ⟨hin, hst⟩ := bif_some hst
        cases hst
        have he := wsC_get (ad := ad) (cy := cy) hw
        refine va_cast hx hb hK0 hP hD hS k 2 he rfl (vpB_ok hin) hd (fun H1 locs1 g1 g2 g3 => ?_)
        have g1 : va_P D kCl ((wsC ad cy ws).set k (ad k, cce ad cy (.inl (2, n, .inl (upd f i.toNatClampNeg (vp_nar .char x)))))) H1 := g1
        have g2 : va_D A ((wsC ad cy ws).set k (ad k, cce ad cy (.inl (2, n, .inl (upd f i.toNatClampNeg (vp_nar .char x)))))) := g2
        rw [wsC_set] at g1 g2
        have := hK ad H1 locs1 ls had g1 g2 g3 hL
        rw [List.length_set, ceS_set hw (by simp [ceN])] at this
        exact this
      · cases hst
    · cases hst
  case iastore =>
    rw [decide_eq_true_eq] at hc
    subst hc
    split at hst
    · rename_i x i k r
      split at hst
      · rename_i n f hw
        obtain ⟨hin, hst⟩ := bif_some hst
        cases hst
        have he := wsC_get (ad := ad) (cy := cy) hw
        refine va_iast hx hb hK0 hP hD hS k 0 he rfl (vpB_ok hin) hd (fun H1 locs1 g1 g2 g3 => ?_)
        have g1 : va_P D kCl ((wsC ad cy ws).set k (ad k, cce ad cy (.inl (0, n, .inl (upd f i.toNatClampNeg x))))) H1 := g1
        have g2 : va_D A ((wsC ad cy ws).set k (ad k, cce ad cy (.inl (0, n, .inl (upd f i.toNatClampNeg x))))) := g2
        rw [wsC_set] at g1 g2
        have := hK ad H1 locs1 ls had g1 g2 g3 hL
        rw [List.length_set, ceS_set hw (by simp [ceN])] at this
        exact this
      · cases hst
    · cases hst
theorem PwC_blind {ad : Nat → Nat} {ws : List CE} {sz : Nat} {vs : List Value} : FrameBlind (va_Pc vs (PwC D ad cy ws sz)) := by
  intro a U g mk q
  obtain ⟨q0, q1, qP, qK, qD, qN⟩ := q
  exact ⟨q0, q1, qP, va_K.moved (u := U) (U := U.calling g mk a) (Vm.Alike.refl U.vm) qK, qD, fun w hw => va_Nw.same (nest_tab (nW_nest hw)) (rfl : U.vm = (U.calling g mk a).vm) (qN w hw)⟩
def TOC (mY : Nat → MethodName) (mN : Nat → Nat) (mB : Nat → ByteArray) (mL : Nat → Nat) (mP : Nat → Nat × Nat × Nat × Nat) (cd : Nat → Nat → Option ENT) : Prop :=
  (∀ a, mN a < 99 → Cond.code (mY a) (mB a) (mL a) none ∈ gW ∧ chkK mY mL mN mP a = true) ∧ (∀ j pc E, cd j pc = some E → mN j < 99 ∧ chkC mY mN (mB j) (mY j).cls pc E = true)
theorem metC_of (hT : TOC mY mN mB mL mP cd) {n j n0 s0 : Nat} {as : List Value} {ws wsF : List CE} {ad : Nat → Nat} (hj : mN j < 99) (hn0 : n0 = ws.length) (hs0 : s0 = ceS ws)
    (IH : ∀ {p : Program} {e : Env} {s : State} {m : MethodId} {args : Array Value} {below : List Frame} {meth : Method} {c0 : Code} {A : Nat → Prop}, CX D cy (mB j) (mY j).cls (mL j) none p s m args meth c0 → meth.name = "<init>" → (∀ q, s.heap.size ≤ q → A q) → GC p l e (rmC n (wsF.length - n0) (ceS wsF - s0)) s m args below meth c0 (MQ below (QwC D ad cy n0 wsF A) args s (wsF.length - n0) (ceS wsF - s0) A) D cy A (mL j) n0 s0 ad 0 (lent (mL j) as) [] ws)
    (hlen : (largs as).length ≤ mL j) (sz : Nat) : Met l (mY j) (.code (mY j) (mB j) (mL j) none :: gW) (rmC n (wsF.length - n0) (ceS wsF - s0)) (va_Pc (as.map (cv ad)) (PwC D ad cy ws sz)) (QwC D ad cy n0 wsF (va_A (wsC ad cy ws) sz)) (wsF.length - n0) (ceS wsF - s0) (va_A (wsC ad cy ws) sz) := by
  obtain ⟨m1, hm⟩ := hT.1 j hj
  unfold chkK at hm
  simp only [Bool.and_eq_true, decide_eq_true_eq] at hm
  obtain ⟨m2, m3, m4, m5, m6, m7, m8⟩ := hm
  refine va_MetF (cc := mB j) (maxL := mL j) (ret := none) m3 rfl ?_
  intro p e s m args below meth c s₁ B hml hv
  obtain ⟨rfl, hsz, hP, hK, hD0, hnw⟩ := hv
  have hts := atoms_spec (ws := .code (mY j) (mB j) (mL j) none :: gW) B.pre
  have hin : meth.name = "<init>" := (name_of_methodNamed B.named B.method).1.trans m6
  subst hsz
  rw [lg_entry_eq]
  have := IH (p := p) (e := e) (below := below) (A := va_A (wsC ad cy ws) s.heap.size) ⟨B.exec, B.bytes, B.returns, hml, findClass_of_methodNamed B.named, B.notSynchronized, fun w hw => hts w (List.mem_cons_of_mem _ hw), hnw, hK⟩ hin (fun q hq => Or.inr hq) ad s.heap [] _ (fun _ _ => rfl) hP hD0.self va_S.rf (LR.entry ad hlen)
  subst hn0
  subst hs0
  rw [Nat.sub_self, Nat.sub_self] at this
  exact this
set_option maxHeartbeats 8000000 in
theorem cp_snd (hT : TOC mY mN mB mL mP cd) : ∀ (n N j pc : Nat) (L S : List Value) (ws wsF : List CE), n ≤ N → cp cd mL n j pc L S ws = some wsF → ∀ {p : Program} {e : Env} {s : State} {m : MethodId} {args : Array Value} {below : List Frame} {meth : Method} {c0 : Code} {A : Nat → Prop} {n0 s0 : Nat} {ad0 : Nat → Nat}, CX D cy (mB j) (mY j).cls (mL j) none p s m args meth c0 → meth.name = "<init>" → (∀ q, s.heap.size ≤ q → A q) → n0 ≤ ws.length → s0 ≤ ceS ws → GC p l e (rmC N (wsF.length - n0) (ceS wsF - s0)) s m args below meth c0 (MQ below (QwC D ad0 cy n0 wsF A) args s (wsF.length - n0) (ceS wsF - s0) A) D cy A (mL j) n0 s0 ad0 pc L S ws := by
  intro n
  induction n with
  | zero => intro N j pc L S ws wsF _ h; cases h
  | succ n ih =>
    intro N j pc L S ws wsF hnN hw p e s m args below meth c0 A n0 s0 ad0 cx hin hA hn0 hs0
    unfold cp cpg at hw
    cases hcd : cd j pc with
    | none => rw [hcd] at hw; cases hw
    | some E =>
      obtain ⟨hj, hchk⟩ := hT.2 j pc E hcd
      obtain ⟨ins, len, a, b, c, q, vi, vl⟩ := E
      rw [hcd] at hw
      dsimp only at hw
      split at hw
      · -- return
        intro ad H locs ls had hP hD hS hL
        obtain ⟨hx, hb, hr, hml, hown, hlk, hts, hnw, hK0⟩ := id cx
        unfold chkC at hchk
        simp only [Bool.and_eq_true, decide_eq_true_eq] at hchk
        obtain ⟨hd, rfl⟩ := hchk
        split at hw
        · cases hw
          exact W.vret hx hb hr (fun t ht hW => ⟨⟨rfl, ad, had, by rw [ht]; exact hP, va_K.moved hW.alike hK0, hD⟩, hS.F ht⟩) hS.2.2 hd
        · cases hw
      · -- invokespecial
        rename_i i
        intro ad H locs ls had hP hD hS hL
        obtain ⟨hx, hb, hr, hml, hown, hlk, hts, hnw, hK0⟩ := id cx
        unfold chkC at hchk
        rw [Bool.and_eq_true, decide_eq_true_eq] at hchk
        obtain ⟨hd, hchk⟩ := hchk
        dsimp only at hchk
        rw [Bool.and_eq_true, decide_eq_true_eq] at hchk
        obtain ⟨rfl, hchk⟩ := hchk
        by_cases hc1 : c = 1
        · subst hc1
          rw [if_pos rfl] at hchk
          dsimp only [Nat.beq, cond] at hw
          split at hw
          · rename_i k r
            obtain ⟨hcat, hw⟩ := bif_some hw
            have hcat' : lcat r ≤ 8 := Nat.le_of_ble_eq_true hcat
            refine W.objInit hx hb hown (hts _ (inT_gW hchk rfl)) (hts _ karr.2.2.2.2.1) (hts _ karr.2.2.2.2.2) (g := F0 m pc ls ((Value.ref k :: r).map (cv ad))) (rest := r.map (cv ad)) rfl (by rw [hml]; exact hL.2.1) rfl hd (by simp [rmC]) ?_ (ih N j (pc + 3) L r ws wsF (by omega) hw cx hin hA hn0 hs0 ad H locs ls had hP hD hS hL)
            have := lv_room (m := m) (pc := pc) (ls := ls) (rest := (Value.ref k :: r).map (cv ad)) (st := r.map (cv ad)) (by rw [lcat_sum]; exact hcat')
            simp only [rmC]
            omega
          · cases hw
        · rw [if_neg hc1] at hchk
          simp only [Bool.and_eq_true, Bool.or_eq_true, decide_eq_true_eq] at hchk
          obtain ⟨hmn, hb40, hlink⟩ := hchk
          have hbq : Nat.beq c 1 = false := by
            cases hz : Nat.beq c 1 with
            | false => rfl
            | true => exact absurd (Nat.eq_of_beq_eq_true hz) hc1
          rw [hbq] at hw
          dsimp only [cond] at hw
          split at hw
          · rename_i k hSb
            obtain ⟨hchks, hw⟩ := bif_some hw
            simp only [Bool.and_eq_true] at hchks
            obtain ⟨hcat, hlar, o1, o2⟩ := hchks
            have hcat' : lcat (S.drop (b + 1)) ≤ 8 := Nat.le_of_ble_eq_true hcat
            have hlar' := Nat.le_of_ble_eq_true hlar
            split at hw
            · rename_i ws' hcp
              have hl1 := cp_len hcp
              have hl2 := cp_len hw
              obtain ⟨m1, hm⟩ := hT.1 a (by omega)
              unfold chkK at hm
              simp only [Bool.and_eq_true, decide_eq_true_eq] at hm
              obtain ⟨m2, m3, m4, m5, m6, m7, m8⟩ := hm
              rw [hmn] at m7
              have hmet := metC_of (l := l) (D := D) (cy := cy) hT (n := n) (j := a) (as := .ref k :: (S.take b).reverse) (ws := ws) (wsF := ws') (ad := ad) (by omega) rfl rfl (fun {p e s m args below meth c0 A} cx hin hA => ih n a 0 (lent (mL a) (.ref k :: (S.take b).reverse)) [] ws ws' (Nat.le_refl _) hcp cx hin hA (Nat.le_refl _) (Nat.le_refl _)) hlar' H.size
              have hbl : b < S.length := (List.getElem?_eq_some_iff.mp hSb).1
              have hstk : S.map (cv ad) = (((S.take b).reverse).map (cv ad)).reverse ++ .ref (ad k) :: (S.drop (b + 1)).map (cv ad) := by
                conv => lhs; rw [split_at hSb]
                simp [cv]
              have hln : (((S.take b).reverse).map (cv ad)).length = b := by simp; omega
              have hrm : 2 * (F0 m pc ls (S.map (cv ad))).monitorRoom + (((S.drop (b + 1)).map (cv ad)).map fun v => v.category).sum ≤ 8 := lv_room (by rw [lcat_sum]; exact hcat')
              have hpre : PreS s H (va_Pc ((Value.ref k :: (S.take b).reverse).map (cv ad)) (PwC D ad cy ws H.size)) (.ref (ad k) :: ((S.take b).reverse).map (cv ad)) :=
                ⟨PwC_blind, fun U hU hW => ⟨rfl, by rw [hU], by rw [hU]; exact hP, va_K.moved hW.alike hK0, ⟨hD.1, fun _ _ _ => trivial⟩, fun w hw => nest_warm (nW_nest hw) hW (hnw w hw)⟩⟩
              have hsub : ∀ q, va_A (wsC ad cy ws) H.size q → A q := by
                intro q hq
                rcases hq with ⟨k, e, hk⟩ | hq
                · exact hD.2 k _ hk
                · exact hA q (Nat.le_trans hS.1 hq)
              have hgood : ∀ w ∈ Cond.code (mY a) (mB a) (mL a) none :: gW, w ∈ gW := fun w hw => by
                rcases List.mem_cons.mp hw with rfl | hw
                · exact m1
                · exact hw
              have hroom : (rmC n (ws'.length - ws.length) (ceS ws' - ceS ws)).frames + 1 ≤ (rmC N (wsF.length - n0) (ceS wsF - s0)).frames ∧ 8 + (mL a + 11) + (rmC n (ws'.length - ws.length) (ceS ws' - ceS ws)).locals ≤ (rmC N (wsF.length - n0) (ceS wsF - s0)).locals := by
                simp only [rmC]
                omega
              have hfit : ws.length - n0 + (ws'.length - ws.length) ≤ (rmC N (wsF.length - n0) (ceS wsF - s0)).cells ∧ ceS ws - s0 + (ceS ws' - ceS ws) ≤ (rmC N (wsF.length - n0) (ceS wsF - s0)).slots := by
                simp only [rmC]
                omega
              have key : va_Run p l e (rmC N (wsF.length - n0) (ceS wsF - s0)) s m args below meth c0 H locs (ws.length - n0) (ceS ws - s0) (ws'.length - ws.length) (ceS ws' - ceS ws) (F0 m pc ls (S.map (cv ad))) ((S.drop (b + 1)).map (cv ad)) (QwC D ad cy ws.length ws' (va_A (wsC ad cy ws) H.size) (Value.ref (ad k) :: ((S.take b).reverse).map (cv ad)).toArray) (va_A (wsC ad cy ws) H.size) := by
                rcases hlink with hlink | hlink
                · exact va_runI ⟨hx, hb, hml, hown, hts⟩ hmet (cwI b hts (good_all hgood) rfl rfl rfl (hts _ (inT_gW m2 rfl)) (hts _ (inT_gW hlink rfl)) (hts _ (inT_gW m8 rfl)) m6 ⟨m4.1, m4.2, m7⟩ hroom) hpre rfl hln hL.2.1 hstk hrm hd hfit
                · exact va_runIN ⟨hx, hb, hml, hown, hts⟩ hmet ⟨va_cnB b hts (good_all hgood) rfl rfl rfl (hnw _ (inT_nW hlink rfl)) (hts _ (inT_gW m2 rfl)) ⟨m4.1, m4.2, m7⟩ hroom, m6, hts _ (inT_gW m8 rfl)⟩ hpre rfl hln hL.2.1 hstk hrm hd hfit
              intro T hT' X
              obtain ⟨v, st₀, t, T', Ls, h0, X', hLs, e1, e2, ⟨⟨hv, ad', had', hP1, hK1, hD1⟩, hz, hk⟩, st⟩ := key T hT' X
              cases hv
              rw [h0] at hz hk
              have c1 : ws.length - n0 + (ws'.length - ws.length) = ws'.length - n0 := by omega
              have c2 : ceS ws - s0 + (ceS ws' - ceS ws) = ceS ws' - s0 := by omega
              rw [c1, c2] at X'
              have hW' := ih N j (pc + 3) L (S.drop (b + 1)) ws' wsF (by omega) hw (below := below) (e := e) (ad0 := ad0) (n0 := n0) (s0 := s0) cx hin hA (by omega) (by omega) ad' T'.heap (locs ++ Ls) ls (fun k (hk : k < n0) => (had' k (Nat.lt_of_lt_of_le hk hn0)).trans (had k hk)) (by rw [e1]; exact hP1) ⟨hD1.1, fun i q hq => hsub _ (hD1.2 i q hq)⟩
                ⟨Nat.le_trans hS.1 (by rw [e1]; exact hz), fun q h1 h2 => by rw [e1, hk q (Nat.lt_of_lt_of_le h1 hS.1) (fun z => h2 (hsub q z))]; exact hS.2.1 q h1 h2, fun q hq => by
                  rcases List.mem_append.mp hq with h | h
                  · exact hS.2.2 q h
                  · exact hsub _ (hLs q h)⟩ (LR_eq had' o1 hL)
              rw [cvs_eq had' o2] at hW'
              obtain ⟨t2, a1, b1⟩ := hW' T' rfl X'
              exact ⟨t2, st t2 a1, b1⟩
            · cases hw
          · cases hw
      · split at hw
        · rename_i pc' L' S' ws' hcs
          have hl1 := cs1_len hcs
          have hl2 := cp_len hw
          exact cs1_snd cx hin hA hn0 hs0 (by simp only [rmC]; omega) hchk hcs (ih N j pc' L' S' ws' wsF (by omega) hw cx hin hA (by omega) (by omega))
        · cases hw
end CTS
