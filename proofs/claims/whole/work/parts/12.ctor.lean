/-! ===== CONSTRUCTORS: a second abstract machine, which makes cells ===== -/
abbrev CE : Type := (Nat × vp_A) ⊕ (Nat × List Value)
def kyA (a : Nat) : Nat → FieldType := match a with
  | 0 => ky_0
  | 1 => ky_1
  | 2 => ky_2
  | 3 => ky_3
  | 4 => ky_4
  | 5 => ky_5
  | 6 => ky_6
  | 7 => ky_7
  | 8 => ky_8
  | 9 => ky_9
  | 10 => ky_10
  | 11 => ky_11
  | _ => ky_12
theorem kyA_ok : ∀ {a : Nat} {C : String} {T : u_T} {N : Nat}, kCl[a]? = some (C, T, N) → ∀ k, k < N → parseFieldDescriptor (T k).2.2.1 = some (kyA a k)
  | 0, _, _, _, h => by cases h; exact kyo_0
  | 1, _, _, _, h => by cases h; exact kyo_1
  | 2, _, _, _, h => by cases h; exact kyo_2
  | 3, _, _, _, h => by cases h; exact kyo_3
  | 4, _, _, _, h => by cases h; exact kyo_4
  | 5, _, _, _, h => by cases h; exact kyo_5
  | 6, _, _, _, h => by cases h; exact kyo_6
  | 7, _, _, _, h => by cases h; exact kyo_7
  | 8, _, _, _, h => by cases h; exact kyo_8
  | 9, _, _, _, h => by cases h; exact kyo_9
  | 10, _, _, _, h => by cases h; exact kyo_10
  | 11, _, _, _, h => by cases h; exact kyo_11
  | 12, _, _, _, h => by cases h; exact kyo_12
  | _ + 13, _, _, _, h => by cases h
theorem kmk_w : ((kCl.map (fun r => Cond.instantiable r.1 r.2.2)) ++ (kCl.map (fun r => Cond.initialized r.1)) ++ [Cond.arrayClass .int, Cond.arrayClass .long, Cond.arrayClass .char, Cond.arrayClass .boolean, Cond.instanceMethod Lib.objectInit, Cond.code Lib.objectInit ⟨#[0xb1]⟩ 1 none]).all (fun w => decide (w ∈ lw_tbl) && goodWord w) = true := by decide +kernel
theorem kmk {a : Nat} {C : String} {T : u_T} {N : Nat} (h : kCl[a]? = some (C, T, N)) : Cond.instantiable C N ∈ gW ∧ Cond.initialized C ∈ gW := by
  have hm := List.mem_of_getElem? h
  have w := kin_of kmk_w
  exact ⟨w _ (List.mem_append_left _ (List.mem_append_left _ (List.mem_map.mpr ⟨_, hm, rfl⟩))), w _ (List.mem_append_left _ (List.mem_append_right _ (List.mem_map.mpr ⟨_, hm, rfl⟩)))⟩
theorem karr : Cond.arrayClass .int ∈ gW ∧ Cond.arrayClass .long ∈ gW ∧ Cond.arrayClass .char ∈ gW ∧ Cond.arrayClass .boolean ∈ gW ∧ Cond.instanceMethod Lib.objectInit ∈ gW ∧ Cond.code Lib.objectInit ⟨#[0xb1]⟩ 1 none ∈ gW := by
  have w := kin_of kmk_w
  exact ⟨w _ (List.mem_append_right _ (by simp)), w _ (List.mem_append_right _ (by simp)), w _ (List.mem_append_right _ (by simp)), w _ (List.mem_append_right _ (by simp)), w _ (List.mem_append_right _ (by simp)), w _ (List.mem_append_right _ (by simp))⟩
def cce (ad : Nat → Nat) (cy : Nat → ClassId) : CE → va_E
  | .inl (t, a) => .inl (cy t, a)
  | .inr (ci, fs) => .inr (ci, fs.map (cv ad))
def wsC (ad : Nat → Nat) (cy : Nat → ClassId) (ws : List CE) : va_W := ws.mapIdx (fun k e => (ad k, cce ad cy e))
def ceN : CE → Nat
  | .inl (_, a) => a.1
  | .inr (_, fs) => fs.length
def ceS (ws : List CE) : Nat := (ws.map ceN).sum
def rfOK (n : Nat) : Value → Bool
  | .ref k => Nat.blt k n
  | _ => true
def ceOK (n : Nat) : CE → Bool
  | .inl _ => true
  | .inr (_, fs) => fs.all (rfOK n)
def allOK (L S : List Value) (ws : List CE) : Bool := L.all (rfOK ws.length) && (S.all (rfOK ws.length) && ws.all (ceOK ws.length))
def dfl (a b : Nat) : List Value := (List.range b).map (fun j => defaultValue (kyA a j))
def zerA (t n : Nat) : vp_A := if t = 1 then (n, .inr (.inl (fun _ => 0))) else (n, .inl (fun _ => 0))
def tyOK : FieldType → Value → Bool
  | .int, .int _ => true
  | .long, .long _ => true
  | .object _, .ref _ => true
  | .array _, .ref _ => true
  | _, _ => false
theorem tyOK_ok {ad : Nat → Nat} {ty : FieldType} {v : Value} (h : tyOK ty v = true) : narrow ty (cv ad v) = cv ad v ∧ fits ty (cv ad v) = true := by
  unfold tyOK at h
  split at h <;> first | exact ⟨rfl, rfl⟩ | cases h
def vpB (i : Int32) (n : Nat) : Bool := decide (¬ (i < 0 ∨ n ≤ i.toNatClampNeg))
def cs1 (E : ENT) (pc : Nat) (L S : List Value) (ws : List CE) : Option (Nat × List Value × List Value × List CE) := match E with
  | (ins, len, a, b, _, _, vi, vl) => match ins with
    | .aload_n _ => (match L[a]? with | some (.ref k) => some (pc + len, L, .ref k :: S, ws) | _ => none)
    | .aload _ => (match L[a]? with | some (.ref k) => some (pc + len, L, .ref k :: S, ws) | _ => none)
    | .iconst _ => some (pc + len, L, .int vi :: S, ws)
    | .bipush _ => some (pc + len, L, .int vi :: S, ws)
    | .sipush _ => some (pc + len, L, .int vi :: S, ws)
    | .lconst _ => some (pc + len, L, .long vl :: S, ws)
    | .dup => (match S with | .ref k :: r => some (pc + len, L, .ref k :: .ref k :: r, ws) | _ => none)
    | .new _ => (bif allOK L S ws then some (pc + len, L, .ref ws.length :: S, ws ++ [.inr (a, dfl a b)]) else none)
    | .newarray _ => (match S with
        | .int n :: r => (bif allOK L r ws && (vpB n 10000) then some (pc + len, L, .ref ws.length :: r, ws ++ [.inl (a, zerA a n.toNatClampNeg)]) else none)
        | _ => none)
    | .getfield _ => (match S with
        | .ref k :: r => (match ws[k]? with
          | some (.inr (ci, fs)) => (bif Nat.beq ci a then (match fs[b]? with | some v => some (pc + len, L, v :: r, ws) | none => none) else none)
          | _ => none)
        | _ => none)
    | .putfield _ => (match S with
        | v :: .ref k :: r => (match ws[k]? with
          | some (.inr (ci, fs)) => (bif Nat.beq ci a && (Nat.blt b fs.length && tyOK (kyA a b) v) then some (pc + len, L, r, ws.set k (.inr (ci, fs.set b v))) else none)
          | _ => none)
        | _ => none)
    | .castore => (match S with
        | .int x :: .int i :: .ref k :: r => (match ws[k]? with
          | some (.inl (2, n, .inl f)) => (bif vpB i n then some (pc + len, L, r, ws.set k (.inl (2, n, .inl (upd f i.toNatClampNeg (vp_nar .char x))))) else none)
          | _ => none)
        | _ => none)
    | .iastore => (match S with
        | .int x :: .int i :: .ref k :: r => (match ws[k]? with
          | some (.inl (0, n, .inl f)) => (bif vpB i n then some (pc + len, L, r, ws.set k (.inl (0, n, .inl (upd f i.toNatClampNeg x)))) else none)
          | _ => none)
        | _ => none)
    | _ => none
def cpg (cd : Nat → Nat → Option ENT) (mL : Nat → Nat) (f : Nat → Nat → List Value → List Value → List CE → Option (List CE)) (j pc : Nat) (L S : List Value) (ws : List CE) : Option (List CE) := match cd j pc with
  | none => none
  | some (ins, len, a, b, c, q, vi, vl) => match ins with
    | .return_ => (match S with | [] => some ws | _ => none)
    | .invokespecial _ => (bif Nat.beq c 1 then (match S with | .ref _ :: r => (bif Nat.ble (lcat r) 8 then f j (pc + 3) L r ws else none) | _ => none)
        else (match S[b]? with
          | some (.ref k) => (bif Nat.ble (lcat (S.drop (b + 1))) 8 && (Nat.ble (largs (.ref k :: (S.take b).reverse)).length (mL a) && (L.all (rfOK ws.length) && (S.drop (b + 1)).all (rfOK ws.length))) then
              (match f a 0 (lent (mL a) (.ref k :: (S.take b).reverse)) [] ws with
              | some ws' => f j (pc + 3) L (S.drop (b + 1)) ws'
              | none => none) else none)
          | _ => none))
    | _ => (match cs1 (ins, len, a, b, c, q, vi, vl) pc L S ws with
      | some (pc', L', S', ws') => f j pc' L' S' ws'
      | none => none)
def cp (cd : Nat → Nat → Option ENT) (mL : Nat → Nat) : Nat → Nat → Nat → List Value → List Value → List CE → Option (List CE)
  | 0, _, _, _, _, _ => none
  | n + 1, j, pc, L, S, ws => cpg cd mL (fun j pc L S ws => cp cd mL n j pc L S ws) j pc L S ws
/-! its cells -/
theorem wsC_get {ad : Nat → Nat} {cy : Nat → ClassId} {ws : List CE} {k : Nat} {e : CE} (h : ws[k]? = some e) : (wsC ad cy ws)[k]? = some (ad k, cce ad cy e) := by
  simp [wsC, h]
theorem wsC_set {ad : Nat → Nat} {cy : Nat → ClassId} {ws : List CE} {k : Nat} {e : CE} : (wsC ad cy ws).set k (ad k, cce ad cy e) = wsC ad cy (ws.set k e) := by
  apply List.ext_getElem?
  intro i
  by_cases hi : i = k
  · subst hi
    by_cases hk : i < ws.length
    · rw [List.getElem?_set_self (by simp [wsC, hk])]
      exact (wsC_get (by rw [List.getElem?_set_self hk])).symm
    · rw [List.getElem?_eq_none (by simp [wsC]; omega), List.getElem?_eq_none (by simp [wsC]; omega)]
  · rw [List.getElem?_set_ne (Ne.symm hi)]
    simp only [wsC, List.getElem?_mapIdx, List.getElem?_set_ne (Ne.symm hi)]
theorem cv_eq {ad ad' : Nat → Nat} {n : Nat} (h : ∀ k, k < n → ad' k = ad k) {v : Value} (hv : rfOK n v = true) : cv ad' v = cv ad v := by
  cases v <;> first | rfl | (simp only [cv]; rw [h _ (Nat.ble_eq.mp hv)])
theorem cvs_eq {ad ad' : Nat → Nat} {n : Nat} (h : ∀ k, k < n → ad' k = ad k) {l : List Value} (hv : l.all (rfOK n) = true) : l.map (cv ad') = l.map (cv ad) :=
  List.map_congr_left fun v hv' => cv_eq h (List.all_eq_true.mp hv v hv')
theorem wsC_eq {ad ad' : Nat → Nat} {cy : Nat → ClassId} {ws : List CE} (h : ∀ k, k < ws.length → ad' k = ad k) (hv : ws.all (ceOK ws.length) = true) : wsC ad' cy ws = wsC ad cy ws := by
  apply List.ext_getElem?
  intro i
  simp only [wsC, List.getElem?_mapIdx]
  cases he : ws[i]? with
  | none => rfl
  | some e =>
    have hi := (List.getElem?_eq_some_iff.mp he).1
    have hc := List.all_eq_true.mp hv e (List.mem_of_getElem? he)
    simp only [Option.map_some, h i hi]
    congr 2
    obtain ⟨t, a⟩ | ⟨ci, fs⟩ := e
    · rfl
    · simp only [cce]
      rw [cvs_eq h hc]
theorem LR_eq {ad ad' : Nat → Nat} {n : Nat} (h : ∀ k, k < n → ad' k = ad k) {L : List Value} (hv : L.all (rfOK n) = true) {ls : Array Slot} {nL : Nat} (hl : LR ad ls nL L) : LR ad' ls nL L := by
  refine ⟨hl.1, lv_mono hl.2 fun q hq => ?_⟩
  obtain ⟨w, h1, h2, h3⟩ := mem_asc.mp hq
  exact mem_asc.mpr ⟨w, h1, h2, by rw [h3, cv_eq h (List.all_eq_true.mp hv w (List.mem_of_getElem? h1))]⟩
theorem wsC_push {ad : Nat → Nat} {cy : Nat → ClassId} {ws : List CE} {q : Nat} {e : CE} (hv : ws.all (ceOK ws.length) = true) (he : cce (va_up ad ws.length q) cy e = cce ad cy e) : wsC (va_up ad ws.length q) cy (ws ++ [e]) = wsC ad cy ws ++ [(q, cce ad cy e)] := by
  have h1 : wsC (va_up ad ws.length q) cy ws = wsC ad cy ws := wsC_eq (fun k hk => by simp [va_up, Nat.ne_of_lt hk]) hv
  have h2 : wsC (va_up ad ws.length q) cy (ws ++ [e]) = wsC (va_up ad ws.length q) cy ws ++ [(q, cce (va_up ad ws.length q) cy e)] := by
    simp [wsC, List.mapIdx_append, va_up]
  rw [h2, h1, he]
theorem ceS_set {ws : List CE} {k : Nat} {e e' : CE} (h : ws[k]? = some e) (hn : ceN e' = ceN e) : ceS (ws.set k e') = ceS ws := by
  unfold ceS
  congr 1
  apply List.ext_getElem?
  intro i
  by_cases hi : i = k
  · subst hi
    have hk := (List.getElem?_eq_some_iff.mp h).1
    simp only [List.getElem?_map, List.getElem?_set_self hk, h, Option.map_some, hn]
  · simp [List.getElem?_map, List.getElem?_set_ne (Ne.symm hi)]
theorem ceS_push (ws : List CE) (e : CE) : ceS (ws ++ [e]) = ceS ws + ceN e := by simp [ceS]
theorem bif_some {α : Type} {b : Bool} {x : Option α} {y : α} (h : (bif b then x else none) = some y) : b = true ∧ x = some y := by
  cases b
  · cases h
  · exact ⟨rfl, h⟩
theorem cs1_len {E : ENT} {pc pc' : Nat} {L S L' S' : List Value} {ws ws' : List CE} (h : cs1 E pc L S ws = some (pc', L', S', ws')) : ws.length ≤ ws'.length ∧ ceS ws ≤ ceS ws' := by
  obtain ⟨ins, len, a, b, c, q, vi, vl⟩ := E
  have same : ∀ {x : Nat × List Value × List Value × List CE}, some x = some (pc', L', S', ws') → x.2.2.2 = ws → ws.length ≤ ws'.length ∧ ceS ws ≤ ceS ws' := by
    intro x h1 h2
    cases h1
    dsimp only at h2
    subst h2
    exact ⟨Nat.le_refl _, Nat.le_refl _⟩
  have grow : ∀ {x : Nat × List Value × List Value × List CE} {e : CE}, some x = some (pc', L', S', ws') → x.2.2.2 = ws ++ [e] → ws.length ≤ ws'.length ∧ ceS ws ≤ ceS ws' := by
    intro x e h1 h2
    cases h1
    dsimp only at h2
    subst h2
    rw [ceS_push]
    exact ⟨by simp, by omega⟩
  have sets : ∀ {x : Nat × List Value × List Value × List CE} {k : Nat} {e e' : CE}, some x = some (pc', L', S', ws') → ws[k]? = some e → ceN e' = ceN e → x.2.2.2 = ws.set k e' → ws.length ≤ ws'.length ∧ ceS ws ≤ ceS ws' := by
    intro x k e e' h1 h2 h3 h4
    cases h1
    dsimp only at h4
    subst h4
    rw [ceS_set h2 h3]
    exact ⟨by simp, Nat.le_refl _⟩
  unfold cs1 at h
  cases ins <;> dsimp only at h <;> first | (cases h; done) | exact same h rfl | skip
  case aload => split at h <;> first | exact same h rfl | (cases h; done)
  case aload_n => split at h <;> first | exact same h rfl | (cases h; done)
  case dup => split at h <;> first | exact same h rfl | (cases h; done)
  case new => obtain ⟨-, h⟩ := bif_some h; exact grow h rfl
  case newarray =>
    split at h
    · obtain ⟨-, h⟩ := bif_some h; exact grow h rfl
    · cases h
  case getfield =>
    split at h
    · split at h
      · obtain ⟨-, h⟩ := bif_some h
        split at h
        · exact same h rfl
        · cases h
      · cases h
    · cases h
  case putfield =>
    split at h
    · split at h
      · rename_i hw
        obtain ⟨-, h⟩ := bif_some h
        exact sets h hw (by simp [ceN]) rfl
      · cases h
    · cases h
  case castore =>
    split at h
    · split at h
      · rename_i hw
        obtain ⟨-, h⟩ := bif_some h
        exact sets h hw (by simp [ceN]) rfl
      · cases h
    · cases h
  case iastore =>
    split at h
    · split at h
      · rename_i hw
        obtain ⟨-, h⟩ := bif_some h
        exact sets h hw (by simp [ceN]) rfl
      · cases h
    · cases h
