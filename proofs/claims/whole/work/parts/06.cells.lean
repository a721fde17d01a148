def rmD (d : Nat) : Room := { frames := d + 4, cells := 0, slots := 0, locals := (d + 4) * 64 }
section AMH
variable {p : Program} {l : Launch} {e : Env} {R : Room} {s : State} {m : MethodId} {args : Array Value} {below : List Frame} {meth : Method} {c0 : Code} {QQ : State → Prop} {D : va_G} {ad : Nat → Nat} {cy : Nat → ClassId} {sh : Nat → SH} {NC : Nat} {A : Nat → Prop} {nL : Nat}
variable {bytes : ByteArray} {own : String} {ret : Option FieldType} {mY : Nat → MethodName} {mN : Nat → Nat}
theorem get_row (cx : CX D cy bytes own nL ret p s m args meth c0) {pc i ci b q k qq : Nat} {fl : List Nat} {h : HP} {H : Heap} {locs : List Loc} {ls : Array Slot} {rest : List Value} (hd : decode bytes pc = .ok (.getfield i, 3)) (hc : chkF own i ci b q = true) (hsk : sh k = .inr (ci, fl)) (hk : k < NC) (hq : fl[b]? = some qq) (hP : va_P D kCl (wsO ad cy sh NC h) H)
    (kk : W p l e R s m args below meth c0 H locs 0 0 QQ (F0 m (pc + 3) ls (fvl ad h k b qq :: rest))) : W p l e R s m args below meth c0 H locs 0 0 QQ (F0 m pc ls (.ref (ad k) :: rest)) := by
  obtain ⟨hx, hb, hr, hml, hown, hlk, hts, hnw, hK0⟩ := cx
  unfold chkF at hc
  cases hkc : kCl[ci]? with
  | none => rw [hkc] at hc; cases hc
  | some r =>
    obtain ⟨C, T, N⟩ := r
    rw [hkc] at hc
    simp only [Bool.and_eq_true, Bool.or_eq_true, decide_eq_true_eq] at hc
    obtain ⟨hbN, hl⟩ := hc
    have he : (wsO ad cy sh NC h)[k]? = some (ad k, .inr (ci, fl.mapIdx (fun i q => fvl ad h k i q))) := by rw [wsO_get hk, hsk]; rfl
    have hv : (fl.mapIdx (fun i q => fvl ad h k i q))[b]? = some (fvl ad h k b qq) := by rw [List.getElem?_mapIdx, hq]; rfl
    rcases hl with hl | hl
    · exact va_get hx hb hts (kin hkc) hown hK0 hP k he hkc b hbN (hts _ (inT_gW hl rfl)) (fun _ z => z) hv hd kk
    · exact va_getN hx hb hts (kin hkc) hown hK0 hP k he hkc b hbN (va_Nw.use rfl (hnw _ (inT_nW hl rfl))) (fun _ z => z) hv hd kk
theorem put_row (cx : CX D cy bytes own nL ret p s m args meth c0) {pc i ci b q k qq : Nat} {fl : List Nat} {h : HP} {H : Heap} {locs : List Loc} {ls : Array Slot} {rest : List Value} {ty : FieldType} {v : Value} (hd : decode bytes pc = .ok (.putfield i, 3)) (hc : chkF own i ci b q = true) (hc2 : chkP ci b ty = true) (hn : narrow ty v = v) (hfit : fits ty v = true) (hsk : sh k = .inr (ci, fl)) (hk : k < NC) (hq : fl[b]? = some qq) (hP : va_P D kCl (wsO ad cy sh NC h) H) (hD : va_D A (wsO ad cy sh NC h)) (hS : va_S A s.heap H locs)
    (kk : ∀ (H1 : Heap) (locs1 : List Loc), va_P D kCl ((wsO ad cy sh NC h).set k (ad k, .inr (ci, (fl.mapIdx (fun i q => fvl ad h k i q)).set b v))) H1 → va_D A ((wsO ad cy sh NC h).set k (ad k, .inr (ci, (fl.mapIdx (fun i q => fvl ad h k i q)).set b v))) → va_S A s.heap H1 locs1 → W p l e R s m args below meth c0 H1 locs1 0 0 QQ (F0 m (pc + 3) ls rest)) : W p l e R s m args below meth c0 H locs 0 0 QQ (F0 m pc ls (v :: .ref (ad k) :: rest)) := by
  obtain ⟨hx, hb, hr, hml, hown, hlk, hts, hnw, hK0⟩ := cx
  unfold chkF at hc
  unfold chkP at hc2
  cases hkc : kCl[ci]? with
  | none => rw [hkc] at hc; cases hc
  | some r =>
    obtain ⟨C, T, N⟩ := r
    rw [hkc] at hc hc2
    simp only [Bool.and_eq_true, Bool.or_eq_true, decide_eq_true_eq] at hc hc2
    obtain ⟨hbN, hl⟩ := hc
    obtain ⟨hfin, hty⟩ := hc2
    obtain ⟨ty0, t1, t2⟩ := kty hkc
    have he : (wsO ad cy sh NC h)[k]? = some (ad k, .inr (ci, fl.mapIdx (fun i q => fvl ad h k i q))) := by rw [wsO_get hk, hsk]; rfl
    have hlen : b < (fl.mapIdx (fun i q => fvl ad h k i q)).length := by rw [List.length_mapIdx]; exact (List.getElem?_eq_some_iff.mp hq).1
    rcases hl with hl | hl
    · exact va_put hx hb hts (kin hkc) ty0 t1 t2 hown hK0 hP hD hS k he hkc b hbN (hts _ (inT_gW hl rfl)) (fun _ z => z) hfin hty hn hfit hlen hd kk
    · exact va_putN hx hb hts (kin hkc) ty0 t1 t2 hown hK0 hP hD hS k he hkc b hbN (va_Nw.use rfl (hnw _ (inT_nW hl rfl))) (fun _ z => z) hfin hty hn hfit hlen hd kk
def isCell : Instr → Bool
  | .getfield _ => true
  | .putfield _ => true
  | .iaload => true
  | .caload => true
  | .baload => true
  | .laload => true
  | .iastore => true
  | .bastore => true
  | .lastore => true
  | .arraylength => true
  | _ => false
set_option maxHeartbeats 4000000 in
theorem snd_cell (cx : CX D cy bytes own nL ret p s m args meth c0) (hNC : ∀ k, NC ≤ k → sh k = .inl (9, 0)) (hfi : ∀ {k ci b : Nat} {fl : List Nat}, sh k = .inr (ci, fl) → fl[b]? = some 0 → chkP ci b .long = true → False) (hfj : ∀ {k ci b : Nat} {fl : List Nat}, sh k = .inr (ci, fl) → fl[b]? = some 1 → chkP ci b .int = true → False) {E : ENT} {pc : Nat} {L S : List Value} {h : HP} {K : KT} {C : CT} {Q : QT} (hr1 : isCell E.1 = true) (hc : chk1 mY mN bytes own ret pc E = true)
    (hK : ∀ pc' L' S' h', K pc' L' S' h' → GW p l e R s m args below meth c0 QQ D ad cy sh NC A nL pc' L' S' h') (hst : st1 sh E pc L S h K C Q) : GW p l e R s m args below meth c0 QQ D ad cy sh NC A nL pc L S h := by
  intro H locs ls hP hD hS hL
  obtain ⟨hx, hb, hr, hml, hown, hlk, hts, hnw, hK0⟩ := id cx
  obtain ⟨ins, len, a, b, c, q, vi, vl⟩ := E
  unfold st1 at hst
  unfold chk1 at hc
  rw [Bool.and_eq_true, decide_eq_true_eq] at hc
  obtain ⟨hd, hc⟩ := hc
  dsimp only at hr1
  have hin : ∀ {k : Nat} {z : SH}, sh k = z → z ≠ .inl (9, 0) → k < NC := fun {k z} h1 h2 => by
    rcases Nat.lt_or_ge k NC with w | w
    · exact w
    · exact absurd (h1.symm.trans (hNC k w)) h2
  cases ins <;> first | (cases hr1; done) | skip
  case getfield i =>
    dsimp only at hst hc
    rw [Bool.and_eq_true, decide_eq_true_eq] at hc
    obtain ⟨rfl, hc⟩ := hc
    split at hst
    · rename_i k r
      split at hst
      · rename_i ci fl hsk
        cases hci : Nat.beq ci a with
        | false => rw [hci] at hst; exact False.elim hst
        | true =>
          rw [hci] at hst
          have := Nat.eq_of_beq_eq_true hci
          subst this
          dsimp only [cond] at hst
          have hk := hin hsk (by simp)
          split at hst
          · rename_i hq
            exact get_row cx hd hc hsk hk hq hP (hK _ _ _ _ hst H locs ls hP hD hS hL)
          · rename_i hq
            exact get_row cx hd hc hsk hk hq hP (hK _ _ _ _ hst H locs ls hP hD hS hL)
          · rename_i hq
            exact get_row cx hd hc hsk hk hq hP (hK _ _ _ _ hst H locs ls hP hD hS hL)
          · exact hst.elim
      · exact hst.elim
    · exact hst.elim
  case putfield i =>
    dsimp only at hst hc
    simp only [Bool.and_eq_true, Bool.or_eq_true, decide_eq_true_eq] at hc
    obtain ⟨rfl, hc, hc2⟩ := hc
    split at hst
    · rename_i x k r
      split at hst
      · rename_i ci fl hsk
        cases hci : Nat.beq ci a with
        | false => rw [hci] at hst; exact False.elim hst
        | true =>
          rw [hci] at hst
          have := Nat.eq_of_beq_eq_true hci
          subst this
          dsimp only [cond] at hst
          have hk := hin hsk (by simp)
          split at hst
          · rename_i hq
            rcases hc2 with ⟨hc2, hvi⟩ | ⟨hc2, hvi⟩
            · refine put_row (v := .int x) cx hd hc hc2 rfl rfl hsk hk hq hP hD hS (fun H1 locs1 g1 g2 g3 => ?_)
              rw [ws_putI hsk hq] at g1 g2
              exact hK _ _ _ _ hst H1 locs1 ls g1 g2 g3 hL
            · exact False.elim (hfi hsk hq hc2)
          · exact hst.elim
      · exact hst.elim
    · rename_i x k r
      split at hst
      · rename_i ci fl hsk
        cases hci : Nat.beq ci a with
        | false => rw [hci] at hst; exact False.elim hst
        | true =>
          rw [hci] at hst
          have := Nat.eq_of_beq_eq_true hci
          subst this
          dsimp only [cond] at hst
          have hk := hin hsk (by simp)
          split at hst
          · rename_i hq
            rcases hc2 with ⟨hc2, hvi⟩ | ⟨hc2, hvi⟩
            · exact False.elim (hfj hsk hq hc2)
            · refine put_row (v := .long x) cx hd hc hc2 rfl rfl hsk hk hq hP hD hS (fun H1 locs1 g1 g2 g3 => ?_)
              rw [ws_putJ hsk hq] at g1 g2
              exact hK _ _ _ _ hst H1 locs1 ls g1 g2 g3 hL
          · exact hst.elim
      · exact hst.elim
    · exact hst.elim
  case iaload  =>
    dsimp only at hst hc
    rw [decide_eq_true_eq] at hc
    subst hc
    split at hst
    · rename_i i k r
      split at hst
      · rename_i n hsk
        have hk := hin hsk (by simp)
        have he : (wsO ad cy sh NC h)[k]? = some (ad k, .inl (cy 0, n, .inl (h.1 k))) := by rw [wsO_get hk, hsk]; rfl
        exact va_iald hx hb hK0 hP k 0 he rfl hst.1 hd (hK _ _ _ _ hst.2 H locs ls hP hD hS hL)
      · exact hst.elim
    · exact hst.elim
  case caload  =>
    dsimp only at hst hc
    rw [decide_eq_true_eq] at hc
    subst hc
    split at hst
    · rename_i i k r
      split at hst
      · rename_i n hsk
        have hk := hin hsk (by simp)
        have he : (wsO ad cy sh NC h)[k]? = some (ad k, .inl (cy 2, n, .inl (h.1 k))) := by rw [wsO_get hk, hsk]; rfl
        exact va_cald hx hb hK0 hP k 2 he rfl hst.1 hd (hK _ _ _ _ hst.2 H locs ls hP hD hS hL)
      · exact hst.elim
    · exact hst.elim
  case baload  =>
    dsimp only at hst hc
    rw [decide_eq_true_eq] at hc
    subst hc
    split at hst
    · rename_i i k r
      split at hst
      · rename_i n hsk
        have hk := hin hsk (by simp)
        have he : (wsO ad cy sh NC h)[k]? = some (ad k, .inl (cy 3, n, .inl (h.1 k))) := by rw [wsO_get hk, hsk]; rfl
        exact va_zald hx hb hK0 hP k 3 he rfl hst.1 hd (hK _ _ _ _ hst.2 H locs ls hP hD hS hL)
      · exact hst.elim
    · exact hst.elim
  case laload  =>
    dsimp only at hst hc
    rw [decide_eq_true_eq] at hc
    subst hc
    split at hst
    · rename_i i k r
      split at hst
      · rename_i n hsk
        have hk := hin hsk (by simp)
        have he : (wsO ad cy sh NC h)[k]? = some (ad k, .inl (cy 1, n, .inr (.inl (h.2 k)))) := by rw [wsO_get hk, hsk]; rfl
        exact va_lald hx hb hK0 hP k 1 he rfl hst.1 hd (hK _ _ _ _ hst.2 H locs ls hP hD hS hL)
      · exact hst.elim
    · exact hst.elim
  case iastore  =>
    dsimp only at hst hc
    rw [decide_eq_true_eq] at hc
    subst hc
    split at hst
    · rename_i x i k r
      split at hst
      · rename_i n hsk
        have hk := hin hsk (by simp)
        have he : (wsO ad cy sh NC h)[k]? = some (ad k, .inl (cy 0, n, .inl (h.1 k))) := by rw [wsO_get hk, hsk]; rfl
        refine va_iast hx hb hK0 hP hD hS k 0 he rfl hst.1 hd (fun H1 locs1 g1 g2 g3 => ?_)
        rw [ws_arrI hsk (by decide)] at g1 g2
        exact hK _ _ _ _ hst.2 H1 locs1 ls g1 g2 g3 hL
      · exact hst.elim
    · exact hst.elim
  case bastore  =>
    dsimp only at hst hc
    rw [decide_eq_true_eq] at hc
    subst hc
    split at hst
    · rename_i x i k r
      split at hst
      · rename_i n hsk
        have hk := hin hsk (by simp)
        have he : (wsO ad cy sh NC h)[k]? = some (ad k, .inl (cy 3, n, .inl (h.1 k))) := by rw [wsO_get hk, hsk]; rfl
        refine va_zast hx hb hK0 hP hD hS k 3 he rfl hst.1 hd (fun H1 locs1 g1 g2 g3 => ?_)
        rw [ws_arrI hsk (by decide)] at g1 g2
        exact hK _ _ _ _ hst.2 H1 locs1 ls g1 g2 g3 hL
      · exact hst.elim
    · exact hst.elim
  case lastore  =>
    dsimp only at hst hc
    rw [decide_eq_true_eq] at hc
    subst hc
    split at hst
    · rename_i x i k r
      split at hst
      · rename_i n hsk
        have hk := hin hsk (by simp)
        have he : (wsO ad cy sh NC h)[k]? = some (ad k, .inl (cy 1, n, .inr (.inl (h.2 k)))) := by rw [wsO_get hk, hsk]; rfl
        refine va_last hx hb hK0 hP hD hS k 1 he rfl hst.1 hd (fun H1 locs1 g1 g2 g3 => ?_)
        rw [ws_arrJ hsk] at g1 g2
        exact hK _ _ _ _ hst.2 H1 locs1 ls g1 g2 g3 hL
      · exact hst.elim
    · exact hst.elim
  case arraylength  =>
    dsimp only at hst hc
    rw [decide_eq_true_eq] at hc
    subst hc
    split at hst
    · rename_i k r
      split at hst
      · rename_i n hsk
        have hk := hin hsk (by simp)
        have he : (wsO ad cy sh NC h)[k]? = some (ad k, .inl (cy 0, n, .inl (h.1 k))) := by rw [wsO_get hk, hsk]; rfl
        exact va_alen hx hb hK0 hP k 0 he rfl rfl hd (hK _ _ _ _ hst H locs ls hP hD hS hL)
      · rename_i n hsk
        have hk := hin hsk (by simp)
        have he : (wsO ad cy sh NC h)[k]? = some (ad k, .inl (cy 1, n, .inr (.inl (h.2 k)))) := by rw [wsO_get hk, hsk]; rfl
        exact va_alen hx hb hK0 hP k 1 he rfl rfl hd (hK _ _ _ _ hst H locs ls hP hD hS hL)
      · rename_i n hsk
        have hk := hin hsk (by simp)
        have he : (wsO ad cy sh NC h)[k]? = some (ad k, .inl (cy 2, n, .inl (h.1 k))) := by rw [wsO_get hk, hsk]; rfl
        exact va_alen hx hb hK0 hP k 2 he rfl rfl hd (hK _ _ _ _ hst H locs ls hP hD hS hL)
      · rename_i n hsk
        have hk := hin hsk (by simp)
        have he : (wsO ad cy sh NC h)[k]? = some (ad k, .inl (cy 3, n, .inl (h.1 k))) := by rw [wsO_get hk, hsk]; rfl
        exact va_alen hx hb hK0 hP k 3 he rfl rfl hd (hK _ _ _ _ hst H locs ls hP hD hS hL)
      · exact hst.elim
    · exact hst.elim
set_option maxHeartbeats 4000000 in
theorem snd_ret (cx : CX D cy bytes own nL ret p s m args meth c0) {E : ENT} {pc : Nat} {L S : List Value} {h : HP} {K : KT} {C : CT} {Q : QT} (hr1 : E.1 = .ireturn ∨ E.1 = .lreturn ∨ E.1 = .return_) (hc : chk1 mY mN bytes own ret pc E = true)
    (hst : st1 sh E pc L S h K C Q) : GW p l e R s m args below meth c0 (MQ below (Qw D ad cy sh NC Q A) args s 0 0 A) D ad cy sh NC A nL pc L S h := by
  intro H locs ls hP hD hS hL
  obtain ⟨hx, hb, hr, hml, hown, hlk, hts, hnw, hK0⟩ := id cx
  obtain ⟨ins, len, a, b, c, q, vi, vl⟩ := E
  unfold st1 at hst
  unfold chk1 at hc
  rw [Bool.and_eq_true, decide_eq_true_eq] at hc
  obtain ⟨hd, hc⟩ := hc
  dsimp only at hr1
  have fin : ∀ v : Option Value, Q v h → ∀ t : State, t.heap = H → s.WarmedH t.vm → Qw D ad cy sh NC Q A args s (.returned (v.map (cv ad))) t := fun v hv t ht hW =>
    ⟨⟨v, h, rfl, hv, by rw [ht]; exact hP, va_K.moved hW.alike hK0, hD⟩, hS.F ht⟩
  rcases hr1 with rfl | rfl | rfl
  · dsimp only at hst hc
    rw [Bool.and_eq_true, decide_eq_true_eq] at hc
    obtain ⟨rfl, hc⟩ := hc
    split at hst
    · rename_i x
      by_cases ha : a = 1
      · subst ha
        rw [if_pos rfl, decide_eq_true_eq] at hc
        subst hc
        have hst : (x = 0 ∨ x = 1) ∧ Q (some (.int x)) h := hst
        exact W.zret hx hb hr (by rcases hst.1 with rfl | rfl <;> rfl) (fin _ hst.2) hS.2.2 hd
      · rw [if_neg ha, decide_eq_true_eq] at hc
        subst hc
        have hbq : Nat.beq a 1 = false := by
          cases hz : Nat.beq a 1 with
          | false => rfl
          | true => exact absurd (Nat.eq_of_beq_eq_true hz) ha
        rw [hbq] at hst
        exact W.iret hx hb hr (fin _ hst) hS.2.2 hd
    · exact hst.elim
  · dsimp only at hst hc
    simp only [Bool.and_eq_true, decide_eq_true_eq] at hc
    obtain ⟨rfl, rfl⟩ := hc
    split at hst
    · exact W.lret hx hb hr (fin _ hst) hS.2.2 hd
    · exact hst.elim
  · dsimp only at hst hc
    simp only [Bool.and_eq_true, decide_eq_true_eq] at hc
    obtain ⟨rfl, rfl⟩ := hc
    split at hst
    · exact W.vret hx hb hr (fin none hst) hS.2.2 hd
    · exact hst.elim
end AMH
