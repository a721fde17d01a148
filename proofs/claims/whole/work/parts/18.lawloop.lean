/-! ===== THE LAW'S LOOP, over what is said of the program's runs ===== -/
def op_0 (Inv : HP → Prop) : Prop := ∀ (a0 : Int32) (a1 : Int32) (a2 : Int32) (a3 : Int32) (a4 : Int32), opI Inv j_E_feed j_M_feed [.int a0, .int a1, .int a2, .int a3, .int a4]
def op_1 (Inv : HP → Prop) : Prop := ∀ (a0 : Int32), opI Inv j_E_end j_M_end [.int a0]
def op_2 (Inv : HP → Prop) : Prop := opI Inv j_E_house j_M_house []
def op_3 (Inv : HP → Prop) : Prop := ∀ (a0 : Int32), opI Inv j_E_fault j_M_fault [.int a0]
def op_4 (Inv : HP → Prop) : Prop := ∀ (a0 : Int32), opI Inv j_E_has j_M_has [.int a0]
def op_5 (Inv : HP → Prop) : Prop := ∀ (a0 : Int32) (a1 : Int32) (a2 : Int32), (a0 = 0 ∨ a0 = 1) → opI Inv j_E_letter j_M_letter [.int a0, .int a1, .int a2]
def op_6 (Inv : HP → Prop) : Prop := ∀ (a0 : Int32) (a1 : Int32), opI Inv j_E_turn j_M_turn [.int a0, .int a1]
def op_7 (Inv : HP → Prop) : Prop := ∀ (a0 : Int32) (a1 : Int32), opI Inv j_E_may j_M_may [.int a0, .int a1]
def op_8 (Inv : HP → Prop) : Prop := ∀ (a0 : Int32) (a1 : Int32), opI Inv j_E_due j_M_due [.int a0, .int a1]
def op_9 (Inv : HP → Prop) : Prop := ∀ (a0 : Int32) (a1 : Int32) (a2 : Int32), opL Inv j_E_level j_M_level [.int a0, .int a1, .int a2]
def op_10 (Inv : HP → Prop) : Prop := ∀ (a0 : Int32) (a1 : Int32), opL Inv j_E_gap j_M_gap [.int a0, .int a1]
def op_11 (Inv : HP → Prop) : Prop := ∀ (a0 : Int32) (a1 : Int32) (a2 : Int32), (a2 = 0 ∨ a2 = 1) → opI Inv j_E_stretch j_M_stretch [.int a0, .int a1, .int a2]
def op_12 (Inv : HP → Prop) : Prop := ∀ (a0 : Int32), opL Inv j_E_worst j_M_worst [.int a0]
def op_13 (Inv : HP → Prop) : Prop := opI Inv j_E_bars j_M_bars []
def op_14 (Inv : HP → Prop) : Prop := opI Inv j_E_first j_M_first []
def op_15 (Inv : HP → Prop) : Prop := ∀ (a0 : Int32) (a1 : Int32), opI Inv j_E_set j_M_set [.int a0, .int a1]
def op_16 (Inv : HP → Prop) : Prop := ∀ (a0 : Int32) (a1 : Int32), opI Inv j_E_give j_M_give [.int a0, .int a1]
def op_17 (Inv : HP → Prop) : Prop := ∀ (a0 : Int32), opI Inv j_E_step j_M_step [.int a0]
def op_18 (Inv : HP → Prop) : Prop := ∀ (a0 : Int32), opI Inv j_E_round j_M_round [.int a0]
def op_19 (Inv : HP → Prop) : Prop := ∀ (a0 : Int32), opI Inv j_E_block j_M_block [.int a0]
def op_20 (Inv : HP → Prop) : Prop := ∀ (a0 : Int32) (a1 : Int32) (a2 : Int32), opI Inv j_E_even j_M_even [.int a0, .int a1, .int a2]
def op_21 (Inv : HP → Prop) : Prop := ∀ (a0 : Int32), opI Inv j_E_cut j_M_cut [.int a0]
def op_22 (Inv : HP → Prop) : Prop := ∀ (a0 : Int32), opI Inv j_E_least j_M_least [.int a0]
def op_23 (Inv : HP → Prop) : Prop := ∀ (a0 : Int32), opI Inv j_E_cycle j_M_cycle [.int a0]
def op_24 (Inv : HP → Prop) : Prop := ∀ (a0 : Int32), opI Inv j_E_swaps j_M_swaps [.int a0]
def op_25 (Inv : HP → Prop) : Prop := opI Inv j_E_ended j_M_ended []
def op_26 (Inv : HP → Prop) : Prop := ∀ (a0 : Int32) (a1 : Int32) (a2 : Int32) (a3 : Int64), opI Inv j_E_ill j_M_ill [.int a0, .int a1, .int a2, .long a3]
def op_27 (Inv : HP → Prop) : Prop := ∀ (a0 : Int32), opI Inv j_E_could j_M_could [.int a0]
def op_28 (Inv : HP → Prop) : Prop := ∀ (a0 : Int32), opI Inv j_E_behind j_M_behind [.int a0]
def op_29 (Inv : HP → Prop) : Prop := ∀ (a0 : Int32) (a1 : Int32), opI Inv j_E_owes j_M_owes [.int a0, .int a1]
def op_30 (Inv : HP → Prop) : Prop := ∀ (a0 : Int32) (a1 : Int32), opI Inv j_E_meet j_M_meet [.int a0, .int a1]
def op_31 (Inv : HP → Prop) : Prop := ∀ (a0 : Int32), (a0 = 0 ∨ a0 = 1) → opI Inv j_E_meets j_M_meets [.int a0]
def op_32 (Inv : HP → Prop) : Prop := opI Inv j_E_image j_M_image []
def op_33 (Inv : HP → Prop) : Prop := ∀ (a0 : Int32), opI Inv j_E_octet j_M_octet [.int a0]
def op_34 (Inv : HP → Prop) : Prop := opI Inv j_E_on j_M_on []
def LawOK (Inv : HP → Prop) : Prop := op_0 Inv ∧ op_1 Inv ∧ op_2 Inv ∧ op_3 Inv ∧ op_4 Inv ∧ op_5 Inv ∧ op_6 Inv ∧ op_7 Inv ∧ op_8 Inv ∧ op_9 Inv ∧ op_10 Inv ∧ op_11 Inv ∧ op_12 Inv ∧ op_13 Inv ∧ op_14 Inv ∧ op_15 Inv ∧ op_16 Inv ∧ op_17 Inv ∧ op_18 Inv ∧ op_19 Inv ∧ op_20 Inv ∧ op_21 Inv ∧ op_22 Inv ∧ op_23 Inv ∧ op_24 Inv ∧ op_25 Inv ∧ op_26 Inv ∧ op_27 Inv ∧ op_28 Inv ∧ op_29 Inv ∧ op_30 Inv ∧ op_31 Inv ∧ op_32 Inv ∧ op_33 Inv ∧ op_34 Inv
theorem law_le {i L : Nat} (hi : i < 2 ^ 29) (hL : L < 2 ^ 29) : (Int32.ofNat L - 6 < nI i) ↔ L < i + 6 := by
  have e : (Int32.ofNat L - 6 : Int32) = nI L - nI 6 := rfl
  rw [e, Int32.lt_iff_toInt_lt, pk_sub_toInt (by omega) (by omega), nI_toInt (by omega)]
  omega
section LOOP
variable {p : Program} {l : Launch} {e : Env} {s : State} {m : MethodId} {below : List Frame} {meth : Method} {c : Code} {b L : Nat} {xs : Nat → Int32} {D : va_G} {ad : Nat → Nat} {cy : Nat → ClassId}
theorem law_next (C0 : lw_C p s m meth c b L xs D ad cy) {i : Nat} {h : HP} (K : LW p l e s m below meth c b D ad cy (i + 6) 18 [] h) : LW p l e s m below meth c b D ad cy i 1244 [] h := by
  obtain ⟨⟨hx, hb, hr, hml, hown, hts, hX, hbl, hlocks, hgv⟩, hK0, hXP⟩ := id C0
  intro H locs ls hP hD hS hl
  refine lv_iinc (v := nI (i + 6)) (lv' := [(3, .int (nI (i + 6))), (0, .ref b), (1, .ref (ad 0)), (2, .ref (ad 65))]) hx hb (ldec (pc := 1244) rfl) hl (k := 3) rfl (by rw [show (Int32.ofInt 6 : Int32) = nI 6 from rfl, nI_add]) (by decide) rfl (fun ls hl => ?_)
  refine lv_goto (tgt := 18) hx hb (ldec (pc := 1247) rfl) (by decide) ?_
  exact K H locs ls hP hD hS (lv_sub hl [1, 2, 3, 0] rfl)
set_option maxHeartbeats 8000000 in
theorem law_loop (C0 : lw_C p s m meth c b L xs D ad cy) (hL : L ≤ 3072) {Inv : HP → Prop} (hop : LawOK Inv) : ∀ (n i : Nat) (h : HP), i ≤ 3078 → L < i + 6 * n + 6 → Inv h → LW p l e s m below meth c b D ad cy i 18 [] h := by
  obtain ⟨⟨hx, hb, hr, hml, hown, hts, hX, hbl, hlocks, hgv⟩, hK0, hXP⟩ := id C0
  have hbA : ¬ (fun q : Nat => s.heap.size ≤ q) b := Nat.not_le.mpr hbl
  intro n
  induction n with
  | zero =>
    intro i h hi hn hI H locs ls hP hD hS hl
    refine lv_iload_n hx hb (ldec (pc := 18) rfl) rfl (lv_at hl 3 rfl) ?_
    refine lv_aload_n hx hb (ldec (pc := 19) rfl) rfl (lv_at hl 0 rfl) ?_
    refine va_slen hx hb hX hbl hbA hS (ldec (pc := 20) rfl) ?_
    refine lv_bipush (v := 6) hx hb (ldec (pc := 21) rfl) (by decide) ?_
    refine lv_isub hx hb (ldec (pc := 23) rfl) ?_
    refine lv_icmp_gt (tgt := 1250) hx hb (ldec (pc := 24) rfl) (by decide) (fun _ => ?_) (fun z => absurd ((law_le (by omega) (by omega)).mpr (by omega)) z)
    refine lv_iconst (v := 1) hx hb (ldec (pc := 1250) rfl) (by decide) ?_
    refine va_forget (fun q hq => hS.2.2 q hq) ?_
    refine W.widen (k := 600000) (n := 7302250) (by decide) (by decide) ?_
    exact lw_ret hx hb hr hlocks (ldec (pc := 1251) rfl)
  | succ n ih =>
    intro i h hi hn hI H locs ls hP hD hS hl
    refine lv_iload_n hx hb (ldec (pc := 18) rfl) rfl (lv_at hl 3 rfl) ?_
    refine lv_aload_n hx hb (ldec (pc := 19) rfl) rfl (lv_at hl 0 rfl) ?_
    refine va_slen hx hb hX hbl hbA hS (ldec (pc := 20) rfl) ?_
    refine lv_bipush (v := 6) hx hb (ldec (pc := 21) rfl) (by decide) ?_
    refine lv_isub hx hb (ldec (pc := 23) rfl) ?_
    refine lv_icmp_gt (tgt := 1250) hx hb (ldec (pc := 24) rfl) (by decide) (fun _ => ?_) (fun hle => ?_)
    · refine lv_iconst (v := 1) hx hb (ldec (pc := 1250) rfl) (by decide) ?_
      refine va_forget (fun q hq => hS.2.2 q hq) ?_
      refine W.widen (k := 600000) (n := 7302250) (by decide) (by decide) ?_
      exact lw_ret hx hb hr hlocks (ldec (pc := 1251) rfl)
    · have hiL : i + 6 ≤ L := by
        rcases Nat.lt_or_ge L (i + 6) with w | w
        · exact absurd ((law_le (by omega) (by omega)).mpr w) hle
        · exact w
      have K : ∀ h2, Inv h2 → LW p l e s m below meth c b D ad cy i 1244 [] h2 := fun h2 hI2 => law_next C0 (ih (i + 6) h2 (by omega) (by omega) hI2)
      refine lv_aload_n hx hb (ldec (pc := 27) rfl) rfl (lv_at hl 0 rfl) ?_
      refine lv_iload_n hx hb (ldec (pc := 28) rfl) rfl (lv_at hl 3 rfl) ?_
      refine va_sld hx hb hX hbl hbA hS (law_in0 hiL hL) (ldec (pc := 29) rfl) ?_
      refine lv_bipush (v := 63) hx hb (ldec (pc := 30) rfl) (by decide) ?_
      refine lv_iand hx hb (ldec (pc := 32) rfl) ?_
      obtain ⟨j, hj, ej⟩ := pk_andE (xs (nI i).toNatClampNeg) (m := 63) 6 (by decide)
      rw [ej]
      match j, hj with
      | 0, _ => exact lv_tableIn (tgt := 188) hx hb (ldec (pc := 33) rfl) (by decide) (by decide) rfl (by decide) (lc_0 C0 hL hiL hI (hop.1 _ _ _ _ _) K H locs ls hP hD hS hl)
      | 1, _ => exact lv_tableIn (tgt := 251) hx hb (ldec (pc := 33) rfl) (by decide) (by decide) rfl (by decide) (lc_1 C0 hL hiL hI (hop.2.1 _) K H locs ls hP hD hS hl)
      | 2, _ => exact lv_tableIn (tgt := 274) hx hb (ldec (pc := 33) rfl) (by decide) (by decide) rfl (by decide) (lc_2 C0 hL hiL hI (hop.2.2.1) K H locs ls hP hD hS hl)
      | 3, _ => exact lv_tableIn (tgt := 287) hx hb (ldec (pc := 33) rfl) (by decide) (by decide) rfl (by decide) (lc_3 C0 hL hiL hI (hop.2.2.2.1 _) K H locs ls hP hD hS hl)
      | 4, _ => exact lv_tableIn (tgt := 310) hx hb (ldec (pc := 33) rfl) (by decide) (by decide) rfl (by decide) (lc_4 C0 hL hiL hI (hop.2.2.2.2.1 _) K H locs ls hP hD hS hl)
      | 5, _ => exact lv_tableIn (tgt := 333) hx hb (ldec (pc := 33) rfl) (by decide) (by decide) rfl (by decide) (lc_5 C0 hL hiL hI (hop.2.2.2.2.2.1 0 _ _ (Or.inl rfl)) (hop.2.2.2.2.2.1 1 _ _ (Or.inr rfl)) K H locs ls hP hD hS hl)
      | 6, _ => exact lv_tableIn (tgt := 392) hx hb (ldec (pc := 33) rfl) (by decide) (by decide) rfl (by decide) (lc_6 C0 hL hiL hI (hop.2.2.2.2.2.2.1 _ _) K H locs ls hP hD hS hl)
      | 7, _ => exact lv_tableIn (tgt := 425) hx hb (ldec (pc := 33) rfl) (by decide) (by decide) rfl (by decide) (lc_7 C0 hL hiL hI (hop.2.2.2.2.2.2.2.1 _ _) K H locs ls hP hD hS hl)
      | 8, _ => exact lv_tableIn (tgt := 458) hx hb (ldec (pc := 33) rfl) (by decide) (by decide) rfl (by decide) (lc_8 C0 hL hiL hI (hop.2.2.2.2.2.2.2.2.1 _ _) K H locs ls hP hD hS hl)
      | 9, _ => exact lv_tableIn (tgt := 491) hx hb (ldec (pc := 33) rfl) (by decide) (by decide) rfl (by decide) (lc_9 C0 hL hiL hI (hop.2.2.2.2.2.2.2.2.2.1 _ _ _) K H locs ls hP hD hS hl)
      | 10, _ => exact lv_tableIn (tgt := 535) hx hb (ldec (pc := 33) rfl) (by decide) (by decide) rfl (by decide) (lc_10 C0 hL hiL hI (hop.2.2.2.2.2.2.2.2.2.2.1 _ _) K H locs ls hP hD hS hl)
      | 11, _ => exact lv_tableIn (tgt := 569) hx hb (ldec (pc := 33) rfl) (by decide) (by decide) rfl (by decide) (lc_11 C0 hL hiL hI (hop.2.2.2.2.2.2.2.2.2.2.2.1 _ _ 0 (Or.inl rfl)) (hop.2.2.2.2.2.2.2.2.2.2.2.1 _ _ 1 (Or.inr rfl)) K H locs ls hP hD hS hl)
      | 12, _ => exact lv_tableIn (tgt := 628) hx hb (ldec (pc := 33) rfl) (by decide) (by decide) rfl (by decide) (lc_12 C0 hL hiL hI (hop.2.2.2.2.2.2.2.2.2.2.2.2.1 _) K H locs ls hP hD hS hl)
      | 13, _ => exact lv_tableIn (tgt := 652) hx hb (ldec (pc := 33) rfl) (by decide) (by decide) rfl (by decide) (lc_13 C0 hL hiL hI (hop.2.2.2.2.2.2.2.2.2.2.2.2.2.1) K H locs ls hP hD hS hl)
      | 14, _ => exact lv_tableIn (tgt := 665) hx hb (ldec (pc := 33) rfl) (by decide) (by decide) rfl (by decide) (lc_14 C0 hL hiL hI (hop.2.2.2.2.2.2.2.2.2.2.2.2.2.2.1) K H locs ls hP hD hS hl)
      | 15, _ => exact lv_tableIn (tgt := 678) hx hb (ldec (pc := 33) rfl) (by decide) (by decide) rfl (by decide) (lc_15 C0 hL hiL hI (hop.2.2.2.2.2.2.2.2.2.2.2.2.2.2.2.1 _ _) K H locs ls hP hD hS hl)
      | 16, _ => exact lv_tableIn (tgt := 711) hx hb (ldec (pc := 33) rfl) (by decide) (by decide) rfl (by decide) (lc_16 C0 hL hiL hI (hop.2.2.2.2.2.2.2.2.2.2.2.2.2.2.2.2.1 _ _) K H locs ls hP hD hS hl)
      | 17, _ => exact lv_tableIn (tgt := 744) hx hb (ldec (pc := 33) rfl) (by decide) (by decide) rfl (by decide) (lc_17 C0 hL hiL hI (hop.2.2.2.2.2.2.2.2.2.2.2.2.2.2.2.2.2.1 _) K H locs ls hP hD hS hl)
      | 18, _ => exact lv_tableIn (tgt := 767) hx hb (ldec (pc := 33) rfl) (by decide) (by decide) rfl (by decide) (lc_18 C0 hL hiL hI (hop.2.2.2.2.2.2.2.2.2.2.2.2.2.2.2.2.2.2.1 _) K H locs ls hP hD hS hl)
      | 19, _ => exact lv_tableIn (tgt := 790) hx hb (ldec (pc := 33) rfl) (by decide) (by decide) rfl (by decide) (lc_19 C0 hL hiL hI (hop.2.2.2.2.2.2.2.2.2.2.2.2.2.2.2.2.2.2.2.1 _) K H locs ls hP hD hS hl)
      | 20, _ => exact lv_tableIn (tgt := 813) hx hb (ldec (pc := 33) rfl) (by decide) (by decide) rfl (by decide) (lc_20 C0 hL hiL hI (hop.2.2.2.2.2.2.2.2.2.2.2.2.2.2.2.2.2.2.2.2.1 _ _ _) K H locs ls hP hD hS hl)
      | 21, _ => exact lv_tableIn (tgt := 856) hx hb (ldec (pc := 33) rfl) (by decide) (by decide) rfl (by decide) (lc_21 C0 hL hiL hI (hop.2.2.2.2.2.2.2.2.2.2.2.2.2.2.2.2.2.2.2.2.2.1 _) K H locs ls hP hD hS hl)
      | 22, _ => exact lv_tableIn (tgt := 879) hx hb (ldec (pc := 33) rfl) (by decide) (by decide) rfl (by decide) (lc_22 C0 hL hiL hI (hop.2.2.2.2.2.2.2.2.2.2.2.2.2.2.2.2.2.2.2.2.2.2.1 _) K H locs ls hP hD hS hl)
      | 23, _ => exact lv_tableIn (tgt := 902) hx hb (ldec (pc := 33) rfl) (by decide) (by decide) rfl (by decide) (lc_23 C0 hL hiL hI (hop.2.2.2.2.2.2.2.2.2.2.2.2.2.2.2.2.2.2.2.2.2.2.2.1 _) K H locs ls hP hD hS hl)
      | 24, _ => exact lv_tableIn (tgt := 925) hx hb (ldec (pc := 33) rfl) (by decide) (by decide) rfl (by decide) (lc_24 C0 hL hiL hI (hop.2.2.2.2.2.2.2.2.2.2.2.2.2.2.2.2.2.2.2.2.2.2.2.2.1 _) K H locs ls hP hD hS hl)
      | 25, _ => exact lv_tableIn (tgt := 948) hx hb (ldec (pc := 33) rfl) (by decide) (by decide) rfl (by decide) (lc_25 C0 hL hiL hI (hop.2.2.2.2.2.2.2.2.2.2.2.2.2.2.2.2.2.2.2.2.2.2.2.2.2.1) K H locs ls hP hD hS hl)
      | 26, _ => exact lv_tableIn (tgt := 961) hx hb (ldec (pc := 33) rfl) (by decide) (by decide) rfl (by decide) (lc_26 C0 hL hiL hI (hop.2.2.2.2.2.2.2.2.2.2.2.2.2.2.2.2.2.2.2.2.2.2.2.2.2.2.1 _ _ _ _) K H locs ls hP hD hS hl)
      | 27, _ => exact lv_tableIn (tgt := 1044) hx hb (ldec (pc := 33) rfl) (by decide) (by decide) rfl (by decide) (lc_27 C0 hL hiL hI (hop.2.2.2.2.2.2.2.2.2.2.2.2.2.2.2.2.2.2.2.2.2.2.2.2.2.2.2.1 _) K H locs ls hP hD hS hl)
      | 28, _ => exact lv_tableIn (tgt := 1067) hx hb (ldec (pc := 33) rfl) (by decide) (by decide) rfl (by decide) (lc_28 C0 hL hiL hI (hop.2.2.2.2.2.2.2.2.2.2.2.2.2.2.2.2.2.2.2.2.2.2.2.2.2.2.2.2.1 _) K H locs ls hP hD hS hl)
      | 29, _ => exact lv_tableIn (tgt := 1090) hx hb (ldec (pc := 33) rfl) (by decide) (by decide) rfl (by decide) (lc_29 C0 hL hiL hI (hop.2.2.2.2.2.2.2.2.2.2.2.2.2.2.2.2.2.2.2.2.2.2.2.2.2.2.2.2.2.1 _ _) K H locs ls hP hD hS hl)
      | 30, _ => exact lv_tableIn (tgt := 1123) hx hb (ldec (pc := 33) rfl) (by decide) (by decide) rfl (by decide) (lc_30 C0 hL hiL hI (hop.2.2.2.2.2.2.2.2.2.2.2.2.2.2.2.2.2.2.2.2.2.2.2.2.2.2.2.2.2.2.1 _ _) K H locs ls hP hD hS hl)
      | 31, _ => exact lv_tableIn (tgt := 1156) hx hb (ldec (pc := 33) rfl) (by decide) (by decide) rfl (by decide) (lc_31 C0 hL hiL hI (hop.2.2.2.2.2.2.2.2.2.2.2.2.2.2.2.2.2.2.2.2.2.2.2.2.2.2.2.2.2.2.2.1 0 (Or.inl rfl)) (hop.2.2.2.2.2.2.2.2.2.2.2.2.2.2.2.2.2.2.2.2.2.2.2.2.2.2.2.2.2.2.2.1 1 (Or.inr rfl)) K H locs ls hP hD hS hl)
      | 32, _ => exact lv_tableIn (tgt := 1195) hx hb (ldec (pc := 33) rfl) (by decide) (by decide) rfl (by decide) (lc_32 C0 hL hiL hI (hop.2.2.2.2.2.2.2.2.2.2.2.2.2.2.2.2.2.2.2.2.2.2.2.2.2.2.2.2.2.2.2.2.1) K H locs ls hP hD hS hl)
      | 33, _ => exact lv_tableIn (tgt := 1208) hx hb (ldec (pc := 33) rfl) (by decide) (by decide) rfl (by decide) (lc_33 C0 hL hiL hI (hop.2.2.2.2.2.2.2.2.2.2.2.2.2.2.2.2.2.2.2.2.2.2.2.2.2.2.2.2.2.2.2.2.2.1 _) K H locs ls hP hD hS hl)
      | 34, _ => exact lv_tableIn (tgt := 1231) hx hb (ldec (pc := 33) rfl) (by decide) (by decide) rfl (by decide) (lc_34 C0 hL hiL hI (hop.2.2.2.2.2.2.2.2.2.2.2.2.2.2.2.2.2.2.2.2.2.2.2.2.2.2.2.2.2.2.2.2.2.2) K H locs ls hP hD hS hl)
      | j + 35, hj => exact lv_tableOut (tgt := 1244) hx hb (ldec (pc := 33) rfl) (Or.inr (by rw [nI_toInt (by omega)]; omega)) (by decide) (K h hI H locs ls hP hD hS hl)
end LOOP
