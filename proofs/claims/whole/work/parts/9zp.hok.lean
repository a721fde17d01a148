/-! ===== THE HOUSE THAT STANDS ===== -/
def sT (s : ST) (C : List Nat) (L : List (Nat × Nat)) (B : Nat → Nat) : ST := fun a i =>
  if a = 0 then (if i = 0 then L.length else s 0 i) else if a = 1 then (gL L i).1 else if a = 2 then (gL L i).2 else if a = 3 then cnt (fun u => (gL L u).2 = (gL L i).2) i else if a = 4 then mkN s C (gL L i).1 (gL L i).2
  else if a = 16 then kf (fun t => (gL L t).2) L.length i else if a = 17 then B i else if a = 18 then cnt (fun u => (gL L u).1 < i) L.length else if a = 19 then uN s C (gL L i).1 (gL L i).2 else s a i
section HOK
variable {s : ST} {C : List Nat} {B : Nat → Nat} {h : HP}
theorem lt_bits {x n : Nat} (hx : x < 65536) (h : ∀ q, q < 16 → x.testBit q = true → q < n) : x < 2 ^ n := by
  refine Nat.lt_pow_two_of_testBit x (fun i hi => ?_)
  cases e : x.testBit i with
  | false => rfl
  | true =>
    exfalso
    by_cases c : i < 16
    · have := h i c e; omega
    · have : x < 2 ^ i := Nat.lt_of_lt_of_le hx (Nat.pow_le_pow_right (by decide) (by omega) : 2 ^ 16 ≤ 2 ^ i)
      rw [Nat.testBit_lt_two_pow this] at e
      cases e
theorem sT_ok (j : J s C) (hL : (LD s C (zD s)).length ≤ 200) (hB : ∀ t, t < (LD s C (zD s)).length → B (pos (fun t => (gL (LD s C (zD s)) t).2) (LD s C (zD s)).length t) = t) : OK (sT s C (LD s C (zD s)) B) := by
  obtain ⟨⟨⟨g1, g2, g3⟩, a1, a2, a3, a4, a5⟩, ⟨o1, o2, o3, o4, o5⟩, t⟩ := j
  obtain ⟨⟨b1, b2, b3, b4, b5, b6, b7⟩, c1, c2, c3, c4⟩ := g1
  refine ⟨⟨hL, b1, b2, b7, b4, b3, b6⟩, fun t ht => ?_, fun t u h1 h2 => LD_up _ t u h1 h2, fun p hp => ?_, a1, fun k hk => ?_, fun d hd => rfl, o1, o2, fun p q hp hq => o3 p q (Nat.lt_of_lt_of_le hp b1) (Nat.lt_of_lt_of_le hq b1), fun p q hp hq => o4 p q (Nat.lt_of_lt_of_le hp b1) (Nat.lt_of_lt_of_le hq b1), o5, a4⟩
  · have ht : t < (LD s C (zD s)).length := ht
    have hm := LD_mem _ _ (gL_m ht)
    have hp := pos_lt (f := fun t => (gL (LD s C (zD s)) t).2) ht
    have hk := kf_le (fun t => (gL (LD s C (zD s)) t).2) (LD s C (zD s)).length ((gL (LD s C (zD s)) t).2 + 1)
    refine ⟨hm.1, hm.2, smp_lt _ _, rfl, hB t ht, ?_, rfl⟩
    show pos (fun t => (gL (LD s C (zD s)) t).2) (LD s C (zD s)).length t < (LD s C (zD s)).length
    exact Nat.lt_of_lt_of_le hp hk
  · have hp : p < zP s := hp
    have e := a2 p hp
    refine ⟨e.1, e.2.1, ?_, ?_, g2 p hp⟩
    · refine lt_bits (c2 p (by omega)).1 (fun q hq hb => ?_)
      obtain ⟨r, hr, z1, z2⟩ := (o3 p q (by omega) hq).mp hb
      have := (o5 r hr).2.2.2.2 (Or.inl z1)
      show q < zP s
      omega
    · refine lt_bits (c2 p (by omega)).2 (fun q hq hb => ?_)
      obtain ⟨r, hr, z1, z2⟩ := (o4 p q (by omega) hq).mp hb
      have := (o5 r hr).2.2.2.2 (Or.inr z1)
      show q < zP s
      omega
  · have hk : k < zK s := hk
    exact ⟨a3 k hk, g3 k hk, (kf_s _ _ k).symm, kf_le _ _ _⟩
/-- the class's cells of a new house -/
theorem sT_rc (D : DC s h) (j : J s C) (h1 : HP) (e7 : h1.1 7 0 = h.1 18 0 ∧ h1.1 7 1 = h.1 18 1 ∧ h1.1 7 2 = h.1 18 2 ∧ h1.1 7 3 = h.1 18 3 ∧ h1.1 7 4 = h.1 18 4) (e8 : ∀ i, i < 16 → h1.1 8 i = h.1 19 i ∧ h1.1 9 i = h.1 20 i ∧ h1.1 10 i = h.1 21 i ∧ h1.1 11 i = h.1 22 i ∧ h1.1 12 i = h.1 23 i ∧ h1.1 13 i = h.1 24 i) (e14 : ∀ i, i < 6 → h1.1 14 i = h.1 25 i ∧ h1.1 15 i = h.1 26 i) (e16 : ∀ i, i < 36 → h1.1 16 i = h.1 27 i)
  (T : TLc s C (LD s C (zD s)) h1) (e44 : ∀ d, d < 201 → h1.1 44 d = nI (LD s C (min d (zD s))).length) (e43 : ∀ q, q < 7 → h1.1 43 q = nI (kf (fun t => (gL (LD s C (zD s)) t).2) (LD s C (zD s)).length q)) (e41 : ∀ u, u < (LD s C (zD s)).length → h1.1 41 u = nI (cnt (fun v => (gL (LD s C (zD s)) v).2 = (gL (LD s C (zD s)) u).2) u)) (e46 : ∀ i, i < 200 → h1.1 46 i = -1 ∧ h1.1 47 i = -1) (hL : (LD s C (zD s)).length ≤ 200) (eB : ∀ i, h1.1 42 i = nI (B i)) : RC (sT s C (LD s C (zD s)) B) (fun _ => -1) (fun _ => -1) h1 := by
  obtain ⟨⟨d1, d2, d3, d4, d5, d6⟩, d7, d8, d9, d10, d11⟩ := D
  have b1 := j.1.1.1.1.1
  have b2 := j.1.1.1.1.2.1
  refine ⟨⟨T.1, by rw [e7.2.1]; exact d2, by rw [e7.2.2.1]; exact d3, by rw [e7.1]; exact d1, by rw [e7.2.2.2.1]; exact d4, by rw [e7.2.2.2.2]; exact d5⟩, fun t ht => ?_, fun p hp => ?_, fun k hk => ?_, fun i hi => ?_, e43, fun d hd => ?_⟩
  · have ht : t < (LD s C (zD s)).length := ht
    obtain ⟨x1, x2, x3, x4⟩ := T.2 t ht
    exact ⟨x1, x2, e41 t ht, x3, x4, eB t, (e46 t (by omega)).1, (e46 t (by omega)).2⟩
  · have hp : p < zP s := hp
    obtain ⟨x1, x2, x3, x4, x5, x6⟩ := e8 p (by omega)
    obtain ⟨y1, y2, y3, y4⟩ := d7 p hp
    obtain ⟨z1, z2⟩ := d8 p (by omega)
    exact ⟨by rw [x2]; exact y2, by rw [x5]; exact z1, by rw [x6]; exact z2, by rw [x1]; exact y1⟩
  · have hk : k < zK s := hk
    obtain ⟨x1, x2⟩ := e14 k (by omega)
    obtain ⟨y1, y2⟩ := d9 k hk
    exact ⟨by rw [x2]; exact y2, by rw [x1]; exact y1⟩
  · rw [e16 i hi]; exact d10 i hi
  · rw [e44 d hd]
    show _ = nI (cnt (fun u => (gL (LD s C (zD s)) u).1 < d) (LD s C (zD s)).length)
    rw [LD_days]
theorem sT_rm (T : TLm s C (LD s C (zD s)) h) (H : HM s C h) (HHh : HH s h) : RM (sT s C (LD s C (zD s)) B) (fun _ => -1) (fun _ => -1) h := by
  obtain ⟨⟨d1, d2, d3, d4⟩, d5, d6, d7, d8⟩ := H
  refine ⟨⟨T.1, d2, d3, d1, d4⟩, fun t ht => ?_, fun p hp => ⟨(HHh.1 p hp).2, (HHh.1 p hp).1⟩, fun k hk => ⟨(HHh.2.1 k hk).2, (HHh.2.1 k hk).1⟩, fun r hr => ⟨(d6 r hr).1, (d6 r hr).2.1, (d6 r hr).2.2.1, HHh.2.2 r hr⟩⟩
  have ht : t < (LD s C (zD s)).length := ht
  obtain ⟨x1, x2, x3, x4, x5, x6⟩ := T.2 t ht
  exact ⟨x1, x2, x3, x4, x5, x6⟩
theorem nI_bv (x : Int32) : nI x.toBitVec.toNat = x := by
  apply Int32.toBitVec_inj.mp
  show BitVec.ofNat 32 x.toBitVec.toNat = x.toBitVec
  apply BitVec.eq_of_toNat_eq
  rw [BitVec.toNat_ofNat]
  exact Nat.mod_eq_of_lt x.toBitVec.isLt
theorem bv_nI {t : Nat} (ht : t < 2 ^ 31) : (nI t).toBitVec.toNat = t := by
  show (BitVec.ofNat 32 t).toNat = t
  rw [BitVec.toNat_ofNat]
  exact Nat.mod_eq_of_lt (by omega)
end HOK
