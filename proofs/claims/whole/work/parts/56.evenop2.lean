/-! ===== CLAUSE: even ===== -/
theorem Wp.normS {d j pc pc' : Nat} {L L' S S' : List Value} {h : HP} {Q : QT} (hp : pc = pc') (hL : L = L') (hS : S = S') (hw : Wp d j pc' L' S' h Q) : Wp d j pc L S h Q := by
  subst hL
  subst hS
  subst hp
  exact hw
section EVENOP2
variable {s : ST} {c v : RT} {h : HP} {n : Nat}
/-- the rota with the first i turns of kind k laid anew -/
def cE (s : ST) (k : Nat) (g : Nat → Int32) (i : Nat) (c : RT) : RT := fun t => if tK s t = k ∧ tN s t < i then g (tN s t) else c t
def cEM (s : ST) (k : Nat) (g : Nat → Int32) (i : Nat) (c : RT) : RT := fun t => if tK s t = k ∧ t < i then g (tN s t) else c t
def cEF (s : ST) (k : Nat) (g : Nat → Int32) (c : RT) : RT := fun t => if tK s t = k then g (tN s t) else c t
theorem tN_eq (o : OK s) {t : Nat} (ht : t < zT s) : cO s (some (tK s t)) t = tN s t := by rw [cO_some, ← o.num ht]
theorem tN_lt (o : OK s) {t : Nat} (ht : t < zT s) : tN s t < cO s (some (tK s t)) (zT s) := by
  rw [← tN_eq o ht]
  have hi : isO s (some (tK s t)) t = true := by simp [isO]
  have := cnt_mono (fun u => isO s (some (tK s t)) u = true) (show t + 1 ≤ zT s by omega)
  have e2 := cO_succ s (some (tK s t)) t
  rw [if_pos hi] at e2
  unfold cO at *
  omega
theorem tA_N (o : OK s) {k i t : Nat} (hi : i < cO s (some k) (zT s)) (ht : t < zT s) : t = tA s (some k) i ↔ tK s t = k ∧ tN s t = i := by
  obtain ⟨u, u1, u2, u3, u4⟩ := tA_spec o hi
  have hku : tK s u = k := by simpa [isO] using u2
  constructor
  · intro e
    rw [u4] at e
    subst e
    refine ⟨hku, ?_⟩
    rw [← tN_eq o ht, hku]
    exact u3
  · rintro ⟨e1, e2⟩
    have := tA_of (k := some k) o ht (by simp [isO, e1])
    rw [← e1, tN_eq o ht, e2, e1] at this
    exact this.symm
theorem cE_s (o : OK s) {k i : Nat} (g : Nat → Int32) (c : RT) (hi : i < cO s (some k) (zT s)) {t : Nat} (ht : t < zT s) : upd (cE s k g i c) (tA s (some k) i) (g i) t = cE s k g (i + 1) c t := by
  have hN := tA_N o hi ht
  unfold cE
  by_cases e : t = tA s (some k) i
  · have := hN.mp e
    rw [e, pk_us, ← e, if_pos ⟨this.1, by omega⟩, this.2]
  · rw [pk_un e]
    by_cases hk : tK s t = k
    · have hne : tN s t ≠ i := fun z => e (hN.mpr ⟨hk, z⟩)
      by_cases hl : tN s t < i
      · rw [if_pos ⟨hk, hl⟩, if_pos ⟨hk, by omega⟩]
      · rw [if_neg (fun z => hl z.2), if_neg (fun z => by omega)]
    · rw [if_neg (fun z => hk z.1), if_neg (fun z => hk z.1)]
theorem cE_0 (k : Nat) (g : Nat → Int32) (c : RT) : cE s k g 0 c = c := by
  funext t
  unfold cE
  rw [if_neg (fun z => by omega)]
theorem cE_F (o : OK s) (k : Nat) (g : Nat → Int32) (c : RT) {t : Nat} (ht : t < zT s) : cE s k g (cO s (some k) (zT s)) c t = cEF s k g c t := by
  unfold cE cEF
  by_cases hk : tK s t = k
  · rw [if_pos hk, if_pos ⟨hk, by rw [← hk]; exact tN_lt o ht⟩]
  · rw [if_neg hk, if_neg (fun z => hk z.1)]
theorem cEM_s (k i : Nat) (g : Nat → Int32) (c : RT) (hk : tK s i = k) : upd (cEM s k g i c) i (g (tN s i)) = cEM s k g (i + 1) c := by
  funext t
  unfold cEM
  by_cases e : t = i
  · subst e
    rw [pk_us, if_pos ⟨hk, by omega⟩]
  · rw [pk_un e]
    by_cases hk2 : tK s t = k
    · by_cases hl : t < i
      · rw [if_pos ⟨hk2, hl⟩, if_pos ⟨hk2, by omega⟩]
      · rw [if_neg (fun z => hl z.2), if_neg (fun z => by omega)]
    · rw [if_neg (fun z => hk2 z.1), if_neg (fun z => hk2 z.1)]
theorem cEM_n (k i : Nat) (g : Nat → Int32) (c : RT) (hk : ¬ tK s i = k) : cEM s k g i c = cEM s k g (i + 1) c := by
  funext t
  unfold cEM
  by_cases hk2 : tK s t = k
  · by_cases hl : t < i
    · rw [if_pos ⟨hk2, hl⟩, if_pos ⟨hk2, by omega⟩]
    · have : t ≠ i := fun z => hk (by rw [← z]; exact hk2)
      rw [if_neg (fun z => hl z.2), if_neg (fun z => by omega)]
  · rw [if_neg (fun z => hk2 z.1), if_neg (fun z => hk2 z.1)]
theorem cEM_0 (k : Nat) (g : Nat → Int32) (c : RT) : cEM s k g 0 c = c := by
  funext t
  unfold cEM
  rw [if_neg (fun z => by omega)]
theorem cEM_F (k : Nat) (g : Nat → Int32) (c : RT) {t : Nat} (ht : t < zT s) : cEM s k g (zT s) c t = cEF s k g c t := by
  unfold cEM cEF
  by_cases hk : tK s t = k
  · rw [if_pos hk, if_pos ⟨hk, ht⟩]
  · rw [if_neg hk, if_neg (fun z => hk z.1)]
theorem RO.cEf (ro : RO s c v) (o : OK s) {k : Nat} {g : Nat → Int32} (hg : ∀ i, i < cO s (some k) (zT s) → pOK s (g i)) : RO s (cEF s k g c) (cEF s k g v) := by
  intro t ht
  by_cases hk : tK s t = k
  · have e : ∀ c, cEF s k g c t = g (tN s t) := fun c => if_pos hk
    rw [e, e]
    rcases hg (tN s t) (by rw [← hk]; exact tN_lt o ht) with z | ⟨p, hp, z⟩
    · exact Or.inl ⟨z, z⟩
    · exact Or.inr ⟨p, p, hp, hp, z, z⟩
  · have e : ∀ c, cEF s k g c t = c t := fun c => if_neg hk
    rw [e, e]
    exact ro t ht
def isSh (x : Int32) : Prop := 0 ≤ x ∧ x ≤ 720720
theorem inSh (x : Int32) : ((0 : Int64) ≤ x.toInt64 ∧ x.toInt64 ≤ 720720) ↔ (0 ≤ x ∧ x ≤ 720720) := by
  rw [Int64.le_iff_toInt_le, Int64.le_iff_toInt_le, i64_i32, Int32.le_iff_toInt_le, Int32.le_iff_toInt_le, show (0 : Int64).toInt = 0 from rfl, show (720720 : Int64).toInt = 720720 from rfl, show (0 : Int32).toInt = 0 from rfl, show (720720 : Int32).toInt = 720720 from rfl]
theorem shA {q : Nat} (hq : q ≤ 720720) : 0 ≤ nI q ∧ nI q ≤ 720720 := ⟨nI_pos' (by omega), by rw [show (720720 : Int32) = nI 720720 from rfl, nI_leI (by omega) (by decide)]; exact hq⟩
theorem shE (h : HP) {q : Nat} (hq : q ≤ 720720) : Run 0 j_E_isShare [.int (nI q)] h (some (.int 1)) h := by
  have := r_E_isShare h (nI q)
  rwa [if_pos (shA hq)] at this
theorem shM (h : HP) {q : Nat} (hq : q ≤ 720720) : Run 0 j_M_isIn [.long (nI q).toInt64, .long 0, .long 720720] h (some (.int 1)) h := by
  have := r_M_isIn h (nI q).toInt64 0 720720
  rwa [if_pos ((inSh _).mpr (shA hq))] at this
theorem r_keepCut (h1 : HP) : Run 0 j_Evener_keepCut [.ref 50] h1 none (wI (wI h1 50 6 (h1.1 50 4)) 50 7 (h1.1 50 5)) := by
  refine Run.of rfl ?_
  refine Wp.norm (L' := [_]) rfl ?_
  repeat (first | (refine W1 rfl ?_; try refine Wp.norm (L' := [_]) rfl ?_) | ((first | change (_ → _) ∧ (_ → _) | change vp_in _ _ ∧ _ | change ¬ _ ∧ _); simp (disch := omega) only [nI_clamp, nI_leI, nI_ltI, nI_eq, nI_1, nI_add, nI_not_neg, nI_is_pos, nI_m1, nI_z]) | refine brT (by first | assumption | decide | omega) ?_ | refine brF (by first | assumption | decide | omega) ?_ | refine brTn (by first | assumption | decide | omega) ?_ | refine brFn (by first | assumption | decide | omega) ?_ | refine And.intro (vp_in_nI (by omega) (by decide)) ?_ | refine And.intro (vp_lit (by decide)) ?_ | refine divJ (by decide) ?_ | refine divI (by decide) ?_)
  try change _ ∧ _
  rw [wI_ne2 _ _ (by decide)]
  try first | exact ⟨rfl, rfl⟩ | exact ⟨Or.inr rfl, rfl, rfl⟩ | exact ⟨Or.inl rfl, rfl, rfl⟩ | exact ⟨trivial, trivial⟩ | exact ⟨rfl, trivial⟩ | exact ⟨Or.inr rfl, rfl, trivial⟩ | exact ⟨Or.inl rfl, rfl, trivial⟩
theorem e_even_no (R : RC s c v h) (o : OK s) {k a b n : Nat} (hk : k < zK s) (ham : amB s k = true) (ha : a ≤ 720720) (hb : b ≤ 720720) (hn : cO s (some k) (zT s) = n) {h1 : HP} (r1 : Run 2 j_Evener_canBe [.ref 50, .int (nI n), .int (nI a), .int (nI b)] h (some (.int 0)) h1) : Run 3 j_E_even [.ref 0, .int (nI k), .int (nI a), .int (nI b)] h (some (.int 0)) (wI (wI h1 50 6 (h1.1 50 4)) 50 7 (h1.1 50 5)) := by
  have hk1 : kOK s (some k) := fun k' e => by cases e; exact hk
  refine Run.of rfl ?_
  refine Wp.norm (L' := [_, _, _, _, _, _]) rfl ?_
  repeat (first | (refine W1 rfl ?_; try refine Wp.norm (L' := [_, _, _, _, _, _]) rfl ?_) | ((first | change (_ → _) ∧ (_ → _) | change vp_in _ _ ∧ _ | change ¬ _ ∧ _); simp (disch := omega) only [nI_clamp, nI_leI, nI_ltI, nI_eq, nI_1, nI_add, nI_not_neg, nI_is_pos, nI_m1, nI_z]) | refine brT (by first | assumption | decide | omega) ?_ | refine brF (by first | assumption | decide | omega) ?_ | refine brTn (by first | assumption | decide | omega) ?_ | refine brFn (by first | assumption | decide | omega) ?_ | refine And.intro (vp_in_nI (by omega) (by decide)) ?_ | refine And.intro (vp_lit (by decide)) ?_ | refine divJ (by decide) ?_ | refine divI (by decide) ?_)
  try change _ ∧ _
  refine Cl.of (g_EK R o hk) (by decide) ?_
  repeat (first | (refine W1 rfl ?_; try refine Wp.norm (L' := [_, _, _, _, _, _]) rfl ?_) | ((first | change (_ → _) ∧ (_ → _) | change vp_in _ _ ∧ _ | change ¬ _ ∧ _); simp (disch := omega) only [nI_clamp, nI_leI, nI_ltI, nI_eq, nI_1, nI_add, nI_not_neg, nI_is_pos, nI_m1, nI_z]) | refine brT (by first | assumption | decide | omega) ?_ | refine brF (by first | assumption | decide | omega) ?_ | refine brTn (by first | assumption | decide | omega) ?_ | refine brFn (by first | assumption | decide | omega) ?_ | refine And.intro (vp_in_nI (by omega) (by decide)) ?_ | refine And.intro (vp_lit (by decide)) ?_ | refine divJ (by decide) ?_ | refine divI (by decide) ?_)
  try change _ ∧ _
  refine Cl.of (r_Calendar_allMay R o hk) (by decide) ?_
  rw [ham]
  repeat (first | (refine W1 rfl ?_; try refine Wp.norm (L' := [_, _, _, _, _, _]) rfl ?_) | ((first | change (_ → _) ∧ (_ → _) | change vp_in _ _ ∧ _ | change ¬ _ ∧ _); simp (disch := omega) only [nI_clamp, nI_leI, nI_ltI, nI_eq, nI_1, nI_add, nI_not_neg, nI_is_pos, nI_m1, nI_z]) | refine brT (by first | assumption | decide | omega) ?_ | refine brF (by first | assumption | decide | omega) ?_ | refine brTn (by first | assumption | decide | omega) ?_ | refine brFn (by first | assumption | decide | omega) ?_ | refine And.intro (vp_in_nI (by omega) (by decide)) ?_ | refine And.intro (vp_lit (by decide)) ?_ | refine divJ (by decide) ?_ | refine divI (by decide) ?_)
  try change _ ∧ _
  refine Cl.of (shE h ha) (by decide) ?_
  repeat (first | (refine W1 rfl ?_; try refine Wp.norm (L' := [_, _, _, _, _, _]) rfl ?_) | ((first | change (_ → _) ∧ (_ → _) | change vp_in _ _ ∧ _ | change ¬ _ ∧ _); simp (disch := omega) only [nI_clamp, nI_leI, nI_ltI, nI_eq, nI_1, nI_add, nI_not_neg, nI_is_pos, nI_m1, nI_z]) | refine brT (by first | assumption | decide | omega) ?_ | refine brF (by first | assumption | decide | omega) ?_ | refine brTn (by first | assumption | decide | omega) ?_ | refine brFn (by first | assumption | decide | omega) ?_ | refine And.intro (vp_in_nI (by omega) (by decide)) ?_ | refine And.intro (vp_lit (by decide)) ?_ | refine divJ (by decide) ?_ | refine divI (by decide) ?_)
  try change _ ∧ _
  refine Cl.of (shE h hb) (by decide) ?_
  repeat (first | (refine W1 rfl ?_; try refine Wp.norm (L' := [_, _, _, _, _, _]) rfl ?_) | ((first | change (_ → _) ∧ (_ → _) | change vp_in _ _ ∧ _ | change ¬ _ ∧ _); simp (disch := omega) only [nI_clamp, nI_leI, nI_ltI, nI_eq, nI_1, nI_add, nI_not_neg, nI_is_pos, nI_m1, nI_z]) | refine brT (by first | assumption | decide | omega) ?_ | refine brF (by first | assumption | decide | omega) ?_ | refine brTn (by first | assumption | decide | omega) ?_ | refine brFn (by first | assumption | decide | omega) ?_ | refine And.intro (vp_in_nI (by omega) (by decide)) ?_ | refine And.intro (vp_lit (by decide)) ?_ | refine divJ (by decide) ?_ | refine divI (by decide) ?_)
  try change _ ∧ _
  refine Cl.of (r_Calendar_countOf (k := some k) R o hk1) (by decide) ?_
  rw [hn]
  repeat (first | (refine W1 rfl ?_; try refine Wp.norm (L' := [_, _, _, _, _, _]) rfl ?_) | ((first | change (_ → _) ∧ (_ → _) | change vp_in _ _ ∧ _ | change ¬ _ ∧ _); simp (disch := omega) only [nI_clamp, nI_leI, nI_ltI, nI_eq, nI_1, nI_add, nI_not_neg, nI_is_pos, nI_m1, nI_z]) | refine brT (by first | assumption | decide | omega) ?_ | refine brF (by first | assumption | decide | omega) ?_ | refine brTn (by first | assumption | decide | omega) ?_ | refine brFn (by first | assumption | decide | omega) ?_ | refine And.intro (vp_in_nI (by omega) (by decide)) ?_ | refine And.intro (vp_lit (by decide)) ?_ | refine divJ (by decide) ?_ | refine divI (by decide) ?_)
  try change _ ∧ _
  refine Cl.of r1 (by decide) ?_
  repeat (first | (refine W1 rfl ?_; try refine Wp.norm (L' := [_, _, _, _, _, _]) rfl ?_) | ((first | change (_ → _) ∧ (_ → _) | change vp_in _ _ ∧ _ | change ¬ _ ∧ _); simp (disch := omega) only [nI_clamp, nI_leI, nI_ltI, nI_eq, nI_1, nI_add, nI_not_neg, nI_is_pos, nI_m1, nI_z]) | refine brT (by first | assumption | decide | omega) ?_ | refine brF (by first | assumption | decide | omega) ?_ | refine brTn (by first | assumption | decide | omega) ?_ | refine brFn (by first | assumption | decide | omega) ?_ | refine And.intro (vp_in_nI (by omega) (by decide)) ?_ | refine And.intro (vp_lit (by decide)) ?_ | refine divJ (by decide) ?_ | refine divI (by decide) ?_)
  try change _ ∧ _
  refine Cl.of (r_keepCut h1) (by decide) ?_
  repeat (first | (refine W1 rfl ?_; try refine Wp.norm (L' := [_, _, _, _, _, _]) rfl ?_) | ((first | change (_ → _) ∧ (_ → _) | change vp_in _ _ ∧ _ | change ¬ _ ∧ _); simp (disch := omega) only [nI_clamp, nI_leI, nI_ltI, nI_eq, nI_1, nI_add, nI_not_neg, nI_is_pos, nI_m1, nI_z]) | refine brT (by first | assumption | decide | omega) ?_ | refine brF (by first | assumption | decide | omega) ?_ | refine brTn (by first | assumption | decide | omega) ?_ | refine brFn (by first | assumption | decide | omega) ?_ | refine And.intro (vp_in_nI (by omega) (by decide)) ?_ | refine And.intro (vp_lit (by decide)) ?_ | refine divJ (by decide) ?_ | refine divI (by decide) ?_)
  try change _ ∧ _
  try first | exact ⟨rfl, rfl⟩ | exact ⟨Or.inr rfl, rfl, rfl⟩ | exact ⟨Or.inl rfl, rfl, rfl⟩ | exact ⟨trivial, trivial⟩ | exact ⟨rfl, trivial⟩ | exact ⟨Or.inr rfl, rfl, trivial⟩ | exact ⟨Or.inl rfl, rfl, trivial⟩
theorem m_even_no (R : RM s c v h) (o : OK s) {k a b n : Nat} (hk : k < zK s) (ham : amB s k = true) (ha : a ≤ 720720) (hb : b ≤ 720720) (hn : cO s (some k) (zT s) = n) {h1 : HP} (r1 : Run 1 j_M_evens [.ref 65, .int (nI n), .long (lN a), .long (lN b)] h (some (.int 0)) h1) : Run 2 j_M_even [.ref 65, .int (nI k), .int (nI a), .int (nI b)] h (some (.int 0)) (wI (wI h1 65 68 (h1.1 65 72)) 65 69 (h1.1 65 73)) := by
  refine Run.of rfl ?_
  refine Wp.norm (L' := [_, _, _, _, _]) rfl ?_
  repeat (first | (refine W1 rfl ?_; try refine Wp.norm (L' := [_, _, _, _, _]) rfl ?_) | ((first | change (_ → _) ∧ (_ → _) | change vp_in _ _ ∧ _ | change ¬ _ ∧ _); simp (disch := omega) only [nI_clamp, nI_leI, nI_ltI, nI_eq, nI_1, nI_add, nI_not_neg, nI_is_pos, nI_m1, nI_z]) | refine brT (by first | assumption | decide | omega) ?_ | refine brF (by first | assumption | decide | omega) ?_ | refine brTn (by first | assumption | decide | omega) ?_ | refine brFn (by first | assumption | decide | omega) ?_ | refine And.intro (vp_in_nI (by omega) (by decide)) ?_ | refine And.intro (vp_lit (by decide)) ?_ | refine divJ (by decide) ?_ | refine divI (by decide) ?_)
  try change _ ∧ _
  refine Cl.of (g_MK R o hk) (by decide) ?_
  repeat (first | (refine W1 rfl ?_; try refine Wp.norm (L' := [_, _, _, _, _]) rfl ?_) | ((first | change (_ → _) ∧ (_ → _) | change vp_in _ _ ∧ _ | change ¬ _ ∧ _); simp (disch := omega) only [nI_clamp, nI_leI, nI_ltI, nI_eq, nI_1, nI_add, nI_not_neg, nI_is_pos, nI_m1, nI_z]) | refine brT (by first | assumption | decide | omega) ?_ | refine brF (by first | assumption | decide | omega) ?_ | refine brTn (by first | assumption | decide | omega) ?_ | refine brFn (by first | assumption | decide | omega) ?_ | refine And.intro (vp_in_nI (by omega) (by decide)) ?_ | refine And.intro (vp_lit (by decide)) ?_ | refine divJ (by decide) ?_ | refine divI (by decide) ?_)
  try change _ ∧ _
  refine Cl.of (shM h ha) (by decide) ?_
  iterate 1 (refine W1 rfl ?_; try refine Wp.norm (L' := [_, _, _, _, _]) rfl ?_)
  refine brF (by decide) ?_
  refine Wp.normS (pc' := 20) (S' := []) rfl rfl rfl ?_
  repeat (first | (refine W1 rfl ?_; try refine Wp.norm (L' := [_, _, _, _, _]) rfl ?_) | ((first | change (_ → _) ∧ (_ → _) | change vp_in _ _ ∧ _ | change ¬ _ ∧ _); simp (disch := omega) only [nI_clamp, nI_leI, nI_ltI, nI_eq, nI_1, nI_add, nI_not_neg, nI_is_pos, nI_m1, nI_z]) | refine brT (by first | assumption | decide | omega) ?_ | refine brF (by first | assumption | decide | omega) ?_ | refine brTn (by first | assumption | decide | omega) ?_ | refine brFn (by first | assumption | decide | omega) ?_ | refine And.intro (vp_in_nI (by omega) (by decide)) ?_ | refine And.intro (vp_lit (by decide)) ?_ | refine divJ (by decide) ?_ | refine divI (by decide) ?_)
  try change _ ∧ _
  refine Cl.of (shM h hb) (by decide) ?_
  iterate 1 (refine W1 rfl ?_; try refine Wp.norm (L' := [_, _, _, _, _]) rfl ?_)
  refine brF (by decide) ?_
  refine Wp.normS (pc' := 32) (S' := []) rfl rfl rfl ?_
  repeat (first | (refine W1 rfl ?_; try refine Wp.norm (L' := [_, _, _, _, _]) rfl ?_) | ((first | change (_ → _) ∧ (_ → _) | change vp_in _ _ ∧ _ | change ¬ _ ∧ _); simp (disch := omega) only [nI_clamp, nI_leI, nI_ltI, nI_eq, nI_1, nI_add, nI_not_neg, nI_is_pos, nI_m1, nI_z]) | refine brT (by first | assumption | decide | omega) ?_ | refine brF (by first | assumption | decide | omega) ?_ | refine brTn (by first | assumption | decide | omega) ?_ | refine brFn (by first | assumption | decide | omega) ?_ | refine And.intro (vp_in_nI (by omega) (by decide)) ?_ | refine And.intro (vp_lit (by decide)) ?_ | refine divJ (by decide) ?_ | refine divI (by decide) ?_)
  try change _ ∧ _
  refine Cl.of (r_M_mayAll R o hk) (by decide) ?_
  rw [ham]
  repeat (first | (refine W1 rfl ?_; try refine Wp.norm (L' := [_, _, _, _, _]) rfl ?_) | ((first | change (_ → _) ∧ (_ → _) | change vp_in _ _ ∧ _ | change ¬ _ ∧ _); simp (disch := omega) only [nI_clamp, nI_leI, nI_ltI, nI_eq, nI_1, nI_add, nI_not_neg, nI_is_pos, nI_m1, nI_z]) | refine brT (by first | assumption | decide | omega) ?_ | refine brF (by first | assumption | decide | omega) ?_ | refine brTn (by first | assumption | decide | omega) ?_ | refine brFn (by first | assumption | decide | omega) ?_ | refine And.intro (vp_in_nI (by omega) (by decide)) ?_ | refine And.intro (vp_lit (by decide)) ?_ | refine divJ (by decide) ?_ | refine divI (by decide) ?_)
  try change _ ∧ _
  refine Cl.of (r_M_turnsOfKind R o hk) (by decide) ?_
  rw [hn]
  repeat (first | (refine W1 rfl ?_; try refine Wp.norm (L' := [_, _, _, _, _]) rfl ?_) | ((first | change (_ → _) ∧ (_ → _) | change vp_in _ _ ∧ _ | change ¬ _ ∧ _); simp (disch := omega) only [nI_clamp, nI_leI, nI_ltI, nI_eq, nI_1, nI_add, nI_not_neg, nI_is_pos, nI_m1, nI_z]) | refine brT (by first | assumption | decide | omega) ?_ | refine brF (by first | assumption | decide | omega) ?_ | refine brTn (by first | assumption | decide | omega) ?_ | refine brFn (by first | assumption | decide | omega) ?_ | refine And.intro (vp_in_nI (by omega) (by decide)) ?_ | refine And.intro (vp_lit (by decide)) ?_ | refine divJ (by decide) ?_ | refine divI (by decide) ?_)
  try change _ ∧ _
  refine Cl.ofA r1 (by rw [nI_l (show a < 2 ^ 31 by omega), nI_l (show b < 2 ^ 31 by omega)]; rfl) (by decide) ?_
  repeat (first | (refine W1 rfl ?_; try refine Wp.norm (L' := [_, _, _, _, _]) rfl ?_) | ((first | change (_ → _) ∧ (_ → _) | change vp_in _ _ ∧ _ | change ¬ _ ∧ _); simp (disch := omega) only [nI_clamp, nI_leI, nI_ltI, nI_eq, nI_1, nI_add, nI_not_neg, nI_is_pos, nI_m1, nI_z]) | refine brT (by first | assumption | decide | omega) ?_ | refine brF (by first | assumption | decide | omega) ?_ | refine brTn (by first | assumption | decide | omega) ?_ | refine brFn (by first | assumption | decide | omega) ?_ | refine And.intro (vp_in_nI (by omega) (by decide)) ?_ | refine And.intro (vp_lit (by decide)) ?_ | refine divJ (by decide) ?_ | refine divI (by decide) ?_)
  try change _ ∧ _
  rw [wI_ne2 _ _ (by decide)]
  exact ⟨rfl, rfl⟩
theorem e_even_yes (R : RC s c v h) (o : OK s) {k a b n : Nat} (hk : k < zK s) (ham : amB s k = true) (ha : a ≤ 720720) (hb : b ≤ 720720) (hn : cO s (some k) (zT s) = n) {h1 : HP} (E : evF h h1) {g : Nat → Int32} (hg : ∀ u, u < n → h1.1 51 u = g u) (r1 : Run 2 j_Evener_canBe [.ref 50, .int (nI n), .int (nI a), .int (nI b)] h (some (.int 1)) h1) : ∃ h', Run 3 j_E_even [.ref 0, .int (nI k), .int (nI a), .int (nI b)] h (some (.int 1)) h' ∧ onlyJ [46, 47] [] h1 h' ∧ RC s (cEF s k g c) (cEF s k g v) h' := by
  have hT := o.T; have hP := o.P; have hK := o.K; have hD := o.D; have hO := o.O; have hQ := o.Q; have hL := o.L
  have hk1 : kOK s (some k) := fun k' e => by cases e; exact hk
  have R1 := R.same E.same
  have hc := cO_le s (some k) (zT s)
  obtain ⟨w, h', r, e, O, R'⟩ := Run.ofP (d := 3) (j := j_E_even) (as := [.ref 0, .int (nI k), .int (nI a), .int (nI b)]) (h := h) (P := fun w h' => w = some (.int 1) ∧ onlyJ [46, 47] [] h1 h' ∧ RC s (cEF s k g c) (cEF s k g v) h') rfl (by
    refine Wp.norm (L' := [_, _, _, _, _, _]) rfl ?_
    have lp : ∀ i, i ≤ n → ∀ h', onlyJ [46, 47] [] h1 h' → RC s (cE s k g i c) (cE s k g i v) h' → Wp 3 j_E_even 71 [.ref 0, .int (nI k), .int (nI a), .int (nI b), .int (nI n), .int (nI i)] [] h' (fun w h' => w = some (.int 1) ∧ onlyJ [46, 47] [] h1 h' ∧ RC s (cEF s k g c) (cEF s k g v) h') := by
      refine up_ind ?_ (fun i hi ih => ?_)
      · intro h' O R'
        repeat (first | (refine W1 rfl ?_; try refine Wp.norm (L' := [_, _, _, _, _, _]) rfl ?_) | ((first | change (_ → _) ∧ (_ → _) | change vp_in _ _ ∧ _ | change ¬ _ ∧ _); simp (disch := omega) only [nI_clamp, nI_leI, nI_ltI, nI_eq, nI_1, nI_add, nI_not_neg, nI_is_pos, nI_m1, nI_z]) | refine brT (by first | assumption | decide | omega) ?_ | refine brF (by first | assumption | decide | omega) ?_ | refine brTn (by first | assumption | decide | omega) ?_ | refine brFn (by first | assumption | decide | omega) ?_ | refine And.intro (vp_in_nI (by omega) (by decide)) ?_ | refine And.intro (vp_lit (by decide)) ?_ | refine divJ (by decide) ?_ | refine divI (by decide) ?_)
        try change _ ∧ _
        exact ⟨rfl, O, R'.cg (fun t ht => by rw [← hn]; exact cE_F o k g c ht) (fun t ht => by rw [← hn]; exact cE_F o k g v ht)⟩
      · intro h' O R'
        have hi2 : i < cO s (some k) (zT s) := by omega
        have htl := tA_lt o hi2
        have hgi : h'.1 51 i = g i := by rw [O.1 51 i (by decide)]; exact hg i hi
        have ih := ih (layC h' (tA s (some k) i) (g i)) ((O.addI (by decide)).addI (by decide)) ((R'.lay _ _).cg (fun t ht => cE_s o g c hi2 ht) (fun t ht => cE_s o g v hi2 ht))
        repeat (first | (refine W1 rfl ?_; try refine Wp.norm (L' := [_, _, _, _, _, _]) rfl ?_) | ((first | change (_ → _) ∧ (_ → _) | change vp_in _ _ ∧ _ | change ¬ _ ∧ _); simp (disch := omega) only [nI_clamp, nI_leI, nI_ltI, nI_eq, nI_1, nI_add, nI_not_neg, nI_is_pos, nI_m1, nI_z]) | refine brT (by first | assumption | decide | omega) ?_ | refine brF (by first | assumption | decide | omega) ?_ | refine brTn (by first | assumption | decide | omega) ?_ | refine brFn (by first | assumption | decide | omega) ?_ | refine And.intro (vp_in_nI (by omega) (by decide)) ?_ | refine And.intro (vp_lit (by decide)) ?_ | refine divJ (by decide) ?_ | refine divI (by decide) ?_)
        try change _ ∧ _
        refine Cl.of (r_Calendar_turnAt (k := some k) R' o hk1 hi2) (by decide) ?_
        repeat (first | (refine W1 rfl ?_; try refine Wp.norm (L' := [_, _, _, _, _, _]) rfl ?_) | ((first | change (_ → _) ∧ (_ → _) | change vp_in _ _ ∧ _ | change ¬ _ ∧ _); simp (disch := omega) only [nI_clamp, nI_leI, nI_ltI, nI_eq, nI_1, nI_add, nI_not_neg, nI_is_pos, nI_m1, nI_z]) | refine brT (by first | assumption | decide | omega) ?_ | refine brF (by first | assumption | decide | omega) ?_ | refine brTn (by first | assumption | decide | omega) ?_ | refine brFn (by first | assumption | decide | omega) ?_ | refine And.intro (vp_in_nI (by omega) (by decide)) ?_ | refine And.intro (vp_lit (by decide)) ?_ | refine divJ (by decide) ?_ | refine divI (by decide) ?_)
        try change _ ∧ _
        refine Cl.ofA (r_Rota_lay (t := tA s (some k) i) (g i) (by omega)) (by first | done | rfl | (simp (disch := omega) only [nI_1, nI_add, nI_clamp, hgi] <;> first | done | rfl)) (by decide) ?_
        repeat (first | refine Wp.at ih rfl rfl ?_ rfl | (refine W1 rfl ?_; try refine Wp.norm (L' := [_, _, _, _, _, _]) rfl ?_) | ((first | change (_ → _) ∧ (_ → _) | change vp_in _ _ ∧ _ | change ¬ _ ∧ _); simp (disch := omega) only [nI_clamp, nI_leI, nI_ltI, nI_eq, nI_1, nI_add, nI_not_neg, nI_is_pos, nI_m1, nI_z]) | refine brT (by first | assumption | decide | omega) ?_ | refine brF (by first | assumption | decide | omega) ?_ | refine brTn (by first | assumption | decide | omega) ?_ | refine brFn (by first | assumption | decide | omega) ?_ | refine And.intro (vp_in_nI (by omega) (by decide)) ?_ | refine And.intro (vp_lit (by decide)) ?_ | refine divJ (by decide) ?_ | refine divI (by decide) ?_)
        try change _ ∧ _
        first | done | rfl | (simp (disch := omega) only [nI_1, nI_add, nI_clamp] <;> first | done | rfl)
    repeat (first | (refine W1 rfl ?_; try refine Wp.norm (L' := [_, _, _, _, _, _]) rfl ?_) | ((first | change (_ → _) ∧ (_ → _) | change vp_in _ _ ∧ _ | change ¬ _ ∧ _); simp (disch := omega) only [nI_clamp, nI_leI, nI_ltI, nI_eq, nI_1, nI_add, nI_not_neg, nI_is_pos, nI_m1, nI_z]) | refine brT (by first | assumption | decide | omega) ?_ | refine brF (by first | assumption | decide | omega) ?_ | refine brTn (by first | assumption | decide | omega) ?_ | refine brFn (by first | assumption | decide | omega) ?_ | refine And.intro (vp_in_nI (by omega) (by decide)) ?_ | refine And.intro (vp_lit (by decide)) ?_ | refine divJ (by decide) ?_ | refine divI (by decide) ?_)
    try change _ ∧ _
    refine Cl.of (g_EK R o hk) (by decide) ?_
    repeat (first | (refine W1 rfl ?_; try refine Wp.norm (L' := [_, _, _, _, _, _]) rfl ?_) | ((first | change (_ → _) ∧ (_ → _) | change vp_in _ _ ∧ _ | change ¬ _ ∧ _); simp (disch := omega) only [nI_clamp, nI_leI, nI_ltI, nI_eq, nI_1, nI_add, nI_not_neg, nI_is_pos, nI_m1, nI_z]) | refine brT (by first | assumption | decide | omega) ?_ | refine brF (by first | assumption | decide | omega) ?_ | refine brTn (by first | assumption | decide | omega) ?_ | refine brFn (by first | assumption | decide | omega) ?_ | refine And.intro (vp_in_nI (by omega) (by decide)) ?_ | refine And.intro (vp_lit (by decide)) ?_ | refine divJ (by decide) ?_ | refine divI (by decide) ?_)
    try change _ ∧ _
    refine Cl.of (r_Calendar_allMay R o hk) (by decide) ?_
    rw [ham]
    repeat (first | (refine W1 rfl ?_; try refine Wp.norm (L' := [_, _, _, _, _, _]) rfl ?_) | ((first | change (_ → _) ∧ (_ → _) | change vp_in _ _ ∧ _ | change ¬ _ ∧ _); simp (disch := omega) only [nI_clamp, nI_leI, nI_ltI, nI_eq, nI_1, nI_add, nI_not_neg, nI_is_pos, nI_m1, nI_z]) | refine brT (by first | assumption | decide | omega) ?_ | refine brF (by first | assumption | decide | omega) ?_ | refine brTn (by first | assumption | decide | omega) ?_ | refine brFn (by first | assumption | decide | omega) ?_ | refine And.intro (vp_in_nI (by omega) (by decide)) ?_ | refine And.intro (vp_lit (by decide)) ?_ | refine divJ (by decide) ?_ | refine divI (by decide) ?_)
    try change _ ∧ _
    refine Cl.of (shE h ha) (by decide) ?_
    repeat (first | (refine W1 rfl ?_; try refine Wp.norm (L' := [_, _, _, _, _, _]) rfl ?_) | ((first | change (_ → _) ∧ (_ → _) | change vp_in _ _ ∧ _ | change ¬ _ ∧ _); simp (disch := omega) only [nI_clamp, nI_leI, nI_ltI, nI_eq, nI_1, nI_add, nI_not_neg, nI_is_pos, nI_m1, nI_z]) | refine brT (by first | assumption | decide | omega) ?_ | refine brF (by first | assumption | decide | omega) ?_ | refine brTn (by first | assumption | decide | omega) ?_ | refine brFn (by first | assumption | decide | omega) ?_ | refine And.intro (vp_in_nI (by omega) (by decide)) ?_ | refine And.intro (vp_lit (by decide)) ?_ | refine divJ (by decide) ?_ | refine divI (by decide) ?_)
    try change _ ∧ _
    refine Cl.of (shE h hb) (by decide) ?_
    repeat (first | (refine W1 rfl ?_; try refine Wp.norm (L' := [_, _, _, _, _, _]) rfl ?_) | ((first | change (_ → _) ∧ (_ → _) | change vp_in _ _ ∧ _ | change ¬ _ ∧ _); simp (disch := omega) only [nI_clamp, nI_leI, nI_ltI, nI_eq, nI_1, nI_add, nI_not_neg, nI_is_pos, nI_m1, nI_z]) | refine brT (by first | assumption | decide | omega) ?_ | refine brF (by first | assumption | decide | omega) ?_ | refine brTn (by first | assumption | decide | omega) ?_ | refine brFn (by first | assumption | decide | omega) ?_ | refine And.intro (vp_in_nI (by omega) (by decide)) ?_ | refine And.intro (vp_lit (by decide)) ?_ | refine divJ (by decide) ?_ | refine divI (by decide) ?_)
    try change _ ∧ _
    refine Cl.of (r_Calendar_countOf (k := some k) R o hk1) (by decide) ?_
    rw [hn]
    repeat (first | (refine W1 rfl ?_; try refine Wp.norm (L' := [_, _, _, _, _, _]) rfl ?_) | ((first | change (_ → _) ∧ (_ → _) | change vp_in _ _ ∧ _ | change ¬ _ ∧ _); simp (disch := omega) only [nI_clamp, nI_leI, nI_ltI, nI_eq, nI_1, nI_add, nI_not_neg, nI_is_pos, nI_m1, nI_z]) | refine brT (by first | assumption | decide | omega) ?_ | refine brF (by first | assumption | decide | omega) ?_ | refine brTn (by first | assumption | decide | omega) ?_ | refine brFn (by first | assumption | decide | omega) ?_ | refine And.intro (vp_in_nI (by omega) (by decide)) ?_ | refine And.intro (vp_lit (by decide)) ?_ | refine divJ (by decide) ?_ | refine divI (by decide) ?_)
    try change _ ∧ _
    refine Cl.of r1 (by decide) ?_
    have ih := lp 0 (Nat.zero_le _) h1 (onlyJ.rfl _ _ h1) (by rw [cE_0, cE_0]; exact R1)
    repeat (first | refine Wp.at ih rfl rfl ?_ rfl | (refine W1 rfl ?_; try refine Wp.norm (L' := [_, _, _, _, _, _]) rfl ?_) | ((first | change (_ → _) ∧ (_ → _) | change vp_in _ _ ∧ _ | change ¬ _ ∧ _); simp (disch := omega) only [nI_clamp, nI_leI, nI_ltI, nI_eq, nI_1, nI_add, nI_not_neg, nI_is_pos, nI_m1, nI_z]) | refine brT (by first | assumption | decide | omega) ?_ | refine brF (by first | assumption | decide | omega) ?_ | refine brTn (by first | assumption | decide | omega) ?_ | refine brFn (by first | assumption | decide | omega) ?_ | refine And.intro (vp_in_nI (by omega) (by decide)) ?_ | refine And.intro (vp_lit (by decide)) ?_ | refine divJ (by decide) ?_ | refine divI (by decide) ?_)
    try change _ ∧ _
    first | done | rfl | (simp (disch := omega) only [nI_1, nI_add, nI_clamp] <;> first | done | rfl))
  subst e
  exact ⟨h', r, O, R'⟩
theorem m_even_yes (R : RM s c v h) (o : OK s) {k a b n : Nat} (hk : k < zK s) (ham : amB s k = true) (ha : a ≤ 720720) (hb : b ≤ 720720) (hn : cO s (some k) (zT s) = n) {h1 : HP} (E : cmF h h1) {g : Nat → Int32} (hg : ∀ u, u < n → h1.1 115 u = g u) (r1 : Run 1 j_M_evens [.ref 65, .int (nI n), .long (lN a), .long (lN b)] h (some (.int 1)) h1) : ∃ h', Run 2 j_M_even [.ref 65, .int (nI k), .int (nI a), .int (nI b)] h (some (.int 1)) h' ∧ onlyJ [110, 111] [] h1 h' ∧ RM s (cEF s k g c) (cEF s k g v) h' := by
  have hT := o.T; have hP := o.P; have hK := o.K; have hD := o.D; have hO := o.O; have hQ := o.Q; have hL := o.L
  have R1 := R.same E.same
  have hc := cO_le s (some k) (zT s)
  obtain ⟨w, h', r, e, O, R'⟩ := Run.ofP (d := 2) (j := j_M_even) (as := [.ref 65, .int (nI k), .int (nI a), .int (nI b)]) (h := h) (P := fun w h' => w = some (.int 1) ∧ onlyJ [110, 111] [] h1 h' ∧ RM s (cEF s k g c) (cEF s k g v) h') rfl (by
    refine Wp.norm (L' := [_, _, _, _, _]) rfl ?_
    have lp : ∀ i, i ≤ zT s → ∀ h', onlyJ [110, 111] [] h1 h' → RM s (cEM s k g i c) (cEM s k g i v) h' → Wp 2 j_M_even 79 [.ref 65, .int (nI k), .int (nI a), .int (nI b), .int (nI i)] [] h' (fun w h' => w = some (.int 1) ∧ onlyJ [110, 111] [] h1 h' ∧ RM s (cEF s k g c) (cEF s k g v) h') := by
      refine up_ind ?_ (fun i hi ih => ?_)
      · intro h' O R'
        repeat (first | (refine W1 rfl ?_; try refine Wp.norm (L' := [_, _, _, _, _]) rfl ?_) | ((first | change (_ → _) ∧ (_ → _) | change vp_in _ _ ∧ _ | change ¬ _ ∧ _); simp (disch := omega) only [nI_clamp, nI_leI, nI_ltI, nI_eq, nI_1, nI_add, nI_not_neg, nI_is_pos, nI_m1, nI_z, R'.T]) | refine brT (by first | assumption | decide | omega) ?_ | refine brF (by first | assumption | decide | omega) ?_ | refine brTn (by first | assumption | decide | omega) ?_ | refine brFn (by first | assumption | decide | omega) ?_ | refine And.intro (vp_in_nI (by omega) (by decide)) ?_ | refine And.intro (vp_lit (by decide)) ?_ | refine divJ (by decide) ?_ | refine divI (by decide) ?_)
        try change _ ∧ _
        exact ⟨rfl, O, R'.cg (fun t ht => cEM_F k g c ht) (fun t ht => cEM_F k g v ht)⟩
      · intro h' O R'
        have hki := o.knd hi
        repeat (first | (refine W1 rfl ?_; try refine Wp.norm (L' := [_, _, _, _, _]) rfl ?_) | ((first | change (_ → _) ∧ (_ → _) | change vp_in _ _ ∧ _ | change ¬ _ ∧ _); simp (disch := omega) only [nI_clamp, nI_leI, nI_ltI, nI_eq, nI_1, nI_add, nI_not_neg, nI_is_pos, nI_m1, nI_z, R'.T, R'.knd]) | refine brT (by first | assumption | decide | omega) ?_ | refine brF (by first | assumption | decide | omega) ?_ | refine brTn (by first | assumption | decide | omega) ?_ | refine brFn (by first | assumption | decide | omega) ?_ | refine And.intro (vp_in_nI (by omega) (by decide)) ?_ | refine And.intro (vp_lit (by decide)) ?_ | refine divJ (by decide) ?_ | refine divI (by decide) ?_)
        try change _ ∧ _
        refine ⟨fun q => ?_, fun q => ?_⟩
        · have ih := ih h' O (by rw [← cEM_n k i g c q, ← cEM_n k i g v q]; exact R')
          repeat (first | refine Wp.at ih rfl rfl ?_ rfl | (refine W1 rfl ?_; try refine Wp.norm (L' := [_, _, _, _, _]) rfl ?_) | ((first | change (_ → _) ∧ (_ → _) | change vp_in _ _ ∧ _ | change ¬ _ ∧ _); simp (disch := omega) only [nI_clamp, nI_leI, nI_ltI, nI_eq, nI_1, nI_add, nI_not_neg, nI_is_pos, nI_m1, nI_z]) | refine brT (by first | assumption | decide | omega) ?_ | refine brF (by first | assumption | decide | omega) ?_ | refine brTn (by first | assumption | decide | omega) ?_ | refine brFn (by first | assumption | decide | omega) ?_ | refine And.intro (vp_in_nI (by omega) (by decide)) ?_ | refine And.intro (vp_lit (by decide)) ?_ | refine divJ (by decide) ?_ | refine divI (by decide) ?_)
          try change _ ∧ _
          first | done | rfl | (simp (disch := omega) only [nI_1, nI_add, nI_clamp] <;> first | done | rfl)
        · have hNl := tN_lt o hi
          rw [q, hn] at hNl
          have hgi : h'.1 115 (tN s i) = g (tN s i) := by rw [O.1 115 _ (by decide)]; exact hg _ hNl
          have ih := ih (layM h' i (g (tN s i))) ((O.addI (by decide)).addI (by decide)) (by rw [← cEM_s k i g c q, ← cEM_s k i g v q]; exact R'.lay _ _)
          repeat (first | (refine W1 rfl ?_; try refine Wp.norm (L' := [_, _, _, _, _]) rfl ?_) | ((first | change (_ → _) ∧ (_ → _) | change vp_in _ _ ∧ _ | change ¬ _ ∧ _); simp (disch := omega) only [nI_clamp, nI_leI, nI_ltI, nI_eq, nI_1, nI_add, nI_not_neg, nI_is_pos, nI_m1, nI_z, R'.num]) | refine brT (by first | assumption | decide | omega) ?_ | refine brF (by first | assumption | decide | omega) ?_ | refine brTn (by first | assumption | decide | omega) ?_ | refine brFn (by first | assumption | decide | omega) ?_ | refine And.intro (vp_in_nI (by omega) (by decide)) ?_ | refine And.intro (vp_lit (by decide)) ?_ | refine divJ (by decide) ?_ | refine divI (by decide) ?_)
          try change _ ∧ _
          refine Cl.ofA (r_M_laysFor (t := i) (g (tN s i)) (by omega)) (by first | done | rfl | (simp (disch := omega) only [nI_1, nI_add, nI_clamp, hgi] <;> first | done | rfl)) (by decide) ?_
          repeat (first | refine Wp.at ih rfl rfl ?_ rfl | (refine W1 rfl ?_; try refine Wp.norm (L' := [_, _, _, _, _]) rfl ?_) | ((first | change (_ → _) ∧ (_ → _) | change vp_in _ _ ∧ _ | change ¬ _ ∧ _); simp (disch := omega) only [nI_clamp, nI_leI, nI_ltI, nI_eq, nI_1, nI_add, nI_not_neg, nI_is_pos, nI_m1, nI_z]) | refine brT (by first | assumption | decide | omega) ?_ | refine brF (by first | assumption | decide | omega) ?_ | refine brTn (by first | assumption | decide | omega) ?_ | refine brFn (by first | assumption | decide | omega) ?_ | refine And.intro (vp_in_nI (by omega) (by decide)) ?_ | refine And.intro (vp_lit (by decide)) ?_ | refine divJ (by decide) ?_ | refine divI (by decide) ?_)
          try change _ ∧ _
          first | done | rfl | (simp (disch := omega) only [nI_1, nI_add, nI_clamp] <;> first | done | rfl)
    repeat (first | (refine W1 rfl ?_; try refine Wp.norm (L' := [_, _, _, _, _]) rfl ?_) | ((first | change (_ → _) ∧ (_ → _) | change vp_in _ _ ∧ _ | change ¬ _ ∧ _); simp (disch := omega) only [nI_clamp, nI_leI, nI_ltI, nI_eq, nI_1, nI_add, nI_not_neg, nI_is_pos, nI_m1, nI_z]) | refine brT (by first | assumption | decide | omega) ?_ | refine brF (by first | assumption | decide | omega) ?_ | refine brTn (by first | assumption | decide | omega) ?_ | refine brFn (by first | assumption | decide | omega) ?_ | refine And.intro (vp_in_nI (by omega) (by decide)) ?_ | refine And.intro (vp_lit (by decide)) ?_ | refine divJ (by decide) ?_ | refine divI (by decide) ?_)
    try change _ ∧ _
    refine Cl.of (g_MK R o hk) (by decide) ?_
    repeat (first | (refine W1 rfl ?_; try refine Wp.norm (L' := [_, _, _, _, _]) rfl ?_) | ((first | change (_ → _) ∧ (_ → _) | change vp_in _ _ ∧ _ | change ¬ _ ∧ _); simp (disch := omega) only [nI_clamp, nI_leI, nI_ltI, nI_eq, nI_1, nI_add, nI_not_neg, nI_is_pos, nI_m1, nI_z]) | refine brT (by first | assumption | decide | omega) ?_ | refine brF (by first | assumption | decide | omega) ?_ | refine brTn (by first | assumption | decide | omega) ?_ | refine brFn (by first | assumption | decide | omega) ?_ | refine And.intro (vp_in_nI (by omega) (by decide)) ?_ | refine And.intro (vp_lit (by decide)) ?_ | refine divJ (by decide) ?_ | refine divI (by decide) ?_)
    try change _ ∧ _
    refine Cl.of (shM h ha) (by decide) ?_
    iterate 1 (refine W1 rfl ?_; try refine Wp.norm (L' := [_, _, _, _, _]) rfl ?_)
    refine brF (by decide) ?_
    refine Wp.normS (pc' := 20) (S' := []) rfl rfl rfl ?_
    repeat (first | (refine W1 rfl ?_; try refine Wp.norm (L' := [_, _, _, _, _]) rfl ?_) | ((first | change (_ → _) ∧ (_ → _) | change vp_in _ _ ∧ _ | change ¬ _ ∧ _); simp (disch := omega) only [nI_clamp, nI_leI, nI_ltI, nI_eq, nI_1, nI_add, nI_not_neg, nI_is_pos, nI_m1, nI_z]) | refine brT (by first | assumption | decide | omega) ?_ | refine brF (by first | assumption | decide | omega) ?_ | refine brTn (by first | assumption | decide | omega) ?_ | refine brFn (by first | assumption | decide | omega) ?_ | refine And.intro (vp_in_nI (by omega) (by decide)) ?_ | refine And.intro (vp_lit (by decide)) ?_ | refine divJ (by decide) ?_ | refine divI (by decide) ?_)
    try change _ ∧ _
    refine Cl.of (shM h hb) (by decide) ?_
    iterate 1 (refine W1 rfl ?_; try refine Wp.norm (L' := [_, _, _, _, _]) rfl ?_)
    refine brF (by decide) ?_
    refine Wp.normS (pc' := 32) (S' := []) rfl rfl rfl ?_
    repeat (first | (refine W1 rfl ?_; try refine Wp.norm (L' := [_, _, _, _, _]) rfl ?_) | ((first | change (_ → _) ∧ (_ → _) | change vp_in _ _ ∧ _ | change ¬ _ ∧ _); simp (disch := omega) only [nI_clamp, nI_leI, nI_ltI, nI_eq, nI_1, nI_add, nI_not_neg, nI_is_pos, nI_m1, nI_z]) | refine brT (by first | assumption | decide | omega) ?_ | refine brF (by first | assumption | decide | omega) ?_ | refine brTn (by first | assumption | decide | omega) ?_ | refine brFn (by first | assumption | decide | omega) ?_ | refine And.intro (vp_in_nI (by omega) (by decide)) ?_ | refine And.intro (vp_lit (by decide)) ?_ | refine divJ (by decide) ?_ | refine divI (by decide) ?_)
    try change _ ∧ _
    refine Cl.of (r_M_mayAll R o hk) (by decide) ?_
    rw [ham]
    repeat (first | (refine W1 rfl ?_; try refine Wp.norm (L' := [_, _, _, _, _]) rfl ?_) | ((first | change (_ → _) ∧ (_ → _) | change vp_in _ _ ∧ _ | change ¬ _ ∧ _); simp (disch := omega) only [nI_clamp, nI_leI, nI_ltI, nI_eq, nI_1, nI_add, nI_not_neg, nI_is_pos, nI_m1, nI_z]) | refine brT (by first | assumption | decide | omega) ?_ | refine brF (by first | assumption | decide | omega) ?_ | refine brTn (by first | assumption | decide | omega) ?_ | refine brFn (by first | assumption | decide | omega) ?_ | refine And.intro (vp_in_nI (by omega) (by decide)) ?_ | refine And.intro (vp_lit (by decide)) ?_ | refine divJ (by decide) ?_ | refine divI (by decide) ?_)
    try change _ ∧ _
    refine Cl.of (r_M_turnsOfKind R o hk) (by decide) ?_
    rw [hn]
    repeat (first | (refine W1 rfl ?_; try refine Wp.norm (L' := [_, _, _, _, _]) rfl ?_) | ((first | change (_ → _) ∧ (_ → _) | change vp_in _ _ ∧ _ | change ¬ _ ∧ _); simp (disch := omega) only [nI_clamp, nI_leI, nI_ltI, nI_eq, nI_1, nI_add, nI_not_neg, nI_is_pos, nI_m1, nI_z]) | refine brT (by first | assumption | decide | omega) ?_ | refine brF (by first | assumption | decide | omega) ?_ | refine brTn (by first | assumption | decide | omega) ?_ | refine brFn (by first | assumption | decide | omega) ?_ | refine And.intro (vp_in_nI (by omega) (by decide)) ?_ | refine And.intro (vp_lit (by decide)) ?_ | refine divJ (by decide) ?_ | refine divI (by decide) ?_)
    try change _ ∧ _
    refine Cl.ofA r1 (by rw [nI_l (show a < 2 ^ 31 by omega), nI_l (show b < 2 ^ 31 by omega)]; rfl) (by decide) ?_
    have ih := lp 0 (Nat.zero_le _) h1 (onlyJ.rfl _ _ h1) (by rw [cEM_0, cEM_0]; exact R1)
    repeat (first | refine Wp.at ih rfl rfl ?_ rfl | (refine W1 rfl ?_; try refine Wp.norm (L' := [_, _, _, _, _]) rfl ?_) | ((first | change (_ → _) ∧ (_ → _) | change vp_in _ _ ∧ _ | change ¬ _ ∧ _); simp (disch := omega) only [nI_clamp, nI_leI, nI_ltI, nI_eq, nI_1, nI_add, nI_not_neg, nI_is_pos, nI_m1, nI_z]) | refine brT (by first | assumption | decide | omega) ?_ | refine brF (by first | assumption | decide | omega) ?_ | refine brTn (by first | assumption | decide | omega) ?_ | refine brFn (by first | assumption | decide | omega) ?_ | refine And.intro (vp_in_nI (by omega) (by decide)) ?_ | refine And.intro (vp_lit (by decide)) ?_ | refine divJ (by decide) ?_ | refine divI (by decide) ?_)
    try change _ ∧ _
    first | done | rfl | (simp (disch := omega) only [nI_1, nI_add, nI_clamp] <;> first | done | rfl))
  subst e
  exact ⟨h', r, O, R'⟩
end EVENOP2
