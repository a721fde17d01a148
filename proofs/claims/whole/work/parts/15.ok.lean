def chkJ (j : Nat) : Bool := chkM mYP mLP mNP mPP j && chkL (chk1 mYP mNP (mBP j) (mYP j).cls (mRP j)) 0 (cdM j)
theorem okw_0 : ∀ j ∈ List.range' 0 12, Cond.code (mYP j) (mBP j) (mLP j) (mRP j) ∈ lw_tbl := List.forall_mem_cons.mpr ⟨seg_mem (i := 4) (List.mem_of_getElem? (i := 84) rfl), List.forall_mem_cons.mpr ⟨seg_mem (i := 4) (List.mem_of_getElem? (i := 88) rfl), List.forall_mem_cons.mpr ⟨seg_mem (i := 4) (List.mem_of_getElem? (i := 92) rfl), List.forall_mem_cons.mpr ⟨seg_mem (i := 4) (List.mem_of_getElem? (i := 100) rfl), List.forall_mem_cons.mpr ⟨seg_mem (i := 4) (List.mem_of_getElem? (i := 105) rfl), List.forall_mem_cons.mpr ⟨seg_mem (i := 4) (List.mem_of_getElem? (i := 194) rfl), List.forall_mem_cons.mpr ⟨seg_mem (i := 4) (List.mem_of_getElem? (i := 206) rfl), List.forall_mem_cons.mpr ⟨seg_mem (i := 4) (List.mem_of_getElem? (i := 219) rfl), List.forall_mem_cons.mpr ⟨seg_mem (i := 5) (List.mem_of_getElem? (i := 98) rfl), List.forall_mem_cons.mpr ⟨seg_mem (i := 4) (List.mem_of_getElem? (i := 114) rfl), List.forall_mem_cons.mpr ⟨seg_mem (i := 5) (List.mem_of_getElem? (i := 108) rfl), List.forall_mem_cons.mpr ⟨seg_mem (i := 5) (List.mem_of_getElem? (i := 112) rfl), fun _ h => absurd h List.not_mem_nil⟩⟩⟩⟩⟩⟩⟩⟩⟩⟩⟩⟩
theorem okw_1 : ∀ j ∈ List.range' 12 12, Cond.code (mYP j) (mBP j) (mLP j) (mRP j) ∈ lw_tbl := List.forall_mem_cons.mpr ⟨seg_mem (i := 5) (List.mem_of_getElem? (i := 116) rfl), List.forall_mem_cons.mpr ⟨seg_mem (i := 5) (List.mem_of_getElem? (i := 123) rfl), List.forall_mem_cons.mpr ⟨seg_mem (i := 5) (List.mem_of_getElem? (i := 127) rfl), List.forall_mem_cons.mpr ⟨seg_mem (i := 5) (List.mem_of_getElem? (i := 131) rfl), List.forall_mem_cons.mpr ⟨seg_mem (i := 5) (List.mem_of_getElem? (i := 143) rfl), List.forall_mem_cons.mpr ⟨seg_mem (i := 5) (List.mem_of_getElem? (i := 152) rfl), List.forall_mem_cons.mpr ⟨seg_mem (i := 3) (List.mem_of_getElem? (i := 124) rfl), List.forall_mem_cons.mpr ⟨seg_mem (i := 3) (List.mem_of_getElem? (i := 182) rfl), List.forall_mem_cons.mpr ⟨seg_mem (i := 3) (List.mem_of_getElem? (i := 186) rfl), List.forall_mem_cons.mpr ⟨seg_mem (i := 4) (List.mem_of_getElem? (i := 33) rfl), List.forall_mem_cons.mpr ⟨seg_mem (i := 4) (List.mem_of_getElem? (i := 41) rfl), List.forall_mem_cons.mpr ⟨seg_mem (i := 4) (List.mem_of_getElem? (i := 77) rfl), fun _ h => absurd h List.not_mem_nil⟩⟩⟩⟩⟩⟩⟩⟩⟩⟩⟩⟩
theorem okw_2 : ∀ j ∈ List.range' 24 12, Cond.code (mYP j) (mBP j) (mLP j) (mRP j) ∈ lw_tbl := List.forall_mem_cons.mpr ⟨seg_mem (i := 5) (List.mem_of_getElem? (i := 205) rfl), List.forall_mem_cons.mpr ⟨seg_mem (i := 5) (List.mem_of_getElem? (i := 209) rfl), List.forall_mem_cons.mpr ⟨seg_mem (i := 5) (List.mem_of_getElem? (i := 214) rfl), List.forall_mem_cons.mpr ⟨seg_mem (i := 5) (List.mem_of_getElem? (i := 220) rfl), List.forall_mem_cons.mpr ⟨seg_mem (i := 5) (List.mem_of_getElem? (i := 224) rfl), List.forall_mem_cons.mpr ⟨seg_mem (i := 5) (List.mem_of_getElem? (i := 228) rfl), List.forall_mem_cons.mpr ⟨seg_mem (i := 5) (List.mem_of_getElem? (i := 234) rfl), List.forall_mem_cons.mpr ⟨seg_mem (i := 5) (List.mem_of_getElem? (i := 238) rfl), List.forall_mem_cons.mpr ⟨seg_mem (i := 4) (List.mem_of_getElem? (i := 211) rfl), List.forall_mem_cons.mpr ⟨seg_mem (i := 4) (List.mem_of_getElem? (i := 215) rfl), List.forall_mem_cons.mpr ⟨seg_mem (i := 4) (List.mem_of_getElem? (i := 230) rfl), List.forall_mem_cons.mpr ⟨seg_mem (i := 5) (List.mem_of_getElem? (i := 1) rfl), fun _ h => absurd h List.not_mem_nil⟩⟩⟩⟩⟩⟩⟩⟩⟩⟩⟩⟩
theorem okw_3 : ∀ j ∈ List.range' 36 12, Cond.code (mYP j) (mBP j) (mLP j) (mRP j) ∈ lw_tbl := List.forall_mem_cons.mpr ⟨seg_mem (i := 5) (List.mem_of_getElem? (i := 11) rfl), List.forall_mem_cons.mpr ⟨seg_mem (i := 3) (List.mem_of_getElem? (i := 120) rfl), List.forall_mem_cons.mpr ⟨seg_mem (i := 3) (List.mem_of_getElem? (i := 143) rfl), List.forall_mem_cons.mpr ⟨seg_mem (i := 3) (List.mem_of_getElem? (i := 147) rfl), List.forall_mem_cons.mpr ⟨seg_mem (i := 3) (List.mem_of_getElem? (i := 159) rfl), List.forall_mem_cons.mpr ⟨seg_mem (i := 3) (List.mem_of_getElem? (i := 166) rfl), List.forall_mem_cons.mpr ⟨seg_mem (i := 3) (List.mem_of_getElem? (i := 170) rfl), List.forall_mem_cons.mpr ⟨seg_mem (i := 3) (List.mem_of_getElem? (i := 174) rfl), List.forall_mem_cons.mpr ⟨seg_mem (i := 3) (List.mem_of_getElem? (i := 178) rfl), List.forall_mem_cons.mpr ⟨seg_mem (i := 3) (List.mem_of_getElem? (i := 190) rfl), List.forall_mem_cons.mpr ⟨seg_mem (i := 3) (List.mem_of_getElem? (i := 201) rfl), List.forall_mem_cons.mpr ⟨seg_mem (i := 3) (List.mem_of_getElem? (i := 205) rfl), fun _ h => absurd h List.not_mem_nil⟩⟩⟩⟩⟩⟩⟩⟩⟩⟩⟩⟩
theorem okw_4 : ∀ j ∈ List.range' 48 12, Cond.code (mYP j) (mBP j) (mLP j) (mRP j) ∈ lw_tbl := List.forall_mem_cons.mpr ⟨seg_mem (i := 3) (List.mem_of_getElem? (i := 209) rfl), List.forall_mem_cons.mpr ⟨seg_mem (i := 3) (List.mem_of_getElem? (i := 213) rfl), List.forall_mem_cons.mpr ⟨seg_mem (i := 3) (List.mem_of_getElem? (i := 217) rfl), List.forall_mem_cons.mpr ⟨seg_mem (i := 3) (List.mem_of_getElem? (i := 221) rfl), List.forall_mem_cons.mpr ⟨seg_mem (i := 3) (List.mem_of_getElem? (i := 225) rfl), List.forall_mem_cons.mpr ⟨seg_mem (i := 3) (List.mem_of_getElem? (i := 237) rfl), List.forall_mem_cons.mpr ⟨seg_mem (i := 4) (List.mem_of_getElem? (i := 1) rfl), List.forall_mem_cons.mpr ⟨seg_mem (i := 4) (List.mem_of_getElem? (i := 5) rfl), List.forall_mem_cons.mpr ⟨seg_mem (i := 4) (List.mem_of_getElem? (i := 8) rfl), List.forall_mem_cons.mpr ⟨seg_mem (i := 4) (List.mem_of_getElem? (i := 15) rfl), List.forall_mem_cons.mpr ⟨seg_mem (i := 4) (List.mem_of_getElem? (i := 18) rfl), List.forall_mem_cons.mpr ⟨seg_mem (i := 4) (List.mem_of_getElem? (i := 21) rfl), fun _ h => absurd h List.not_mem_nil⟩⟩⟩⟩⟩⟩⟩⟩⟩⟩⟩⟩
theorem okw_5 : ∀ j ∈ List.range' 60 12, Cond.code (mYP j) (mBP j) (mLP j) (mRP j) ∈ lw_tbl := List.forall_mem_cons.mpr ⟨seg_mem (i := 4) (List.mem_of_getElem? (i := 29) rfl), List.forall_mem_cons.mpr ⟨seg_mem (i := 4) (List.mem_of_getElem? (i := 38) rfl), List.forall_mem_cons.mpr ⟨seg_mem (i := 5) (List.mem_of_getElem? (i := 86) rfl), List.forall_mem_cons.mpr ⟨seg_mem (i := 4) (List.mem_of_getElem? (i := 109) rfl), List.forall_mem_cons.mpr ⟨seg_mem (i := 4) (List.mem_of_getElem? (i := 131) rfl), List.forall_mem_cons.mpr ⟨seg_mem (i := 4) (List.mem_of_getElem? (i := 158) rfl), List.forall_mem_cons.mpr ⟨seg_mem (i := 4) (List.mem_of_getElem? (i := 162) rfl), List.forall_mem_cons.mpr ⟨seg_mem (i := 4) (List.mem_of_getElem? (i := 166) rfl), List.forall_mem_cons.mpr ⟨seg_mem (i := 4) (List.mem_of_getElem? (i := 170) rfl), List.forall_mem_cons.mpr ⟨seg_mem (i := 4) (List.mem_of_getElem? (i := 174) rfl), List.forall_mem_cons.mpr ⟨seg_mem (i := 4) (List.mem_of_getElem? (i := 178) rfl), List.forall_mem_cons.mpr ⟨seg_mem (i := 4) (List.mem_of_getElem? (i := 182) rfl), fun _ h => absurd h List.not_mem_nil⟩⟩⟩⟩⟩⟩⟩⟩⟩⟩⟩⟩
theorem okw_6 : ∀ j ∈ List.range' 72 12, Cond.code (mYP j) (mBP j) (mLP j) (mRP j) ∈ lw_tbl := List.forall_mem_cons.mpr ⟨seg_mem (i := 5) (List.mem_of_getElem? (i := 28) rfl), List.forall_mem_cons.mpr ⟨seg_mem (i := 5) (List.mem_of_getElem? (i := 40) rfl), List.forall_mem_cons.mpr ⟨seg_mem (i := 5) (List.mem_of_getElem? (i := 48) rfl), List.forall_mem_cons.mpr ⟨seg_mem (i := 5) (List.mem_of_getElem? (i := 52) rfl), List.forall_mem_cons.mpr ⟨seg_mem (i := 5) (List.mem_of_getElem? (i := 56) rfl), List.forall_mem_cons.mpr ⟨seg_mem (i := 5) (List.mem_of_getElem? (i := 60) rfl), List.forall_mem_cons.mpr ⟨seg_mem (i := 5) (List.mem_of_getElem? (i := 65) rfl), List.forall_mem_cons.mpr ⟨seg_mem (i := 5) (List.mem_of_getElem? (i := 72) rfl), List.forall_mem_cons.mpr ⟨seg_mem (i := 6) (List.mem_of_getElem? (i := 17) rfl), List.forall_mem_cons.mpr ⟨seg_mem (i := 6) (List.mem_of_getElem? (i := 25) rfl), List.forall_mem_cons.mpr ⟨seg_mem (i := 4) (List.mem_of_getElem? (i := 118) rfl), List.forall_mem_cons.mpr ⟨seg_mem (i := 5) (List.mem_of_getElem? (i := 160) rfl), fun _ h => absurd h List.not_mem_nil⟩⟩⟩⟩⟩⟩⟩⟩⟩⟩⟩⟩
theorem okw_7 : ∀ j ∈ List.range' 84 12, Cond.code (mYP j) (mBP j) (mLP j) (mRP j) ∈ lw_tbl := List.forall_mem_cons.mpr ⟨seg_mem (i := 5) (List.mem_of_getElem? (i := 164) rfl), List.forall_mem_cons.mpr ⟨seg_mem (i := 5) (List.mem_of_getElem? (i := 171) rfl), List.forall_mem_cons.mpr ⟨seg_mem (i := 5) (List.mem_of_getElem? (i := 175) rfl), List.forall_mem_cons.mpr ⟨seg_mem (i := 5) (List.mem_of_getElem? (i := 179) rfl), List.forall_mem_cons.mpr ⟨seg_mem (i := 5) (List.mem_of_getElem? (i := 183) rfl), List.forall_mem_cons.mpr ⟨seg_mem (i := 5) (List.mem_of_getElem? (i := 189) rfl), List.forall_mem_cons.mpr ⟨seg_mem (i := 5) (List.mem_of_getElem? (i := 193) rfl), List.forall_mem_cons.mpr ⟨seg_mem (i := 3) (List.mem_of_getElem? (i := 32) rfl), List.forall_mem_cons.mpr ⟨seg_mem (i := 3) (List.mem_of_getElem? (i := 36) rfl), List.forall_mem_cons.mpr ⟨seg_mem (i := 3) (List.mem_of_getElem? (i := 131) rfl), List.forall_mem_cons.mpr ⟨seg_mem (i := 3) (List.mem_of_getElem? (i := 233) rfl), List.forall_mem_cons.mpr ⟨seg_mem (i := 4) (List.mem_of_getElem? (i := 25) rfl), fun _ h => absurd h List.not_mem_nil⟩⟩⟩⟩⟩⟩⟩⟩⟩⟩⟩⟩
theorem okw_8 : ∀ j ∈ List.range' 96 12, Cond.code (mYP j) (mBP j) (mLP j) (mRP j) ∈ lw_tbl := List.forall_mem_cons.mpr ⟨seg_mem (i := 4) (List.mem_of_getElem? (i := 45) rfl), List.forall_mem_cons.mpr ⟨seg_mem (i := 4) (List.mem_of_getElem? (i := 50) rfl), List.forall_mem_cons.mpr ⟨seg_mem (i := 4) (List.mem_of_getElem? (i := 53) rfl), List.forall_mem_cons.mpr ⟨seg_mem (i := 4) (List.mem_of_getElem? (i := 56) rfl), List.forall_mem_cons.mpr ⟨seg_mem (i := 4) (List.mem_of_getElem? (i := 59) rfl), List.forall_mem_cons.mpr ⟨seg_mem (i := 4) (List.mem_of_getElem? (i := 96) rfl), List.forall_mem_cons.mpr ⟨seg_mem (i := 3) (List.mem_of_getElem? (i := 48) rfl), List.forall_mem_cons.mpr ⟨seg_mem (i := 3) (List.mem_of_getElem? (i := 51) rfl), List.forall_mem_cons.mpr ⟨seg_mem (i := 3) (List.mem_of_getElem? (i := 54) rfl), List.forall_mem_cons.mpr ⟨seg_mem (i := 3) (List.mem_of_getElem? (i := 57) rfl), List.forall_mem_cons.mpr ⟨seg_mem (i := 3) (List.mem_of_getElem? (i := 61) rfl), List.forall_mem_cons.mpr ⟨seg_mem (i := 3) (List.mem_of_getElem? (i := 64) rfl), fun _ h => absurd h List.not_mem_nil⟩⟩⟩⟩⟩⟩⟩⟩⟩⟩⟩⟩
theorem okw_9 : ∀ j ∈ List.range' 108 12, Cond.code (mYP j) (mBP j) (mLP j) (mRP j) ∈ lw_tbl := List.forall_mem_cons.mpr ⟨seg_mem (i := 3) (List.mem_of_getElem? (i := 109) rfl), List.forall_mem_cons.mpr ⟨seg_mem (i := 3) (List.mem_of_getElem? (i := 112) rfl), List.forall_mem_cons.mpr ⟨seg_mem (i := 3) (List.mem_of_getElem? (i := 116) rfl), List.forall_mem_cons.mpr ⟨seg_mem (i := 3) (List.mem_of_getElem? (i := 135) rfl), List.forall_mem_cons.mpr ⟨seg_mem (i := 3) (List.mem_of_getElem? (i := 139) rfl), List.forall_mem_cons.mpr ⟨seg_mem (i := 3) (List.mem_of_getElem? (i := 151) rfl), List.forall_mem_cons.mpr ⟨seg_mem (i := 3) (List.mem_of_getElem? (i := 155) rfl), List.forall_mem_cons.mpr ⟨seg_mem (i := 3) (List.mem_of_getElem? (i := 194) rfl), List.forall_mem_cons.mpr ⟨seg_mem (i := 3) (List.mem_of_getElem? (i := 229) rfl), List.forall_mem_cons.mpr ⟨seg_mem (i := 4) (List.mem_of_getElem? (i := 12) rfl), List.forall_mem_cons.mpr ⟨seg_mem (i := 4) (List.mem_of_getElem? (i := 146) rfl), List.forall_mem_cons.mpr ⟨seg_mem (i := 3) (List.mem_of_getElem? (i := 28) rfl), fun _ h => absurd h List.not_mem_nil⟩⟩⟩⟩⟩⟩⟩⟩⟩⟩⟩⟩
theorem okw_10 : ∀ j ∈ List.range' 120 12, Cond.code (mYP j) (mBP j) (mLP j) (mRP j) ∈ lw_tbl := List.forall_mem_cons.mpr ⟨seg_mem (i := 3) (List.mem_of_getElem? (i := 40) rfl), List.forall_mem_cons.mpr ⟨seg_mem (i := 3) (List.mem_of_getElem? (i := 44) rfl), List.forall_mem_cons.mpr ⟨seg_mem (i := 4) (List.mem_of_getElem? (i := 123) rfl), List.forall_mem_cons.mpr ⟨seg_mem (i := 4) (List.mem_of_getElem? (i := 127) rfl), List.forall_mem_cons.mpr ⟨seg_mem (i := 4) (List.mem_of_getElem? (i := 135) rfl), List.forall_mem_cons.mpr ⟨seg_mem (i := 4) (List.mem_of_getElem? (i := 139) rfl), List.forall_mem_cons.mpr ⟨seg_mem (i := 4) (List.mem_of_getElem? (i := 143) rfl), List.forall_mem_cons.mpr ⟨seg_mem (i := 4) (List.mem_of_getElem? (i := 150) rfl), List.forall_mem_cons.mpr ⟨seg_mem (i := 4) (List.mem_of_getElem? (i := 154) rfl), List.forall_mem_cons.mpr ⟨seg_mem (i := 4) (List.mem_of_getElem? (i := 186) rfl), List.forall_mem_cons.mpr ⟨seg_mem (i := 4) (List.mem_of_getElem? (i := 190) rfl), List.forall_mem_cons.mpr ⟨seg_mem (i := 4) (List.mem_of_getElem? (i := 198) rfl), fun _ h => absurd h List.not_mem_nil⟩⟩⟩⟩⟩⟩⟩⟩⟩⟩⟩⟩
theorem okw_11 : ∀ j ∈ List.range' 132 12, Cond.code (mYP j) (mBP j) (mLP j) (mRP j) ∈ lw_tbl := List.forall_mem_cons.mpr ⟨seg_mem (i := 4) (List.mem_of_getElem? (i := 202) rfl), List.forall_mem_cons.mpr ⟨seg_mem (i := 4) (List.mem_of_getElem? (i := 225) rfl), List.forall_mem_cons.mpr ⟨seg_mem (i := 4) (List.mem_of_getElem? (i := 237) rfl), List.forall_mem_cons.mpr ⟨seg_mem (i := 5) (List.mem_of_getElem? (i := 7) rfl), List.forall_mem_cons.mpr ⟨seg_mem (i := 5) (List.mem_of_getElem? (i := 16) rfl), List.forall_mem_cons.mpr ⟨seg_mem (i := 5) (List.mem_of_getElem? (i := 20) rfl), List.forall_mem_cons.mpr ⟨seg_mem (i := 5) (List.mem_of_getElem? (i := 24) rfl), List.forall_mem_cons.mpr ⟨seg_mem (i := 5) (List.mem_of_getElem? (i := 32) rfl), List.forall_mem_cons.mpr ⟨seg_mem (i := 5) (List.mem_of_getElem? (i := 36) rfl), List.forall_mem_cons.mpr ⟨seg_mem (i := 5) (List.mem_of_getElem? (i := 78) rfl), List.forall_mem_cons.mpr ⟨seg_mem (i := 5) (List.mem_of_getElem? (i := 82) rfl), List.forall_mem_cons.mpr ⟨seg_mem (i := 5) (List.mem_of_getElem? (i := 90) rfl), fun _ h => absurd h List.not_mem_nil⟩⟩⟩⟩⟩⟩⟩⟩⟩⟩⟩⟩
theorem okw_12 : ∀ j ∈ List.range' 144 12, Cond.code (mYP j) (mBP j) (mLP j) (mRP j) ∈ lw_tbl := List.forall_mem_cons.mpr ⟨seg_mem (i := 5) (List.mem_of_getElem? (i := 94) rfl), List.forall_mem_cons.mpr ⟨seg_mem (i := 5) (List.mem_of_getElem? (i := 103) rfl), List.forall_mem_cons.mpr ⟨seg_mem (i := 5) (List.mem_of_getElem? (i := 135) rfl), List.forall_mem_cons.mpr ⟨seg_mem (i := 5) (List.mem_of_getElem? (i := 139) rfl), List.forall_mem_cons.mpr ⟨seg_mem (i := 5) (List.mem_of_getElem? (i := 148) rfl), List.forall_mem_cons.mpr ⟨seg_mem (i := 5) (List.mem_of_getElem? (i := 156) rfl), List.forall_mem_cons.mpr ⟨seg_mem (i := 5) (List.mem_of_getElem? (i := 197) rfl), List.forall_mem_cons.mpr ⟨seg_mem (i := 5) (List.mem_of_getElem? (i := 201) rfl), List.forall_mem_cons.mpr ⟨seg_mem (i := 6) (List.mem_of_getElem? (i := 3) rfl), List.forall_mem_cons.mpr ⟨seg_mem (i := 6) (List.mem_of_getElem? (i := 8) rfl), List.forall_mem_cons.mpr ⟨seg_mem (i := 6) (List.mem_of_getElem? (i := 12) rfl), List.forall_mem_cons.mpr ⟨seg_mem (i := 6) (List.mem_of_getElem? (i := 21) rfl), fun _ h => absurd h List.not_mem_nil⟩⟩⟩⟩⟩⟩⟩⟩⟩⟩⟩⟩
theorem okw_13 : ∀ j ∈ List.range' 156 12, Cond.code (mYP j) (mBP j) (mLP j) (mRP j) ∈ lw_tbl := List.forall_mem_cons.mpr ⟨seg_mem (i := 6) (List.mem_of_getElem? (i := 29) rfl), List.forall_mem_cons.mpr ⟨seg_mem (i := 6) (List.mem_of_getElem? (i := 33) rfl), List.forall_mem_cons.mpr ⟨seg_mem (i := 6) (List.mem_of_getElem? (i := 37) rfl), List.forall_mem_cons.mpr ⟨seg_mem (i := 6) (List.mem_of_getElem? (i := 41) rfl), List.forall_mem_cons.mpr ⟨seg_mem (i := 6) (List.mem_of_getElem? (i := 45) rfl), List.forall_mem_cons.mpr ⟨seg_mem (i := 7) (List.mem_of_getElem? (i := 60) rfl), List.forall_mem_cons.mpr ⟨seg_mem (i := 7) (List.mem_of_getElem? (i := 64) rfl), List.forall_mem_cons.mpr ⟨seg_mem (i := 7) (List.mem_of_getElem? (i := 68) rfl), List.forall_mem_cons.mpr ⟨seg_mem (i := 7) (List.mem_of_getElem? (i := 72) rfl), List.forall_mem_cons.mpr ⟨seg_mem (i := 7) (List.mem_of_getElem? (i := 76) rfl), List.forall_mem_cons.mpr ⟨seg_mem (i := 7) (List.mem_of_getElem? (i := 80) rfl), List.forall_mem_cons.mpr ⟨seg_mem (i := 7) (List.mem_of_getElem? (i := 84) rfl), fun _ h => absurd h List.not_mem_nil⟩⟩⟩⟩⟩⟩⟩⟩⟩⟩⟩⟩
theorem okw_14 : ∀ j ∈ List.range' 168 12, Cond.code (mYP j) (mBP j) (mLP j) (mRP j) ∈ lw_tbl := List.forall_mem_cons.mpr ⟨seg_mem (i := 7) (List.mem_of_getElem? (i := 87) rfl), List.forall_mem_cons.mpr ⟨seg_mem (i := 7) (List.mem_of_getElem? (i := 91) rfl), List.forall_mem_cons.mpr ⟨seg_mem (i := 7) (List.mem_of_getElem? (i := 94) rfl), List.forall_mem_cons.mpr ⟨seg_mem (i := 7) (List.mem_of_getElem? (i := 98) rfl), List.forall_mem_cons.mpr ⟨seg_mem (i := 7) (List.mem_of_getElem? (i := 101) rfl), List.forall_mem_cons.mpr ⟨seg_mem (i := 7) (List.mem_of_getElem? (i := 105) rfl), List.forall_mem_cons.mpr ⟨seg_mem (i := 7) (List.mem_of_getElem? (i := 109) rfl), List.forall_mem_cons.mpr ⟨seg_mem (i := 7) (List.mem_of_getElem? (i := 113) rfl), List.forall_mem_cons.mpr ⟨seg_mem (i := 7) (List.mem_of_getElem? (i := 117) rfl), List.forall_mem_cons.mpr ⟨seg_mem (i := 7) (List.mem_of_getElem? (i := 121) rfl), List.forall_mem_cons.mpr ⟨seg_mem (i := 7) (List.mem_of_getElem? (i := 127) rfl), List.forall_mem_cons.mpr ⟨seg_mem (i := 7) (List.mem_of_getElem? (i := 131) rfl), fun _ h => absurd h List.not_mem_nil⟩⟩⟩⟩⟩⟩⟩⟩⟩⟩⟩⟩
theorem okw_15 : ∀ j ∈ List.range' 180 12, Cond.code (mYP j) (mBP j) (mLP j) (mRP j) ∈ lw_tbl := List.forall_mem_cons.mpr ⟨seg_mem (i := 7) (List.mem_of_getElem? (i := 135) rfl), List.forall_mem_cons.mpr ⟨seg_mem (i := 7) (List.mem_of_getElem? (i := 139) rfl), List.forall_mem_cons.mpr ⟨seg_mem (i := 7) (List.mem_of_getElem? (i := 143) rfl), List.forall_mem_cons.mpr ⟨seg_mem (i := 7) (List.mem_of_getElem? (i := 147) rfl), List.forall_mem_cons.mpr ⟨seg_mem (i := 7) (List.mem_of_getElem? (i := 151) rfl), List.forall_mem_cons.mpr ⟨seg_mem (i := 7) (List.mem_of_getElem? (i := 155) rfl), List.forall_mem_cons.mpr ⟨seg_mem (i := 7) (List.mem_of_getElem? (i := 159) rfl), List.forall_mem_cons.mpr ⟨seg_mem (i := 7) (List.mem_of_getElem? (i := 163) rfl), List.forall_mem_cons.mpr ⟨seg_mem (i := 7) (List.mem_of_getElem? (i := 167) rfl), List.forall_mem_cons.mpr ⟨seg_mem (i := 7) (List.mem_of_getElem? (i := 171) rfl), List.forall_mem_cons.mpr ⟨seg_mem (i := 7) (List.mem_of_getElem? (i := 175) rfl), List.forall_mem_cons.mpr ⟨seg_mem (i := 7) (List.mem_of_getElem? (i := 179) rfl), fun _ h => absurd h List.not_mem_nil⟩⟩⟩⟩⟩⟩⟩⟩⟩⟩⟩⟩
theorem okw_16 : ∀ j ∈ List.range' 192 12, Cond.code (mYP j) (mBP j) (mLP j) (mRP j) ∈ lw_tbl := List.forall_mem_cons.mpr ⟨seg_mem (i := 7) (List.mem_of_getElem? (i := 183) rfl), List.forall_mem_cons.mpr ⟨seg_mem (i := 7) (List.mem_of_getElem? (i := 187) rfl), List.forall_mem_cons.mpr ⟨seg_mem (i := 7) (List.mem_of_getElem? (i := 191) rfl), List.forall_mem_cons.mpr ⟨seg_mem (i := 7) (List.mem_of_getElem? (i := 195) rfl), List.forall_mem_cons.mpr ⟨seg_mem (i := 7) (List.mem_of_getElem? (i := 199) rfl), List.forall_mem_cons.mpr ⟨seg_mem (i := 7) (List.mem_of_getElem? (i := 203) rfl), List.forall_mem_cons.mpr ⟨seg_mem (i := 7) (List.mem_of_getElem? (i := 207) rfl), List.forall_mem_cons.mpr ⟨seg_mem (i := 7) (List.mem_of_getElem? (i := 211) rfl), List.forall_mem_cons.mpr ⟨seg_mem (i := 7) (List.mem_of_getElem? (i := 215) rfl), List.forall_mem_cons.mpr ⟨seg_mem (i := 7) (List.mem_of_getElem? (i := 219) rfl), List.forall_mem_cons.mpr ⟨seg_mem (i := 7) (List.mem_of_getElem? (i := 223) rfl), List.forall_mem_cons.mpr ⟨seg_mem (i := 7) (List.mem_of_getElem? (i := 227) rfl), fun _ h => absurd h List.not_mem_nil⟩⟩⟩⟩⟩⟩⟩⟩⟩⟩⟩⟩
theorem okw_17 : ∀ j ∈ List.range' 204 12, Cond.code (mYP j) (mBP j) (mLP j) (mRP j) ∈ lw_tbl := List.forall_mem_cons.mpr ⟨seg_mem (i := 7) (List.mem_of_getElem? (i := 231) rfl), List.forall_mem_cons.mpr ⟨seg_mem (i := 7) (List.mem_of_getElem? (i := 235) rfl), List.forall_mem_cons.mpr ⟨seg_mem (i := 7) (List.mem_of_getElem? (i := 239) rfl), List.forall_mem_cons.mpr ⟨seg_mem (i := 8) (List.mem_of_getElem? (i := 3) rfl), List.forall_mem_cons.mpr ⟨seg_mem (i := 8) (List.mem_of_getElem? (i := 9) rfl), List.forall_mem_cons.mpr ⟨seg_mem (i := 8) (List.mem_of_getElem? (i := 12) rfl), List.forall_mem_cons.mpr ⟨seg_mem (i := 8) (List.mem_of_getElem? (i := 16) rfl), List.forall_mem_cons.mpr ⟨seg_mem (i := 8) (List.mem_of_getElem? (i := 20) rfl), List.forall_mem_cons.mpr ⟨seg_mem (i := 8) (List.mem_of_getElem? (i := 24) rfl), List.forall_mem_cons.mpr ⟨seg_mem (i := 8) (List.mem_of_getElem? (i := 28) rfl), List.forall_mem_cons.mpr ⟨seg_mem (i := 8) (List.mem_of_getElem? (i := 32) rfl), List.forall_mem_cons.mpr ⟨seg_mem (i := 8) (List.mem_of_getElem? (i := 36) rfl), fun _ h => absurd h List.not_mem_nil⟩⟩⟩⟩⟩⟩⟩⟩⟩⟩⟩⟩
theorem okw_18 : ∀ j ∈ List.range' 216 12, Cond.code (mYP j) (mBP j) (mLP j) (mRP j) ∈ lw_tbl := List.forall_mem_cons.mpr ⟨seg_mem (i := 8) (List.mem_of_getElem? (i := 40) rfl), List.forall_mem_cons.mpr ⟨seg_mem (i := 8) (List.mem_of_getElem? (i := 44) rfl), List.forall_mem_cons.mpr ⟨seg_mem (i := 8) (List.mem_of_getElem? (i := 48) rfl), List.forall_mem_cons.mpr ⟨seg_mem (i := 8) (List.mem_of_getElem? (i := 53) rfl), List.forall_mem_cons.mpr ⟨seg_mem (i := 8) (List.mem_of_getElem? (i := 57) rfl), List.forall_mem_cons.mpr ⟨seg_mem (i := 8) (List.mem_of_getElem? (i := 61) rfl), List.forall_mem_cons.mpr ⟨seg_mem (i := 8) (List.mem_of_getElem? (i := 65) rfl), List.forall_mem_cons.mpr ⟨seg_mem (i := 8) (List.mem_of_getElem? (i := 69) rfl), List.forall_mem_cons.mpr ⟨seg_mem (i := 8) (List.mem_of_getElem? (i := 73) rfl), List.forall_mem_cons.mpr ⟨seg_mem (i := 8) (List.mem_of_getElem? (i := 77) rfl), List.forall_mem_cons.mpr ⟨seg_mem (i := 8) (List.mem_of_getElem? (i := 81) rfl), List.forall_mem_cons.mpr ⟨seg_mem (i := 8) (List.mem_of_getElem? (i := 85) rfl), fun _ h => absurd h List.not_mem_nil⟩⟩⟩⟩⟩⟩⟩⟩⟩⟩⟩⟩
theorem okw_19 : ∀ j ∈ List.range' 228 12, Cond.code (mYP j) (mBP j) (mLP j) (mRP j) ∈ lw_tbl := List.forall_mem_cons.mpr ⟨seg_mem (i := 8) (List.mem_of_getElem? (i := 89) rfl), List.forall_mem_cons.mpr ⟨seg_mem (i := 8) (List.mem_of_getElem? (i := 93) rfl), List.forall_mem_cons.mpr ⟨seg_mem (i := 8) (List.mem_of_getElem? (i := 98) rfl), List.forall_mem_cons.mpr ⟨seg_mem (i := 8) (List.mem_of_getElem? (i := 103) rfl), List.forall_mem_cons.mpr ⟨seg_mem (i := 8) (List.mem_of_getElem? (i := 107) rfl), List.forall_mem_cons.mpr ⟨seg_mem (i := 8) (List.mem_of_getElem? (i := 111) rfl), List.forall_mem_cons.mpr ⟨seg_mem (i := 8) (List.mem_of_getElem? (i := 115) rfl), List.forall_mem_cons.mpr ⟨seg_mem (i := 8) (List.mem_of_getElem? (i := 120) rfl), List.forall_mem_cons.mpr ⟨seg_mem (i := 8) (List.mem_of_getElem? (i := 124) rfl), List.forall_mem_cons.mpr ⟨seg_mem (i := 8) (List.mem_of_getElem? (i := 128) rfl), List.forall_mem_cons.mpr ⟨seg_mem (i := 8) (List.mem_of_getElem? (i := 132) rfl), List.forall_mem_cons.mpr ⟨seg_mem (i := 8) (List.mem_of_getElem? (i := 136) rfl), fun _ h => absurd h List.not_mem_nil⟩⟩⟩⟩⟩⟩⟩⟩⟩⟩⟩⟩
theorem okw_20 : ∀ j ∈ List.range' 240 12, Cond.code (mYP j) (mBP j) (mLP j) (mRP j) ∈ lw_tbl := List.forall_mem_cons.mpr ⟨seg_mem (i := 8) (List.mem_of_getElem? (i := 140) rfl), List.forall_mem_cons.mpr ⟨seg_mem (i := 8) (List.mem_of_getElem? (i := 144) rfl), List.forall_mem_cons.mpr ⟨seg_mem (i := 8) (List.mem_of_getElem? (i := 148) rfl), List.forall_mem_cons.mpr ⟨seg_mem (i := 8) (List.mem_of_getElem? (i := 152) rfl), List.forall_mem_cons.mpr ⟨seg_mem (i := 8) (List.mem_of_getElem? (i := 156) rfl), List.forall_mem_cons.mpr ⟨seg_mem (i := 8) (List.mem_of_getElem? (i := 164) rfl), List.forall_mem_cons.mpr ⟨seg_mem (i := 8) (List.mem_of_getElem? (i := 168) rfl), List.forall_mem_cons.mpr ⟨seg_mem (i := 8) (List.mem_of_getElem? (i := 172) rfl), List.forall_mem_cons.mpr ⟨seg_mem (i := 8) (List.mem_of_getElem? (i := 176) rfl), List.forall_mem_cons.mpr ⟨seg_mem (i := 8) (List.mem_of_getElem? (i := 180) rfl), List.forall_mem_cons.mpr ⟨seg_mem (i := 8) (List.mem_of_getElem? (i := 185) rfl), List.forall_mem_cons.mpr ⟨seg_mem (i := 8) (List.mem_of_getElem? (i := 189) rfl), fun _ h => absurd h List.not_mem_nil⟩⟩⟩⟩⟩⟩⟩⟩⟩⟩⟩⟩
theorem okw_21 : ∀ j ∈ List.range' 252 12, Cond.code (mYP j) (mBP j) (mLP j) (mRP j) ∈ lw_tbl := List.forall_mem_cons.mpr ⟨seg_mem (i := 8) (List.mem_of_getElem? (i := 192) rfl), List.forall_mem_cons.mpr ⟨seg_mem (i := 8) (List.mem_of_getElem? (i := 196) rfl), List.forall_mem_cons.mpr ⟨seg_mem (i := 8) (List.mem_of_getElem? (i := 200) rfl), List.forall_mem_cons.mpr ⟨seg_mem (i := 8) (List.mem_of_getElem? (i := 204) rfl), List.forall_mem_cons.mpr ⟨seg_mem (i := 8) (List.mem_of_getElem? (i := 208) rfl), List.forall_mem_cons.mpr ⟨seg_mem (i := 8) (List.mem_of_getElem? (i := 213) rfl), List.forall_mem_cons.mpr ⟨seg_mem (i := 8) (List.mem_of_getElem? (i := 219) rfl), List.forall_mem_cons.mpr ⟨seg_mem (i := 8) (List.mem_of_getElem? (i := 223) rfl), List.forall_mem_cons.mpr ⟨seg_mem (i := 8) (List.mem_of_getElem? (i := 227) rfl), List.forall_mem_cons.mpr ⟨seg_mem (i := 8) (List.mem_of_getElem? (i := 232) rfl), List.forall_mem_cons.mpr ⟨seg_mem (i := 8) (List.mem_of_getElem? (i := 236) rfl), List.forall_mem_cons.mpr ⟨seg_mem (i := 9) (List.mem_of_getElem? (i := 0) rfl), fun _ h => absurd h List.not_mem_nil⟩⟩⟩⟩⟩⟩⟩⟩⟩⟩⟩⟩
theorem okw_22 : ∀ j ∈ List.range' 264 12, Cond.code (mYP j) (mBP j) (mLP j) (mRP j) ∈ lw_tbl := List.forall_mem_cons.mpr ⟨seg_mem (i := 9) (List.mem_of_getElem? (i := 4) rfl), List.forall_mem_cons.mpr ⟨seg_mem (i := 9) (List.mem_of_getElem? (i := 8) rfl), List.forall_mem_cons.mpr ⟨seg_mem (i := 9) (List.mem_of_getElem? (i := 13) rfl), List.forall_mem_cons.mpr ⟨seg_mem (i := 9) (List.mem_of_getElem? (i := 18) rfl), List.forall_mem_cons.mpr ⟨seg_mem (i := 9) (List.mem_of_getElem? (i := 22) rfl), List.forall_mem_cons.mpr ⟨seg_mem (i := 9) (List.mem_of_getElem? (i := 26) rfl), List.forall_mem_cons.mpr ⟨seg_mem (i := 9) (List.mem_of_getElem? (i := 30) rfl), List.forall_mem_cons.mpr ⟨seg_mem (i := 9) (List.mem_of_getElem? (i := 34) rfl), List.forall_mem_cons.mpr ⟨seg_mem (i := 9) (List.mem_of_getElem? (i := 38) rfl), List.forall_mem_cons.mpr ⟨seg_mem (i := 9) (List.mem_of_getElem? (i := 42) rfl), List.forall_mem_cons.mpr ⟨seg_mem (i := 9) (List.mem_of_getElem? (i := 46) rfl), List.forall_mem_cons.mpr ⟨seg_mem (i := 4) (List.mem_of_getElem? (i := 70) rfl), fun _ h => absurd h List.not_mem_nil⟩⟩⟩⟩⟩⟩⟩⟩⟩⟩⟩⟩
theorem okw_23 : ∀ j ∈ List.range' 276 7, Cond.code (mYP j) (mBP j) (mLP j) (mRP j) ∈ lw_tbl := List.forall_mem_cons.mpr ⟨seg_mem (i := 4) (List.mem_of_getElem? (i := 73) rfl), List.forall_mem_cons.mpr ⟨seg_mem (i := 3) (List.mem_of_getElem? (i := 162) rfl), List.forall_mem_cons.mpr ⟨seg_mem (i := 3) (List.mem_of_getElem? (i := 197) rfl), List.forall_mem_cons.mpr ⟨seg_mem (i := 4) (List.mem_of_getElem? (i := 67) rfl), List.forall_mem_cons.mpr ⟨seg_mem (i := 4) (List.mem_of_getElem? (i := 64) rfl), List.forall_mem_cons.mpr ⟨seg_mem (i := 3) (List.mem_of_getElem? (i := 127) rfl), List.forall_mem_cons.mpr ⟨seg_mem (i := 5) (List.mem_of_getElem? (i := 44) rfl), fun _ h => absurd h List.not_mem_nil⟩⟩⟩⟩⟩⟩⟩
theorem okc_0 : (List.range' 0 12).all chkJ = true := by decide +kernel
theorem okc_1 : (List.range' 12 12).all chkJ = true := by decide +kernel
theorem okc_2 : (List.range' 24 12).all chkJ = true := by decide +kernel
theorem okc_3 : (List.range' 36 12).all chkJ = true := by decide +kernel
theorem okc_4 : (List.range' 48 12).all chkJ = true := by decide +kernel
theorem okc_5 : (List.range' 60 12).all chkJ = true := by decide +kernel
theorem okc_6 : (List.range' 72 12).all chkJ = true := by decide +kernel
theorem okc_7 : (List.range' 84 12).all chkJ = true := by decide +kernel
theorem okc_8 : (List.range' 96 12).all chkJ = true := by decide +kernel
theorem okc_9 : (List.range' 108 12).all chkJ = true := by decide +kernel
theorem okc_10 : (List.range' 120 12).all chkJ = true := by decide +kernel
theorem okc_11 : (List.range' 132 12).all chkJ = true := by decide +kernel
theorem okc_12 : (List.range' 144 12).all chkJ = true := by decide +kernel
theorem okc_13 : (List.range' 156 12).all chkJ = true := by decide +kernel
theorem okc_14 : (List.range' 168 12).all chkJ = true := by decide +kernel
theorem okc_15 : (List.range' 180 12).all chkJ = true := by decide +kernel
theorem okc_16 : (List.range' 192 12).all chkJ = true := by decide +kernel
theorem okc_17 : (List.range' 204 12).all chkJ = true := by decide +kernel
theorem okc_18 : (List.range' 216 12).all chkJ = true := by decide +kernel
theorem okc_19 : (List.range' 228 12).all chkJ = true := by decide +kernel
theorem okc_20 : (List.range' 240 12).all chkJ = true := by decide +kernel
theorem okc_21 : (List.range' 252 12).all chkJ = true := by decide +kernel
theorem okc_22 : (List.range' 264 12).all chkJ = true := by decide +kernel
theorem okc_23 : (List.range' 276 7).all chkJ = true := by decide +kernel
theorem okW {j : Nat} (h : j < 283) : Cond.code (mYP j) (mBP j) (mLP j) (mRP j) ∈ lw_tbl := by
  have key : ∀ {a n : Nat}, (∀ j ∈ List.range' a n, Cond.code (mYP j) (mBP j) (mLP j) (mRP j) ∈ lw_tbl) → a ≤ j → j < a + n → Cond.code (mYP j) (mBP j) (mLP j) (mRP j) ∈ lw_tbl := fun h h1 h2 => h j (List.mem_range'_1.mpr ⟨h1, h2⟩)
  by_cases h0 : j < 12
  · exact key okw_0 (by omega) (by omega)
  by_cases h12 : j < 24
  · exact key okw_1 (by omega) (by omega)
  by_cases h24 : j < 36
  · exact key okw_2 (by omega) (by omega)
  by_cases h36 : j < 48
  · exact key okw_3 (by omega) (by omega)
  by_cases h48 : j < 60
  · exact key okw_4 (by omega) (by omega)
  by_cases h60 : j < 72
  · exact key okw_5 (by omega) (by omega)
  by_cases h72 : j < 84
  · exact key okw_6 (by omega) (by omega)
  by_cases h84 : j < 96
  · exact key okw_7 (by omega) (by omega)
  by_cases h96 : j < 108
  · exact key okw_8 (by omega) (by omega)
  by_cases h108 : j < 120
  · exact key okw_9 (by omega) (by omega)
  by_cases h120 : j < 132
  · exact key okw_10 (by omega) (by omega)
  by_cases h132 : j < 144
  · exact key okw_11 (by omega) (by omega)
  by_cases h144 : j < 156
  · exact key okw_12 (by omega) (by omega)
  by_cases h156 : j < 168
  · exact key okw_13 (by omega) (by omega)
  by_cases h168 : j < 180
  · exact key okw_14 (by omega) (by omega)
  by_cases h180 : j < 192
  · exact key okw_15 (by omega) (by omega)
  by_cases h192 : j < 204
  · exact key okw_16 (by omega) (by omega)
  by_cases h204 : j < 216
  · exact key okw_17 (by omega) (by omega)
  by_cases h216 : j < 228
  · exact key okw_18 (by omega) (by omega)
  by_cases h228 : j < 240
  · exact key okw_19 (by omega) (by omega)
  by_cases h240 : j < 252
  · exact key okw_20 (by omega) (by omega)
  by_cases h252 : j < 264
  · exact key okw_21 (by omega) (by omega)
  by_cases h264 : j < 276
  · exact key okw_22 (by omega) (by omega)
  exact key okw_23 (by omega) (by omega)
theorem okJ {j : Nat} (h : j < 283) : chkJ j = true := by
  have key : ∀ {a n : Nat}, (List.range' a n).all chkJ = true → a ≤ j → j < a + n → chkJ j = true := fun h h1 h2 => List.all_eq_true.mp h j (List.mem_range'_1.mpr ⟨h1, h2⟩)
  by_cases h0 : j < 12
  · exact key okc_0 (by omega) (by omega)
  by_cases h12 : j < 24
  · exact key okc_1 (by omega) (by omega)
  by_cases h24 : j < 36
  · exact key okc_2 (by omega) (by omega)
  by_cases h36 : j < 48
  · exact key okc_3 (by omega) (by omega)
  by_cases h48 : j < 60
  · exact key okc_4 (by omega) (by omega)
  by_cases h60 : j < 72
  · exact key okc_5 (by omega) (by omega)
  by_cases h72 : j < 84
  · exact key okc_6 (by omega) (by omega)
  by_cases h84 : j < 96
  · exact key okc_7 (by omega) (by omega)
  by_cases h96 : j < 108
  · exact key okc_8 (by omega) (by omega)
  by_cases h108 : j < 120
  · exact key okc_9 (by omega) (by omega)
  by_cases h120 : j < 132
  · exact key okc_10 (by omega) (by omega)
  by_cases h132 : j < 144
  · exact key okc_11 (by omega) (by omega)
  by_cases h144 : j < 156
  · exact key okc_12 (by omega) (by omega)
  by_cases h156 : j < 168
  · exact key okc_13 (by omega) (by omega)
  by_cases h168 : j < 180
  · exact key okc_14 (by omega) (by omega)
  by_cases h180 : j < 192
  · exact key okc_15 (by omega) (by omega)
  by_cases h192 : j < 204
  · exact key okc_16 (by omega) (by omega)
  by_cases h204 : j < 216
  · exact key okc_17 (by omega) (by omega)
  by_cases h216 : j < 228
  · exact key okc_18 (by omega) (by omega)
  by_cases h228 : j < 240
  · exact key okc_19 (by omega) (by omega)
  by_cases h240 : j < 252
  · exact key okc_20 (by omega) (by omega)
  by_cases h252 : j < 264
  · exact key okc_21 (by omega) (by omega)
  by_cases h264 : j < 276
  · exact key okc_22 (by omega) (by omega)
  exact key okc_23 (by omega) (by omega)
theorem mNP_lt {j : Nat} (h : mNP j < 99) : j < 283 := by
  rcases Nat.lt_or_ge j 283 with w | w
  · exact w
  · exfalso
    unfold mNP at h
    have : Nat.blt j 283 = false := by
      cases hz : Nat.blt j 283 with
      | false => rfl
      | true => exact absurd (Nat.ble_eq.mp hz) (by omega)
    rw [this] at h
    exact absurd (show 99 < 99 from h) (Nat.lt_irrefl 99)
theorem cdM_none {j : Nat} (h : 283 ≤ j) : cdM j = [] := by
  unfold cdM
  have : Nat.blt j 283 = false := by
    cases hz : Nat.blt j 283 with
    | false => rfl
    | true => exact absurd (Nat.ble_eq.mp hz) (by omega)
  rw [this]
  rfl
theorem mNP_all : ∀ j, j < 283 → mNP j < 99 := by decide +kernel
theorem shP_none : ∀ k, 121 ≤ k → shP k = .inl (9, 0) := by
  intro k h
  unfold shP
  have : Nat.blt k 121 = false := by
    cases hz : Nat.blt k 121 with
    | false => rfl
    | true => exact absurd (Nat.ble_eq.mp hz) (by omega)
  rw [this]
  rfl
def okSh (k : Nat) : Bool := match shP k with
  | .inr (ci, fl) => (List.range fl.length).all (fun b => match fl[b]? with
    | some 0 => !chkP ci b .long
    | some 1 => !chkP ci b .int
    | _ => true)
  | _ => true
theorem okSh_all : (List.range 121).all okSh = true := by decide +kernel
theorem okSh_at {k ci b q : Nat} {fl : List Nat} (h : shP k = .inr (ci, fl)) (hq : fl[b]? = some q) : (match some q with
    | some 0 => !chkP ci b .long
    | some 1 => !chkP ci b .int
    | _ => true) = true := by
  have hk : k < 121 := by
    rcases Nat.lt_or_ge k 121 with w | w
    · exact w
    · rw [shP_none k w] at h; cases h
  have h1 := List.all_eq_true.mp okSh_all k (List.mem_range.mpr hk)
  unfold okSh at h1
  rw [h] at h1
  have h2 := List.all_eq_true.mp h1 b (List.mem_range.mpr (List.getElem?_eq_some_iff.mp hq).1)
  rw [hq] at h2
  exact h2
theorem tokP : TOK shP 121 mYP mNP mBP mLP mRP mPP cdP := by
  refine ⟨shP_none, fun {k ci b fl} h hq hc => ?_, fun {k ci b fl} h hq hc => ?_, fun a ha => ?_, fun j pc E hE => ?_⟩
  · have := okSh_at h hq
    rw [hc] at this
    cases this
  · have := okSh_at h hq
    rw [hc] at this
    cases this
  · have h1 := mNP_lt ha
    have h2 := okJ h1
    unfold chkJ at h2
    rw [Bool.and_eq_true] at h2
    exact ⟨List.mem_filter.mpr ⟨okW h1, rfl⟩, h2.1⟩
  · rcases Nat.lt_or_ge j 283 with w | w
    · have h2 := okJ w
      unfold chkJ at h2
      rw [Bool.and_eq_true] at h2
      exact ⟨mNP_all j w, lk_chk h2.2 hE⟩
    · unfold cdP at hE
      rw [cdM_none w] at hE
      cases hE
