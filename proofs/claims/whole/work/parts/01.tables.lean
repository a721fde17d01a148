-- ===== PART A: goes FIRST, ahead of the names: the tables' words, and 'selects' of the private methods out of them =====
/-- a private method of a class that the tables say can be made, by its rows of tables_1 -/
def lw_okq (q : MethodName × Nat) : Prop := (q.1.cls ≠ "java/lang/invoke/MethodHandle" ∧ q.1.cls ≠ "java/lang/invoke/VarHandle") ∧ Cond.instantiable q.1.cls q.2 ∈ tables_1 ∧ Cond.privateMethod q.1 ∈ tables_1 ∧ Cond.instanceMethod q.1 ∈ tables_1
theorem lw_p0 : lw_okq (⟨"EvenRota$Tape", "hasRoom", "()Z"⟩, 2) := ⟨⟨by decide +kernel, by decide +kernel⟩, List.mem_of_getElem? (i := 30) (by decide +kernel), List.mem_of_getElem? (i := 510) (by decide +kernel), List.mem_of_getElem? (i := 511) (by decide +kernel)⟩
theorem lw_p1 : lw_okq (⟨"EvenRota$Tape", "append", "(I)V"⟩, 2) := ⟨⟨by decide +kernel, by decide +kernel⟩, List.mem_of_getElem? (i := 30) (by decide +kernel), List.mem_of_getElem? (i := 514) (by decide +kernel), List.mem_of_getElem? (i := 515) (by decide +kernel)⟩
theorem lw_p2 : lw_okq (⟨"EvenRota$Tokens", "divide", "(LEvenRota$Tape;)V"⟩, 4) := ⟨⟨by decide +kernel, by decide +kernel⟩, List.mem_of_getElem? (i := 48) (by decide +kernel), List.mem_of_getElem? (i := 526) (by decide +kernel), List.mem_of_getElem? (i := 527) (by decide +kernel)⟩
theorem lw_p3 : lw_okq (⟨"EvenRota$Tokens", "addWord", "(LEvenRota$Tape;IIZ)V"⟩, 4) := ⟨⟨by decide +kernel, by decide +kernel⟩, List.mem_of_getElem? (i := 48) (by decide +kernel), List.mem_of_getElem? (i := 539) (by decide +kernel), List.mem_of_getElem? (i := 540) (by decide +kernel)⟩
theorem lw_p4 : lw_okq (⟨"EvenRota$Tokens", "add", "(III)V"⟩, 4) := ⟨⟨by decide +kernel, by decide +kernel⟩, List.mem_of_getElem? (i := 48) (by decide +kernel), List.mem_of_getElem? (i := 587) (by decide +kernel), List.mem_of_getElem? (i := 588) (by decide +kernel)⟩
theorem lw_p5 : lw_okq (⟨"EvenRota$Tokens", "addNumber", "(LEvenRota$Tape;IIZ)V"⟩, 4) := ⟨⟨by decide +kernel, by decide +kernel⟩, List.mem_of_getElem? (i := 48) (by decide +kernel), List.mem_of_getElem? (i := 594) (by decide +kernel), List.mem_of_getElem? (i := 595) (by decide +kernel)⟩
theorem lw_p6 : lw_okq (⟨"EvenRota$Reader", "readHouse", "(I)Z"⟩, 8) := ⟨⟨by decide +kernel, by decide +kernel⟩, List.mem_of_getElem? (i := 158) (by decide +kernel), List.mem_of_getElem? (i := 598) (by decide +kernel), List.mem_of_getElem? (i := 599) (by decide +kernel)⟩
theorem lw_p7 : lw_okq (⟨"EvenRota$House", "clear", "()V"⟩, 14) := ⟨⟨by decide +kernel, by decide +kernel⟩, List.mem_of_getElem? (i := 67) (by decide +kernel), List.mem_of_getElem? (i := 602) (by decide +kernel), List.mem_of_getElem? (i := 603) (by decide +kernel)⟩
theorem lw_p8 : lw_okq (⟨"EvenRota$Tests", "clear", "()V"⟩, 8) := ⟨⟨by decide +kernel, by decide +kernel⟩, List.mem_of_getElem? (i := 166) (by decide +kernel), List.mem_of_getElem? (i := 609) (by decide +kernel), List.mem_of_getElem? (i := 610) (by decide +kernel)⟩
theorem lw_p9 : lw_okq (⟨"EvenRota$Tokens", "sortAt", "(I)I"⟩, 4) := ⟨⟨by decide +kernel, by decide +kernel⟩, List.mem_of_getElem? (i := 48) (by decide +kernel), List.mem_of_getElem? (i := 613) (by decide +kernel), List.mem_of_getElem? (i := 614) (by decide +kernel)⟩
theorem lw_p10 : lw_okq (⟨"EvenRota$Tokens", "ownAt", "(I)I"⟩, 4) := ⟨⟨by decide +kernel, by decide +kernel⟩, List.mem_of_getElem? (i := 48) (by decide +kernel), List.mem_of_getElem? (i := 617) (by decide +kernel), List.mem_of_getElem? (i := 618) (by decide +kernel)⟩
theorem lw_p11 : lw_okq (⟨"EvenRota$Reader", "readDays", "()V"⟩, 8) := ⟨⟨by decide +kernel, by decide +kernel⟩, List.mem_of_getElem? (i := 158) (by decide +kernel), List.mem_of_getElem? (i := 621) (by decide +kernel), List.mem_of_getElem? (i := 622) (by decide +kernel)⟩
theorem lw_p12 : lw_okq (⟨"EvenRota$Reader", "number", "(II)I"⟩, 8) := ⟨⟨by decide +kernel, by decide +kernel⟩, List.mem_of_getElem? (i := 158) (by decide +kernel), List.mem_of_getElem? (i := 625) (by decide +kernel), List.mem_of_getElem? (i := 626) (by decide +kernel)⟩
theorem lw_p13 : lw_okq (⟨"EvenRota$Tokens", "valueAt", "(I)I"⟩, 4) := ⟨⟨by decide +kernel, by decide +kernel⟩, List.mem_of_getElem? (i := 48) (by decide +kernel), List.mem_of_getElem? (i := 629) (by decide +kernel), List.mem_of_getElem? (i := 630) (by decide +kernel)⟩
theorem lw_p14 : lw_okq (⟨"EvenRota$Tokens", "placeAt", "(I)I"⟩, 4) := ⟨⟨by decide +kernel, by decide +kernel⟩, List.mem_of_getElem? (i := 48) (by decide +kernel), List.mem_of_getElem? (i := 633) (by decide +kernel), List.mem_of_getElem? (i := 634) (by decide +kernel)⟩
theorem lw_p15 : lw_okq (⟨"EvenRota$Reader", "fail", "(II)V"⟩, 8) := ⟨⟨by decide +kernel, by decide +kernel⟩, List.mem_of_getElem? (i := 158) (by decide +kernel), List.mem_of_getElem? (i := 637) (by decide +kernel), List.mem_of_getElem? (i := 638) (by decide +kernel)⟩
def lw_privs_1 : List (MethodName × Nat) := [(⟨"EvenRota$Tape", "hasRoom", "()Z"⟩, 2), (⟨"EvenRota$Tape", "append", "(I)V"⟩, 2), (⟨"EvenRota$Tokens", "divide", "(LEvenRota$Tape;)V"⟩, 4), (⟨"EvenRota$Tokens", "addWord", "(LEvenRota$Tape;IIZ)V"⟩, 4), (⟨"EvenRota$Tokens", "add", "(III)V"⟩, 4), (⟨"EvenRota$Tokens", "addNumber", "(LEvenRota$Tape;IIZ)V"⟩, 4), (⟨"EvenRota$Reader", "readHouse", "(I)Z"⟩, 8), (⟨"EvenRota$House", "clear", "()V"⟩, 14), (⟨"EvenRota$Tests", "clear", "()V"⟩, 8), (⟨"EvenRota$Tokens", "sortAt", "(I)I"⟩, 4), (⟨"EvenRota$Tokens", "ownAt", "(I)I"⟩, 4), (⟨"EvenRota$Reader", "readDays", "()V"⟩, 8), (⟨"EvenRota$Reader", "number", "(II)I"⟩, 8), (⟨"EvenRota$Tokens", "valueAt", "(I)I"⟩, 4), (⟨"EvenRota$Tokens", "placeAt", "(I)I"⟩, 4), (⟨"EvenRota$Reader", "fail", "(II)V"⟩, 8)]
theorem lw_r1 : ∀ q ∈ lw_privs_1, lw_okq q := List.forall_mem_cons.mpr ⟨lw_p0, List.forall_mem_cons.mpr ⟨lw_p1, List.forall_mem_cons.mpr ⟨lw_p2, List.forall_mem_cons.mpr ⟨lw_p3, List.forall_mem_cons.mpr ⟨lw_p4, List.forall_mem_cons.mpr ⟨lw_p5, List.forall_mem_cons.mpr ⟨lw_p6, List.forall_mem_cons.mpr ⟨lw_p7, List.forall_mem_cons.mpr ⟨lw_p8, List.forall_mem_cons.mpr ⟨lw_p9, List.forall_mem_cons.mpr ⟨lw_p10, List.forall_mem_cons.mpr ⟨lw_p11, List.forall_mem_cons.mpr ⟨lw_p12, List.forall_mem_cons.mpr ⟨lw_p13, List.forall_mem_cons.mpr ⟨lw_p14, List.forall_mem_cons.mpr ⟨lw_p15, fun _ h => absurd h List.not_mem_nil⟩⟩⟩⟩⟩⟩⟩⟩⟩⟩⟩⟩⟩⟩⟩⟩
theorem lw_p16 : lw_okq (⟨"EvenRota$Reader", "readPerson", "()V"⟩, 8) := ⟨⟨by decide +kernel, by decide +kernel⟩, List.mem_of_getElem? (i := 158) (by decide +kernel), List.mem_of_getElem? (i := 644) (by decide +kernel), List.mem_of_getElem? (i := 645) (by decide +kernel)⟩
theorem lw_p17 : lw_okq (⟨"EvenRota$Reader", "beginCounted", "(II)V"⟩, 8) := ⟨⟨by decide +kernel, by decide +kernel⟩, List.mem_of_getElem? (i := 158) (by decide +kernel), List.mem_of_getElem? (i := 648) (by decide +kernel), List.mem_of_getElem? (i := 649) (by decide +kernel)⟩
theorem lw_p18 : lw_okq (⟨"EvenRota$Reader", "newName", "()I"⟩, 8) := ⟨⟨by decide +kernel, by decide +kernel⟩, List.mem_of_getElem? (i := 158) (by decide +kernel), List.mem_of_getElem? (i := 652) (by decide +kernel), List.mem_of_getElem? (i := 653) (by decide +kernel)⟩
theorem lw_p19 : lw_okq (⟨"EvenRota$Reader", "name", "()I"⟩, 8) := ⟨⟨by decide +kernel, by decide +kernel⟩, List.mem_of_getElem? (i := 158) (by decide +kernel), List.mem_of_getElem? (i := 656) (by decide +kernel), List.mem_of_getElem? (i := 657) (by decide +kernel)⟩
theorem lw_p20 : lw_okq (⟨"EvenRota$House", "personCalled", "(I)I"⟩, 14) := ⟨⟨by decide +kernel, by decide +kernel⟩, List.mem_of_getElem? (i := 67) (by decide +kernel), List.mem_of_getElem? (i := 660) (by decide +kernel), List.mem_of_getElem? (i := 661) (by decide +kernel)⟩
theorem lw_p21 : lw_okq (⟨"EvenRota$House", "kindCalled", "(I)I"⟩, 14) := ⟨⟨by decide +kernel, by decide +kernel⟩, List.mem_of_getElem? (i := 67) (by decide +kernel), List.mem_of_getElem? (i := 664) (by decide +kernel), List.mem_of_getElem? (i := 665) (by decide +kernel)⟩
theorem lw_p22 : lw_okq (⟨"EvenRota$Reader", "expectOwn", "(I)V"⟩, 8) := ⟨⟨by decide +kernel, by decide +kernel⟩, List.mem_of_getElem? (i := 158) (by decide +kernel), List.mem_of_getElem? (i := 668) (by decide +kernel), List.mem_of_getElem? (i := 669) (by decide +kernel)⟩
theorem lw_p23 : lw_okq (⟨"EvenRota$Tokens", "isOwn", "(II)Z"⟩, 4) := ⟨⟨by decide +kernel, by decide +kernel⟩, List.mem_of_getElem? (i := 48) (by decide +kernel), List.mem_of_getElem? (i := 672) (by decide +kernel), List.mem_of_getElem? (i := 673) (by decide +kernel)⟩
theorem lw_p24 : lw_okq (⟨"EvenRota$Reader", "readKind", "()V"⟩, 8) := ⟨⟨by decide +kernel, by decide +kernel⟩, List.mem_of_getElem? (i := 158) (by decide +kernel), List.mem_of_getElem? (i := 679) (by decide +kernel), List.mem_of_getElem? (i := 680) (by decide +kernel)⟩
theorem lw_p25 : lw_okq (⟨"EvenRota$Reader", "readTested", "(Z)V"⟩, 8) := ⟨⟨by decide +kernel, by decide +kernel⟩, List.mem_of_getElem? (i := 158) (by decide +kernel), List.mem_of_getElem? (i := 683) (by decide +kernel), List.mem_of_getElem? (i := 684) (by decide +kernel)⟩
theorem lw_p26 : lw_okq (⟨"EvenRota$Reader", "beginOther", "()V"⟩, 8) := ⟨⟨by decide +kernel, by decide +kernel⟩, List.mem_of_getElem? (i := 158) (by decide +kernel), List.mem_of_getElem? (i := 687) (by decide +kernel), List.mem_of_getElem? (i := 688) (by decide +kernel)⟩
theorem lw_p27 : lw_okq (⟨"EvenRota$Reader", "knownPerson", "(I)I"⟩, 8) := ⟨⟨by decide +kernel, by decide +kernel⟩, List.mem_of_getElem? (i := 158) (by decide +kernel), List.mem_of_getElem? (i := 691) (by decide +kernel), List.mem_of_getElem? (i := 692) (by decide +kernel)⟩
theorem lw_p28 : lw_okq (⟨"EvenRota$Reader", "knownKind", "()I"⟩, 8) := ⟨⟨by decide +kernel, by decide +kernel⟩, List.mem_of_getElem? (i := 158) (by decide +kernel), List.mem_of_getElem? (i := 695) (by decide +kernel), List.mem_of_getElem? (i := 696) (by decide +kernel)⟩
theorem lw_p29 : lw_okq (⟨"EvenRota$Reader", "readTest", "(I)V"⟩, 8) := ⟨⟨by decide +kernel, by decide +kernel⟩, List.mem_of_getElem? (i := 158) (by decide +kernel), List.mem_of_getElem? (i := 699) (by decide +kernel), List.mem_of_getElem? (i := 700) (by decide +kernel)⟩
theorem lw_p30 : lw_okq (⟨"EvenRota$Reader", "readFact", "(I)V"⟩, 8) := ⟨⟨by decide +kernel, by decide +kernel⟩, List.mem_of_getElem? (i := 158) (by decide +kernel), List.mem_of_getElem? (i := 703) (by decide +kernel), List.mem_of_getElem? (i := 704) (by decide +kernel)⟩
theorem lw_p31 : lw_okq (⟨"EvenRota$Tokens", "isSign", "(II)Z"⟩, 4) := ⟨⟨by decide +kernel, by decide +kernel⟩, List.mem_of_getElem? (i := 48) (by decide +kernel), List.mem_of_getElem? (i := 707) (by decide +kernel), List.mem_of_getElem? (i := 708) (by decide +kernel)⟩
def lw_privs_2 : List (MethodName × Nat) := [(⟨"EvenRota$Reader", "readPerson", "()V"⟩, 8), (⟨"EvenRota$Reader", "beginCounted", "(II)V"⟩, 8), (⟨"EvenRota$Reader", "newName", "()I"⟩, 8), (⟨"EvenRota$Reader", "name", "()I"⟩, 8), (⟨"EvenRota$House", "personCalled", "(I)I"⟩, 14), (⟨"EvenRota$House", "kindCalled", "(I)I"⟩, 14), (⟨"EvenRota$Reader", "expectOwn", "(I)V"⟩, 8), (⟨"EvenRota$Tokens", "isOwn", "(II)Z"⟩, 4), (⟨"EvenRota$Reader", "readKind", "()V"⟩, 8), (⟨"EvenRota$Reader", "readTested", "(Z)V"⟩, 8), (⟨"EvenRota$Reader", "beginOther", "()V"⟩, 8), (⟨"EvenRota$Reader", "knownPerson", "(I)I"⟩, 8), (⟨"EvenRota$Reader", "knownKind", "()I"⟩, 8), (⟨"EvenRota$Reader", "readTest", "(I)V"⟩, 8), (⟨"EvenRota$Reader", "readFact", "(I)V"⟩, 8), (⟨"EvenRota$Tokens", "isSign", "(II)Z"⟩, 4)]
theorem lw_r2 : ∀ q ∈ lw_privs_2, lw_okq q := List.forall_mem_cons.mpr ⟨lw_p16, List.forall_mem_cons.mpr ⟨lw_p17, List.forall_mem_cons.mpr ⟨lw_p18, List.forall_mem_cons.mpr ⟨lw_p19, List.forall_mem_cons.mpr ⟨lw_p20, List.forall_mem_cons.mpr ⟨lw_p21, List.forall_mem_cons.mpr ⟨lw_p22, List.forall_mem_cons.mpr ⟨lw_p23, List.forall_mem_cons.mpr ⟨lw_p24, List.forall_mem_cons.mpr ⟨lw_p25, List.forall_mem_cons.mpr ⟨lw_p26, List.forall_mem_cons.mpr ⟨lw_p27, List.forall_mem_cons.mpr ⟨lw_p28, List.forall_mem_cons.mpr ⟨lw_p29, List.forall_mem_cons.mpr ⟨lw_p30, List.forall_mem_cons.mpr ⟨lw_p31, fun _ h => absurd h List.not_mem_nil⟩⟩⟩⟩⟩⟩⟩⟩⟩⟩⟩⟩⟩⟩⟩⟩
theorem lw_p32 : lw_okq (⟨"EvenRota$Tests", "emit", "(I)V"⟩, 8) := ⟨⟨by decide +kernel, by decide +kernel⟩, List.mem_of_getElem? (i := 166) (by decide +kernel), List.mem_of_getElem? (i := 711) (by decide +kernel), List.mem_of_getElem? (i := 712) (by decide +kernel)⟩
theorem lw_p33 : lw_okq (⟨"EvenRota$Reader", "expectSign", "(I)V"⟩, 8) := ⟨⟨by decide +kernel, by decide +kernel⟩, List.mem_of_getElem? (i := 158) (by decide +kernel), List.mem_of_getElem? (i := 715) (by decide +kernel), List.mem_of_getElem? (i := 716) (by decide +kernel)⟩
theorem lw_p34 : lw_okq (⟨"EvenRota$Reader", "readSum", "(I)V"⟩, 8) := ⟨⟨by decide +kernel, by decide +kernel⟩, List.mem_of_getElem? (i := 158) (by decide +kernel), List.mem_of_getElem? (i := 719) (by decide +kernel), List.mem_of_getElem? (i := 720) (by decide +kernel)⟩
theorem lw_p35 : lw_okq (⟨"EvenRota$Reader", "readPart", "(I)V"⟩, 8) := ⟨⟨by decide +kernel, by decide +kernel⟩, List.mem_of_getElem? (i := 158) (by decide +kernel), List.mem_of_getElem? (i := 723) (by decide +kernel), List.mem_of_getElem? (i := 724) (by decide +kernel)⟩
theorem lw_p36 : lw_okq (⟨"EvenRota$Tokens", "signAt", "(I)I"⟩, 4) := ⟨⟨by decide +kernel, by decide +kernel⟩, List.mem_of_getElem? (i := 48) (by decide +kernel), List.mem_of_getElem? (i := 730) (by decide +kernel), List.mem_of_getElem? (i := 731) (by decide +kernel)⟩
theorem lw_p37 : lw_okq (⟨"EvenRota$Tests", "close", "(II)V"⟩, 8) := ⟨⟨by decide +kernel, by decide +kernel⟩, List.mem_of_getElem? (i := 166) (by decide +kernel), List.mem_of_getElem? (i := 743) (by decide +kernel), List.mem_of_getElem? (i := 744) (by decide +kernel)⟩
theorem lw_p38 : lw_okq (⟨"EvenRota$Reader", "readRest", "()V"⟩, 8) := ⟨⟨by decide +kernel, by decide +kernel⟩, List.mem_of_getElem? (i := 158) (by decide +kernel), List.mem_of_getElem? (i := 747) (by decide +kernel), List.mem_of_getElem? (i := 748) (by decide +kernel)⟩
theorem lw_p39 : lw_okq (⟨"EvenRota$House", "askRest", "(III)V"⟩, 14) := ⟨⟨by decide +kernel, by decide +kernel⟩, List.mem_of_getElem? (i := 67) (by decide +kernel), List.mem_of_getElem? (i := 751) (by decide +kernel), List.mem_of_getElem? (i := 752) (by decide +kernel)⟩
theorem lw_p40 : lw_okq (⟨"EvenRota$Reader", "readPair", "([I)V"⟩, 8) := ⟨⟨by decide +kernel, by decide +kernel⟩, List.mem_of_getElem? (i := 158) (by decide +kernel), List.mem_of_getElem? (i := 756) (by decide +kernel), List.mem_of_getElem? (i := 757) (by decide +kernel)⟩
theorem lw_p41 : lw_okq (⟨"EvenRota$Tests", "tryAll", "(I)I"⟩, 8) := ⟨⟨by decide +kernel, by decide +kernel⟩, List.mem_of_getElem? (i := 166) (by decide +kernel), List.mem_of_getElem? (i := 763) (by decide +kernel), List.mem_of_getElem? (i := 764) (by decide +kernel)⟩
theorem lw_p42 : lw_okq (⟨"EvenRota$Tests", "isTrue", "(II)Z"⟩, 8) := ⟨⟨by decide +kernel, by decide +kernel⟩, List.mem_of_getElem? (i := 166) (by decide +kernel), List.mem_of_getElem? (i := 768) (by decide +kernel), List.mem_of_getElem? (i := 769) (by decide +kernel)⟩
theorem lw_p43 : lw_okq (⟨"EvenRota$House", "take", "(LEvenRota$House;)V"⟩, 14) := ⟨⟨by decide +kernel, by decide +kernel⟩, List.mem_of_getElem? (i := 67) (by decide +kernel), List.mem_of_getElem? (i := 795) (by decide +kernel), List.mem_of_getElem? (i := 796) (by decide +kernel)⟩
theorem lw_p44 : lw_okq (⟨"EvenRota$Calendar", "build", "(LEvenRota$Tests;)V"⟩, 10) := ⟨⟨by decide +kernel, by decide +kernel⟩, List.mem_of_getElem? (i := 230) (by decide +kernel), List.mem_of_getElem? (i := 802) (by decide +kernel), List.mem_of_getElem? (i := 803) (by decide +kernel)⟩
theorem lw_p45 : lw_okq (⟨"EvenRota$Calendar", "addTurns", "(LEvenRota$Tests;II)V"⟩, 10) := ⟨⟨by decide +kernel, by decide +kernel⟩, List.mem_of_getElem? (i := 230) (by decide +kernel), List.mem_of_getElem? (i := 806) (by decide +kernel), List.mem_of_getElem? (i := 807) (by decide +kernel)⟩
theorem lw_p46 : lw_okq (⟨"EvenRota$Calendar", "present", "(I)I"⟩, 10) := ⟨⟨by decide +kernel, by decide +kernel⟩, List.mem_of_getElem? (i := 230) (by decide +kernel), List.mem_of_getElem? (i := 810) (by decide +kernel), List.mem_of_getElem? (i := 811) (by decide +kernel)⟩
theorem lw_p47 : lw_okq (⟨"EvenRota$Tests", "holds", "(II)Z"⟩, 8) := ⟨⟨by decide +kernel, by decide +kernel⟩, List.mem_of_getElem? (i := 166) (by decide +kernel), List.mem_of_getElem? (i := 814) (by decide +kernel), List.mem_of_getElem? (i := 815) (by decide +kernel)⟩
def lw_privs_3 : List (MethodName × Nat) := [(⟨"EvenRota$Tests", "emit", "(I)V"⟩, 8), (⟨"EvenRota$Reader", "expectSign", "(I)V"⟩, 8), (⟨"EvenRota$Reader", "readSum", "(I)V"⟩, 8), (⟨"EvenRota$Reader", "readPart", "(I)V"⟩, 8), (⟨"EvenRota$Tokens", "signAt", "(I)I"⟩, 4), (⟨"EvenRota$Tests", "close", "(II)V"⟩, 8), (⟨"EvenRota$Reader", "readRest", "()V"⟩, 8), (⟨"EvenRota$House", "askRest", "(III)V"⟩, 14), (⟨"EvenRota$Reader", "readPair", "([I)V"⟩, 8), (⟨"EvenRota$Tests", "tryAll", "(I)I"⟩, 8), (⟨"EvenRota$Tests", "isTrue", "(II)Z"⟩, 8), (⟨"EvenRota$House", "take", "(LEvenRota$House;)V"⟩, 14), (⟨"EvenRota$Calendar", "build", "(LEvenRota$Tests;)V"⟩, 10), (⟨"EvenRota$Calendar", "addTurns", "(LEvenRota$Tests;II)V"⟩, 10), (⟨"EvenRota$Calendar", "present", "(I)I"⟩, 10), (⟨"EvenRota$Tests", "holds", "(II)Z"⟩, 8)]
theorem lw_r3 : ∀ q ∈ lw_privs_3, lw_okq q := List.forall_mem_cons.mpr ⟨lw_p32, List.forall_mem_cons.mpr ⟨lw_p33, List.forall_mem_cons.mpr ⟨lw_p34, List.forall_mem_cons.mpr ⟨lw_p35, List.forall_mem_cons.mpr ⟨lw_p36, List.forall_mem_cons.mpr ⟨lw_p37, List.forall_mem_cons.mpr ⟨lw_p38, List.forall_mem_cons.mpr ⟨lw_p39, List.forall_mem_cons.mpr ⟨lw_p40, List.forall_mem_cons.mpr ⟨lw_p41, List.forall_mem_cons.mpr ⟨lw_p42, List.forall_mem_cons.mpr ⟨lw_p43, List.forall_mem_cons.mpr ⟨lw_p44, List.forall_mem_cons.mpr ⟨lw_p45, List.forall_mem_cons.mpr ⟨lw_p46, List.forall_mem_cons.mpr ⟨lw_p47, fun _ h => absurd h List.not_mem_nil⟩⟩⟩⟩⟩⟩⟩⟩⟩⟩⟩⟩⟩⟩⟩⟩
theorem lw_p48 : lw_okq (⟨"EvenRota$Calendar", "unitAmong", "(I)I"⟩, 10) := ⟨⟨by decide +kernel, by decide +kernel⟩, List.mem_of_getElem? (i := 230) (by decide +kernel), List.mem_of_getElem? (i := 818) (by decide +kernel), List.mem_of_getElem? (i := 819) (by decide +kernel)⟩
theorem lw_p49 : lw_okq (⟨"EvenRota$Calendar", "sortByKind", "()V"⟩, 10) := ⟨⟨by decide +kernel, by decide +kernel⟩, List.mem_of_getElem? (i := 230) (by decide +kernel), List.mem_of_getElem? (i := 823) (by decide +kernel), List.mem_of_getElem? (i := 824) (by decide +kernel)⟩
theorem lw_p50 : lw_okq (⟨"EvenRota$Rota", "openAll", "()V"⟩, 6) := ⟨⟨by decide +kernel, by decide +kernel⟩, List.mem_of_getElem? (i := 284) (by decide +kernel), List.mem_of_getElem? (i := 827) (by decide +kernel), List.mem_of_getElem? (i := 828) (by decide +kernel)⟩
theorem lw_p51 : lw_okq (⟨"EvenRota$Evener", "forget", "()V"⟩, 8) := ⟨⟨by decide +kernel, by decide +kernel⟩, List.mem_of_getElem? (i := 353) (by decide +kernel), List.mem_of_getElem? (i := 832) (by decide +kernel), List.mem_of_getElem? (i := 833) (by decide +kernel)⟩
theorem lw_p52 : lw_okq (⟨"EvenRota$Swapper", "forget", "()V"⟩, 9) := ⟨⟨by decide +kernel, by decide +kernel⟩, List.mem_of_getElem? (i := 387) (by decide +kernel), List.mem_of_getElem? (i := 836) (by decide +kernel), List.mem_of_getElem? (i := 837) (by decide +kernel)⟩
theorem lw_p53 : lw_okq (⟨"EvenRota$Rota", "countOpen", "()I"⟩, 6) := ⟨⟨by decide +kernel, by decide +kernel⟩, List.mem_of_getElem? (i := 284) (by decide +kernel), List.mem_of_getElem? (i := 849) (by decide +kernel), List.mem_of_getElem? (i := 850) (by decide +kernel)⟩
theorem lw_p54 : lw_okq (⟨"EvenRota", "isKind", "(I)Z"⟩, 12) := ⟨⟨by decide +kernel, by decide +kernel⟩, List.mem_of_getElem? (i := 22) (by decide +kernel), List.mem_of_getElem? (i := 857) (by decide +kernel), List.mem_of_getElem? (i := 858) (by decide +kernel)⟩
theorem lw_p55 : lw_okq (⟨"EvenRota", "isPerson", "(I)Z"⟩, 12) := ⟨⟨by decide +kernel, by decide +kernel⟩, List.mem_of_getElem? (i := 22) (by decide +kernel), List.mem_of_getElem? (i := 861) (by decide +kernel), List.mem_of_getElem? (i := 862) (by decide +kernel)⟩
theorem lw_p56 : lw_okq (⟨"EvenRota", "isTurn", "(I)Z"⟩, 12) := ⟨⟨by decide +kernel, by decide +kernel⟩, List.mem_of_getElem? (i := 22) (by decide +kernel), List.mem_of_getElem? (i := 872) (by decide +kernel), List.mem_of_getElem? (i := 873) (by decide +kernel)⟩
theorem lw_p57 : lw_okq (⟨"EvenRota$Rota", "barOf", "(I)I"⟩, 6) := ⟨⟨by decide +kernel, by decide +kernel⟩, List.mem_of_getElem? (i := 284) (by decide +kernel), List.mem_of_getElem? (i := 876) (by decide +kernel), List.mem_of_getElem? (i := 877) (by decide +kernel)⟩
theorem lw_p58 : lw_okq (⟨"EvenRota$Rota", "othersThatDay", "(I)I"⟩, 6) := ⟨⟨by decide +kernel, by decide +kernel⟩, List.mem_of_getElem? (i := 284) (by decide +kernel), List.mem_of_getElem? (i := 880) (by decide +kernel), List.mem_of_getElem? (i := 881) (by decide +kernel)⟩
theorem lw_p59 : lw_okq (⟨"EvenRota$Rota", "dayEnd", "(I)I"⟩, 6) := ⟨⟨by decide +kernel, by decide +kernel⟩, List.mem_of_getElem? (i := 284) (by decide +kernel), List.mem_of_getElem? (i := 884) (by decide +kernel), List.mem_of_getElem? (i := 885) (by decide +kernel)⟩
theorem lw_p60 : lw_okq (⟨"EvenRota$Rota", "dayStart", "(I)I"⟩, 6) := ⟨⟨by decide +kernel, by decide +kernel⟩, List.mem_of_getElem? (i := 284) (by decide +kernel), List.mem_of_getElem? (i := 888) (by decide +kernel), List.mem_of_getElem? (i := 889) (by decide +kernel)⟩
theorem lw_p61 : lw_okq (⟨"EvenRota$Rota", "isResting", "(II)Z"⟩, 6) := ⟨⟨by decide +kernel, by decide +kernel⟩, List.mem_of_getElem? (i := 284) (by decide +kernel), List.mem_of_getElem? (i := 892) (by decide +kernel), List.mem_of_getElem? (i := 893) (by decide +kernel)⟩
theorem lw_p62 : lw_okq (⟨"EvenRota$Rota", "restStart", "(I)I"⟩, 6) := ⟨⟨by decide +kernel, by decide +kernel⟩, List.mem_of_getElem? (i := 284) (by decide +kernel), List.mem_of_getElem? (i := 896) (by decide +kernel), List.mem_of_getElem? (i := 897) (by decide +kernel)⟩
theorem lw_p63 : lw_okq (⟨"EvenRota$Rota", "asksRest", "(II)Z"⟩, 6) := ⟨⟨by decide +kernel, by decide +kernel⟩, List.mem_of_getElem? (i := 284) (by decide +kernel), List.mem_of_getElem? (i := 900) (by decide +kernel), List.mem_of_getElem? (i := 901) (by decide +kernel)⟩
def lw_privs_4 : List (MethodName × Nat) := [(⟨"EvenRota$Calendar", "unitAmong", "(I)I"⟩, 10), (⟨"EvenRota$Calendar", "sortByKind", "()V"⟩, 10), (⟨"EvenRota$Rota", "openAll", "()V"⟩, 6), (⟨"EvenRota$Evener", "forget", "()V"⟩, 8), (⟨"EvenRota$Swapper", "forget", "()V"⟩, 9), (⟨"EvenRota$Rota", "countOpen", "()I"⟩, 6), (⟨"EvenRota", "isKind", "(I)Z"⟩, 12), (⟨"EvenRota", "isPerson", "(I)Z"⟩, 12), (⟨"EvenRota", "isTurn", "(I)Z"⟩, 12), (⟨"EvenRota$Rota", "barOf", "(I)I"⟩, 6), (⟨"EvenRota$Rota", "othersThatDay", "(I)I"⟩, 6), (⟨"EvenRota$Rota", "dayEnd", "(I)I"⟩, 6), (⟨"EvenRota$Rota", "dayStart", "(I)I"⟩, 6), (⟨"EvenRota$Rota", "isResting", "(II)Z"⟩, 6), (⟨"EvenRota$Rota", "restStart", "(I)I"⟩, 6), (⟨"EvenRota$Rota", "asksRest", "(II)Z"⟩, 6)]
theorem lw_r4 : ∀ q ∈ lw_privs_4, lw_okq q := List.forall_mem_cons.mpr ⟨lw_p48, List.forall_mem_cons.mpr ⟨lw_p49, List.forall_mem_cons.mpr ⟨lw_p50, List.forall_mem_cons.mpr ⟨lw_p51, List.forall_mem_cons.mpr ⟨lw_p52, List.forall_mem_cons.mpr ⟨lw_p53, List.forall_mem_cons.mpr ⟨lw_p54, List.forall_mem_cons.mpr ⟨lw_p55, List.forall_mem_cons.mpr ⟨lw_p56, List.forall_mem_cons.mpr ⟨lw_p57, List.forall_mem_cons.mpr ⟨lw_p58, List.forall_mem_cons.mpr ⟨lw_p59, List.forall_mem_cons.mpr ⟨lw_p60, List.forall_mem_cons.mpr ⟨lw_p61, List.forall_mem_cons.mpr ⟨lw_p62, List.forall_mem_cons.mpr ⟨lw_p63, fun _ h => absurd h List.not_mem_nil⟩⟩⟩⟩⟩⟩⟩⟩⟩⟩⟩⟩⟩⟩⟩⟩
theorem lw_p64 : lw_okq (⟨"EvenRota$Calendar", "dueOf", "(II)I"⟩, 10) := ⟨⟨by decide +kernel, by decide +kernel⟩, List.mem_of_getElem? (i := 230) (by decide +kernel), List.mem_of_getElem? (i := 912) (by decide +kernel), List.mem_of_getElem? (i := 913) (by decide +kernel)⟩
theorem lw_p65 : lw_okq (⟨"EvenRota", "isKindOrNone", "(I)Z"⟩, 12) := ⟨⟨by decide +kernel, by decide +kernel⟩, List.mem_of_getElem? (i := 22) (by decide +kernel), List.mem_of_getElem? (i := 920) (by decide +kernel), List.mem_of_getElem? (i := 921) (by decide +kernel)⟩
theorem lw_p66 : lw_okq (⟨"EvenRota$Calendar", "countOf", "(I)I"⟩, 10) := ⟨⟨by decide +kernel, by decide +kernel⟩, List.mem_of_getElem? (i := 230) (by decide +kernel), List.mem_of_getElem? (i := 924) (by decide +kernel), List.mem_of_getElem? (i := 925) (by decide +kernel)⟩
theorem lw_p67 : lw_okq (⟨"EvenRota$Levels", "ahead", "(III)J"⟩, 8) := ⟨⟨by decide +kernel, by decide +kernel⟩, List.mem_of_getElem? (i := 317) (by decide +kernel), List.mem_of_getElem? (i := 929) (by decide +kernel), List.mem_of_getElem? (i := 930) (by decide +kernel)⟩
theorem lw_p68 : lw_okq (⟨"EvenRota$Levels", "changeBy", "(III)J"⟩, 8) := ⟨⟨by decide +kernel, by decide +kernel⟩, List.mem_of_getElem? (i := 317) (by decide +kernel), List.mem_of_getElem? (i := 933) (by decide +kernel), List.mem_of_getElem? (i := 934) (by decide +kernel)⟩
theorem lw_p69 : lw_okq (⟨"EvenRota$Calendar", "turnAt", "(II)I"⟩, 10) := ⟨⟨by decide +kernel, by decide +kernel⟩, List.mem_of_getElem? (i := 230) (by decide +kernel), List.mem_of_getElem? (i := 937) (by decide +kernel), List.mem_of_getElem? (i := 938) (by decide +kernel)⟩
theorem lw_p70 : lw_okq (⟨"EvenRota$Levels", "gapOf", "(II)J"⟩, 8) := ⟨⟨by decide +kernel, by decide +kernel⟩, List.mem_of_getElem? (i := 317) (by decide +kernel), List.mem_of_getElem? (i := 948) (by decide +kernel), List.mem_of_getElem? (i := 949) (by decide +kernel)⟩
theorem lw_p71 : lw_okq (⟨"EvenRota$Levels", "findStretch", "(II)Z"⟩, 8) := ⟨⟨by decide +kernel, by decide +kernel⟩, List.mem_of_getElem? (i := 317) (by decide +kernel), List.mem_of_getElem? (i := 959) (by decide +kernel), List.mem_of_getElem? (i := 960) (by decide +kernel)⟩
theorem lw_p72 : lw_okq (⟨"EvenRota$Levels", "findWorst", "()Z"⟩, 8) := ⟨⟨by decide +kernel, by decide +kernel⟩, List.mem_of_getElem? (i := 317) (by decide +kernel), List.mem_of_getElem? (i := 969) (by decide +kernel), List.mem_of_getElem? (i := 970) (by decide +kernel)⟩
theorem lw_p73 : lw_okq (⟨"EvenRota$Rota", "lay", "(II)V"⟩, 6) := ⟨⟨by decide +kernel, by decide +kernel⟩, List.mem_of_getElem? (i := 284) (by decide +kernel), List.mem_of_getElem? (i := 986) (by decide +kernel), List.mem_of_getElem? (i := 987) (by decide +kernel)⟩
theorem lw_p74 : lw_okq (⟨"EvenRota$Rota", "layBySteps", "(I)V"⟩, 6) := ⟨⟨by decide +kernel, by decide +kernel⟩, List.mem_of_getElem? (i := 284) (by decide +kernel), List.mem_of_getElem? (i := 998) (by decide +kernel), List.mem_of_getElem? (i := 999) (by decide +kernel)⟩
theorem lw_p75 : lw_okq (⟨"EvenRota$Rota", "mostLacking", "(IZ)I"⟩, 6) := ⟨⟨by decide +kernel, by decide +kernel⟩, List.mem_of_getElem? (i := 284) (by decide +kernel), List.mem_of_getElem? (i := 1006) (by decide +kernel), List.mem_of_getElem? (i := 1007) (by decide +kernel)⟩
theorem lw_p76 : lw_okq (⟨"EvenRota$Rota", "ableFor", "(I)I"⟩, 6) := ⟨⟨by decide +kernel, by decide +kernel⟩, List.mem_of_getElem? (i := 284) (by decide +kernel), List.mem_of_getElem? (i := 1010) (by decide +kernel), List.mem_of_getElem? (i := 1011) (by decide +kernel)⟩
theorem lw_p77 : lw_okq (⟨"EvenRota$Rota", "restingFor", "(I)I"⟩, 6) := ⟨⟨by decide +kernel, by decide +kernel⟩, List.mem_of_getElem? (i := 284) (by decide +kernel), List.mem_of_getElem? (i := 1014) (by decide +kernel), List.mem_of_getElem? (i := 1015) (by decide +kernel)⟩
theorem lw_p78 : lw_okq (⟨"EvenRota$Rota", "apartFrom", "(I)I"⟩, 6) := ⟨⟨by decide +kernel, by decide +kernel⟩, List.mem_of_getElem? (i := 284) (by decide +kernel), List.mem_of_getElem? (i := 1018) (by decide +kernel), List.mem_of_getElem? (i := 1019) (by decide +kernel)⟩
theorem lw_p79 : lw_okq (⟨"EvenRota$Rota", "drawn", "(I)I"⟩, 6) := ⟨⟨by decide +kernel, by decide +kernel⟩, List.mem_of_getElem? (i := 284) (by decide +kernel), List.mem_of_getElem? (i := 1023) (by decide +kernel), List.mem_of_getElem? (i := 1024) (by decide +kernel)⟩
def lw_privs_5 : List (MethodName × Nat) := [(⟨"EvenRota$Calendar", "dueOf", "(II)I"⟩, 10), (⟨"EvenRota", "isKindOrNone", "(I)Z"⟩, 12), (⟨"EvenRota$Calendar", "countOf", "(I)I"⟩, 10), (⟨"EvenRota$Levels", "ahead", "(III)J"⟩, 8), (⟨"EvenRota$Levels", "changeBy", "(III)J"⟩, 8), (⟨"EvenRota$Calendar", "turnAt", "(II)I"⟩, 10), (⟨"EvenRota$Levels", "gapOf", "(II)J"⟩, 8), (⟨"EvenRota$Levels", "findStretch", "(II)Z"⟩, 8), (⟨"EvenRota$Levels", "findWorst", "()Z"⟩, 8), (⟨"EvenRota$Rota", "lay", "(II)V"⟩, 6), (⟨"EvenRota$Rota", "layBySteps", "(I)V"⟩, 6), (⟨"EvenRota$Rota", "mostLacking", "(IZ)I"⟩, 6), (⟨"EvenRota$Rota", "ableFor", "(I)I"⟩, 6), (⟨"EvenRota$Rota", "restingFor", "(I)I"⟩, 6), (⟨"EvenRota$Rota", "apartFrom", "(I)I"⟩, 6), (⟨"EvenRota$Rota", "drawn", "(I)I"⟩, 6)]
theorem lw_r5 : ∀ q ∈ lw_privs_5, lw_okq q := List.forall_mem_cons.mpr ⟨lw_p64, List.forall_mem_cons.mpr ⟨lw_p65, List.forall_mem_cons.mpr ⟨lw_p66, List.forall_mem_cons.mpr ⟨lw_p67, List.forall_mem_cons.mpr ⟨lw_p68, List.forall_mem_cons.mpr ⟨lw_p69, List.forall_mem_cons.mpr ⟨lw_p70, List.forall_mem_cons.mpr ⟨lw_p71, List.forall_mem_cons.mpr ⟨lw_p72, List.forall_mem_cons.mpr ⟨lw_p73, List.forall_mem_cons.mpr ⟨lw_p74, List.forall_mem_cons.mpr ⟨lw_p75, List.forall_mem_cons.mpr ⟨lw_p76, List.forall_mem_cons.mpr ⟨lw_p77, List.forall_mem_cons.mpr ⟨lw_p78, List.forall_mem_cons.mpr ⟨lw_p79, fun _ h => absurd h List.not_mem_nil⟩⟩⟩⟩⟩⟩⟩⟩⟩⟩⟩⟩⟩⟩⟩⟩
theorem lw_p80 : lw_okq (⟨"EvenRota", "readRow", "()I"⟩, 12) := ⟨⟨by decide +kernel, by decide +kernel⟩, List.mem_of_getElem? (i := 22) (by decide +kernel), List.mem_of_getElem? (i := 1040) (by decide +kernel), List.mem_of_getElem? (i := 1041) (by decide +kernel)⟩
theorem lw_p81 : lw_okq (⟨"EvenRota$Reader", "readRow", "(LEvenRota$House;)I"⟩, 8) := ⟨⟨by decide +kernel, by decide +kernel⟩, List.mem_of_getElem? (i := 158) (by decide +kernel), List.mem_of_getElem? (i := 1044) (by decide +kernel), List.mem_of_getElem? (i := 1045) (by decide +kernel)⟩
theorem lw_p82 : lw_okq (⟨"EvenRota$Calendar", "allMay", "(I)Z"⟩, 10) := ⟨⟨by decide +kernel, by decide +kernel⟩, List.mem_of_getElem? (i := 230) (by decide +kernel), List.mem_of_getElem? (i := 1056) (by decide +kernel), List.mem_of_getElem? (i := 1057) (by decide +kernel)⟩
theorem lw_p83 : lw_okq (⟨"EvenRota$Evener", "canBe", "(III)Z"⟩, 8) := ⟨⟨by decide +kernel, by decide +kernel⟩, List.mem_of_getElem? (i := 353) (by decide +kernel), List.mem_of_getElem? (i := 1066) (by decide +kernel), List.mem_of_getElem? (i := 1067) (by decide +kernel)⟩
theorem lw_p84 : lw_okq (⟨"EvenRota$Evener", "setMust", "(III)V"⟩, 8) := ⟨⟨by decide +kernel, by decide +kernel⟩, List.mem_of_getElem? (i := 353) (by decide +kernel), List.mem_of_getElem? (i := 1070) (by decide +kernel), List.mem_of_getElem? (i := 1071) (by decide +kernel)⟩
theorem lw_p85 : lw_okq (⟨"EvenRota$Evener", "shareOf", "(I)I"⟩, 8) := ⟨⟨by decide +kernel, by decide +kernel⟩, List.mem_of_getElem? (i := 353) (by decide +kernel), List.mem_of_getElem? (i := 1074) (by decide +kernel), List.mem_of_getElem? (i := 1075) (by decide +kernel)⟩
theorem lw_p86 : lw_okq (⟨"EvenRota$Evener", "pressedBy", "(I)I"⟩, 8) := ⟨⟨by decide +kernel, by decide +kernel⟩, List.mem_of_getElem? (i := 353) (by decide +kernel), List.mem_of_getElem? (i := 1081) (by decide +kernel), List.mem_of_getElem? (i := 1082) (by decide +kernel)⟩
theorem lw_p87 : lw_okq (⟨"EvenRota$Evener", "soonest", "(II)I"⟩, 8) := ⟨⟨by decide +kernel, by decide +kernel⟩, List.mem_of_getElem? (i := 353) (by decide +kernel), List.mem_of_getElem? (i := 1085) (by decide +kernel), List.mem_of_getElem? (i := 1086) (by decide +kernel)⟩
theorem lw_p88 : lw_okq (⟨"EvenRota$Evener", "keepCut", "()V"⟩, 8) := ⟨⟨by decide +kernel, by decide +kernel⟩, List.mem_of_getElem? (i := 353) (by decide +kernel), List.mem_of_getElem? (i := 1089) (by decide +kernel), List.mem_of_getElem? (i := 1090) (by decide +kernel)⟩
theorem lw_p89 : lw_okq (⟨"EvenRota$Evener", "leastOf", "(I)I"⟩, 8) := ⟨⟨by decide +kernel, by decide +kernel⟩, List.mem_of_getElem? (i := 353) (by decide +kernel), List.mem_of_getElem? (i := 1101) (by decide +kernel), List.mem_of_getElem? (i := 1102) (by decide +kernel)⟩
theorem lw_p90 : lw_okq (⟨"EvenRota$Evener", "isWhole", "(I)Z"⟩, 8) := ⟨⟨by decide +kernel, by decide +kernel⟩, List.mem_of_getElem? (i := 353) (by decide +kernel), List.mem_of_getElem? (i := 1110) (by decide +kernel), List.mem_of_getElem? (i := 1111) (by decide +kernel)⟩
theorem lw_p91 : lw_okq (⟨"EvenRota$Swapper", "improve", "(I)I"⟩, 9) := ⟨⟨by decide +kernel, by decide +kernel⟩, List.mem_of_getElem? (i := 387) (by decide +kernel), List.mem_of_getElem? (i := 1118) (by decide +kernel), List.mem_of_getElem? (i := 1119) (by decide +kernel)⟩
theorem lw_p92 : lw_okq (⟨"EvenRota$Swapper", "measure", "()V"⟩, 9) := ⟨⟨by decide +kernel, by decide +kernel⟩, List.mem_of_getElem? (i := 387) (by decide +kernel), List.mem_of_getElem? (i := 1122) (by decide +kernel), List.mem_of_getElem? (i := 1123) (by decide +kernel)⟩
theorem lw_p93 : lw_okq (⟨"EvenRota$Swapper", "goOverPairs", "()I"⟩, 9) := ⟨⟨by decide +kernel, by decide +kernel⟩, List.mem_of_getElem? (i := 387) (by decide +kernel), List.mem_of_getElem? (i := 1129) (by decide +kernel), List.mem_of_getElem? (i := 1130) (by decide +kernel)⟩
theorem lw_p94 : lw_okq (⟨"EvenRota$Swapper", "exchange", "(II)V"⟩, 9) := ⟨⟨by decide +kernel, by decide +kernel⟩, List.mem_of_getElem? (i := 387) (by decide +kernel), List.mem_of_getElem? (i := 1133) (by decide +kernel), List.mem_of_getElem? (i := 1134) (by decide +kernel)⟩
theorem lw_p95 : lw_okq (⟨"EvenRota$Swapper", "isBetter", "(II)Z"⟩, 9) := ⟨⟨by decide +kernel, by decide +kernel⟩, List.mem_of_getElem? (i := 387) (by decide +kernel), List.mem_of_getElem? (i := 1137) (by decide +kernel), List.mem_of_getElem? (i := 1138) (by decide +kernel)⟩
def lw_privs_6 : List (MethodName × Nat) := [(⟨"EvenRota", "readRow", "()I"⟩, 12), (⟨"EvenRota$Reader", "readRow", "(LEvenRota$House;)I"⟩, 8), (⟨"EvenRota$Calendar", "allMay", "(I)Z"⟩, 10), (⟨"EvenRota$Evener", "canBe", "(III)Z"⟩, 8), (⟨"EvenRota$Evener", "setMust", "(III)V"⟩, 8), (⟨"EvenRota$Evener", "shareOf", "(I)I"⟩, 8), (⟨"EvenRota$Evener", "pressedBy", "(I)I"⟩, 8), (⟨"EvenRota$Evener", "soonest", "(II)I"⟩, 8), (⟨"EvenRota$Evener", "keepCut", "()V"⟩, 8), (⟨"EvenRota$Evener", "leastOf", "(I)I"⟩, 8), (⟨"EvenRota$Evener", "isWhole", "(I)Z"⟩, 8), (⟨"EvenRota$Swapper", "improve", "(I)I"⟩, 9), (⟨"EvenRota$Swapper", "measure", "()V"⟩, 9), (⟨"EvenRota$Swapper", "goOverPairs", "()I"⟩, 9), (⟨"EvenRota$Swapper", "exchange", "(II)V"⟩, 9), (⟨"EvenRota$Swapper", "isBetter", "(II)Z"⟩, 9)]
theorem lw_r6 : ∀ q ∈ lw_privs_6, lw_okq q := List.forall_mem_cons.mpr ⟨lw_p80, List.forall_mem_cons.mpr ⟨lw_p81, List.forall_mem_cons.mpr ⟨lw_p82, List.forall_mem_cons.mpr ⟨lw_p83, List.forall_mem_cons.mpr ⟨lw_p84, List.forall_mem_cons.mpr ⟨lw_p85, List.forall_mem_cons.mpr ⟨lw_p86, List.forall_mem_cons.mpr ⟨lw_p87, List.forall_mem_cons.mpr ⟨lw_p88, List.forall_mem_cons.mpr ⟨lw_p89, List.forall_mem_cons.mpr ⟨lw_p90, List.forall_mem_cons.mpr ⟨lw_p91, List.forall_mem_cons.mpr ⟨lw_p92, List.forall_mem_cons.mpr ⟨lw_p93, List.forall_mem_cons.mpr ⟨lw_p94, List.forall_mem_cons.mpr ⟨lw_p95, fun _ h => absurd h List.not_mem_nil⟩⟩⟩⟩⟩⟩⟩⟩⟩⟩⟩⟩⟩⟩⟩⟩
theorem lw_p96 : lw_okq (⟨"EvenRota$Swapper", "moreBarred", "(II)I"⟩, 9) := ⟨⟨by decide +kernel, by decide +kernel⟩, List.mem_of_getElem? (i := 387) (by decide +kernel), List.mem_of_getElem? (i := 1141) (by decide +kernel), List.mem_of_getElem? (i := 1142) (by decide +kernel)⟩
theorem lw_p97 : lw_okq (⟨"EvenRota$Swapper", "mayChange", "(III)Z"⟩, 9) := ⟨⟨by decide +kernel, by decide +kernel⟩, List.mem_of_getElem? (i := 387) (by decide +kernel), List.mem_of_getElem? (i := 1147) (by decide +kernel), List.mem_of_getElem? (i := 1148) (by decide +kernel)⟩
theorem lw_p98 : lw_okq (⟨"EvenRota$Swapper", "isWorstLess", "(II)Z"⟩, 9) := ⟨⟨by decide +kernel, by decide +kernel⟩, List.mem_of_getElem? (i := 387) (by decide +kernel), List.mem_of_getElem? (i := 1151) (by decide +kernel), List.mem_of_getElem? (i := 1152) (by decide +kernel)⟩
theorem lw_p99 : lw_okq (⟨"EvenRota$Illness", "replace", "(IIIJ)I"⟩, 13) := ⟨⟨by decide +kernel, by decide +kernel⟩, List.mem_of_getElem? (i := 423) (by decide +kernel), List.mem_of_getElem? (i := 1163) (by decide +kernel), List.mem_of_getElem? (i := 1164) (by decide +kernel)⟩
theorem lw_p100 : lw_okq (⟨"EvenRota$Illness", "findTurns", "(III)Z"⟩, 13) := ⟨⟨by decide +kernel, by decide +kernel⟩, List.mem_of_getElem? (i := 423) (by decide +kernel), List.mem_of_getElem? (i := 1167) (by decide +kernel), List.mem_of_getElem? (i := 1168) (by decide +kernel)⟩
theorem lw_p101 : lw_okq (⟨"EvenRota$Illness", "openTurns", "()V"⟩, 13) := ⟨⟨by decide +kernel, by decide +kernel⟩, List.mem_of_getElem? (i := 423) (by decide +kernel), List.mem_of_getElem? (i := 1172) (by decide +kernel), List.mem_of_getElem? (i := 1173) (by decide +kernel)⟩
theorem lw_p102 : lw_okq (⟨"EvenRota$Illness", "choose", "(I)Z"⟩, 13) := ⟨⟨by decide +kernel, by decide +kernel⟩, List.mem_of_getElem? (i := 423) (by decide +kernel), List.mem_of_getElem? (i := 1178) (by decide +kernel), List.mem_of_getElem? (i := 1179) (by decide +kernel)⟩
theorem lw_p103 : lw_okq (⟨"EvenRota$Illness", "doAllFit", "()Z"⟩, 13) := ⟨⟨by decide +kernel, by decide +kernel⟩, List.mem_of_getElem? (i := 423) (by decide +kernel), List.mem_of_getElem? (i := 1182) (by decide +kernel), List.mem_of_getElem? (i := 1183) (by decide +kernel)⟩
theorem lw_p104 : lw_okq (⟨"EvenRota$Illness", "doesFit", "(II)Z"⟩, 13) := ⟨⟨by decide +kernel, by decide +kernel⟩, List.mem_of_getElem? (i := 423) (by decide +kernel), List.mem_of_getElem? (i := 1186) (by decide +kernel), List.mem_of_getElem? (i := 1187) (by decide +kernel)⟩
theorem lw_p105 : lw_okq (⟨"EvenRota$Illness", "leaveOthers", "(II)Z"⟩, 13) := ⟨⟨by decide +kernel, by decide +kernel⟩, List.mem_of_getElem? (i := 423) (by decide +kernel), List.mem_of_getElem? (i := 1192) (by decide +kernel), List.mem_of_getElem? (i := 1193) (by decide +kernel)⟩
theorem lw_p106 : lw_okq (⟨"EvenRota$Illness", "barredBehind", "(III)I"⟩, 13) := ⟨⟨by decide +kernel, by decide +kernel⟩, List.mem_of_getElem? (i := 423) (by decide +kernel), List.mem_of_getElem? (i := 1196) (by decide +kernel), List.mem_of_getElem? (i := 1197) (by decide +kernel)⟩
theorem lw_p107 : lw_okq (⟨"EvenRota$Rota", "servedInstead", "(II)I"⟩, 6) := ⟨⟨by decide +kernel, by decide +kernel⟩, List.mem_of_getElem? (i := 284) (by decide +kernel), List.mem_of_getElem? (i := 1215) (by decide +kernel), List.mem_of_getElem? (i := 1216) (by decide +kernel)⟩
theorem lw_p108 : lw_okq (⟨"EvenRota$Rota", "daysTogether", "(II)I"⟩, 6) := ⟨⟨by decide +kernel, by decide +kernel⟩, List.mem_of_getElem? (i := 284) (by decide +kernel), List.mem_of_getElem? (i := 1223) (by decide +kernel), List.mem_of_getElem? (i := 1224) (by decide +kernel)⟩
theorem lw_p109 : lw_okq (⟨"EvenRota", "isPicture", "(I)Z"⟩, 12) := ⟨⟨by decide +kernel, by decide +kernel⟩, List.mem_of_getElem? (i := 22) (by decide +kernel), List.mem_of_getElem? (i := 1243) (by decide +kernel), List.mem_of_getElem? (i := 1244) (by decide +kernel)⟩
theorem lw_p110 : lw_okq (⟨"EvenRotaModel", "look", "()I"⟩, 81) := ⟨⟨by decide +kernel, by decide +kernel⟩, List.mem_of_getElem? (i := 1247) (by decide +kernel), List.mem_of_getElem? (i := 1510) (by decide +kernel), List.mem_of_getElem? (i := 1511) (by decide +kernel)⟩
theorem lw_p111 : lw_okq (⟨"EvenRotaModel", "statement", "()V"⟩, 81) := ⟨⟨by decide +kernel, by decide +kernel⟩, List.mem_of_getElem? (i := 1247) (by decide +kernel), List.mem_of_getElem? (i := 1514) (by decide +kernel), List.mem_of_getElem? (i := 1515) (by decide +kernel)⟩
def lw_privs_7 : List (MethodName × Nat) := [(⟨"EvenRota$Swapper", "moreBarred", "(II)I"⟩, 9), (⟨"EvenRota$Swapper", "mayChange", "(III)Z"⟩, 9), (⟨"EvenRota$Swapper", "isWorstLess", "(II)Z"⟩, 9), (⟨"EvenRota$Illness", "replace", "(IIIJ)I"⟩, 13), (⟨"EvenRota$Illness", "findTurns", "(III)Z"⟩, 13), (⟨"EvenRota$Illness", "openTurns", "()V"⟩, 13), (⟨"EvenRota$Illness", "choose", "(I)Z"⟩, 13), (⟨"EvenRota$Illness", "doAllFit", "()Z"⟩, 13), (⟨"EvenRota$Illness", "doesFit", "(II)Z"⟩, 13), (⟨"EvenRota$Illness", "leaveOthers", "(II)Z"⟩, 13), (⟨"EvenRota$Illness", "barredBehind", "(III)I"⟩, 13), (⟨"EvenRota$Rota", "servedInstead", "(II)I"⟩, 6), (⟨"EvenRota$Rota", "daysTogether", "(II)I"⟩, 6), (⟨"EvenRota", "isPicture", "(I)Z"⟩, 12), (⟨"EvenRotaModel", "look", "()I"⟩, 81), (⟨"EvenRotaModel", "statement", "()V"⟩, 81)]
theorem lw_r7 : ∀ q ∈ lw_privs_7, lw_okq q := List.forall_mem_cons.mpr ⟨lw_p96, List.forall_mem_cons.mpr ⟨lw_p97, List.forall_mem_cons.mpr ⟨lw_p98, List.forall_mem_cons.mpr ⟨lw_p99, List.forall_mem_cons.mpr ⟨lw_p100, List.forall_mem_cons.mpr ⟨lw_p101, List.forall_mem_cons.mpr ⟨lw_p102, List.forall_mem_cons.mpr ⟨lw_p103, List.forall_mem_cons.mpr ⟨lw_p104, List.forall_mem_cons.mpr ⟨lw_p105, List.forall_mem_cons.mpr ⟨lw_p106, List.forall_mem_cons.mpr ⟨lw_p107, List.forall_mem_cons.mpr ⟨lw_p108, List.forall_mem_cons.mpr ⟨lw_p109, List.forall_mem_cons.mpr ⟨lw_p110, List.forall_mem_cons.mpr ⟨lw_p111, fun _ h => absurd h List.not_mem_nil⟩⟩⟩⟩⟩⟩⟩⟩⟩⟩⟩⟩⟩⟩⟩⟩
theorem lw_p112 : lw_okq (⟨"EvenRotaModel", "takes", "([C)Z"⟩, 81) := ⟨⟨by decide +kernel, by decide +kernel⟩, List.mem_of_getElem? (i := 1247) (by decide +kernel), List.mem_of_getElem? (i := 1518) (by decide +kernel), List.mem_of_getElem? (i := 1519) (by decide +kernel)⟩
theorem lw_p113 : lw_okq (⟨"EvenRotaModel", "isHere", "([C)Z"⟩, 81) := ⟨⟨by decide +kernel, by decide +kernel⟩, List.mem_of_getElem? (i := 1247) (by decide +kernel), List.mem_of_getElem? (i := 1522) (by decide +kernel), List.mem_of_getElem? (i := 1523) (by decide +kernel)⟩
theorem lw_p114 : lw_okq (⟨"EvenRotaModel", "number", "(II)I"⟩, 81) := ⟨⟨by decide +kernel, by decide +kernel⟩, List.mem_of_getElem? (i := 1247) (by decide +kernel), List.mem_of_getElem? (i := 1529) (by decide +kernel), List.mem_of_getElem? (i := 1530) (by decide +kernel)⟩
theorem lw_p115 : lw_okq (⟨"EvenRotaModel", "fail", "(II)V"⟩, 81) := ⟨⟨by decide +kernel, by decide +kernel⟩, List.mem_of_getElem? (i := 1247) (by decide +kernel), List.mem_of_getElem? (i := 1536) (by decide +kernel), List.mem_of_getElem? (i := 1537) (by decide +kernel)⟩
theorem lw_p116 : lw_okq (⟨"EvenRotaModel", "person", "()V"⟩, 81) := ⟨⟨by decide +kernel, by decide +kernel⟩, List.mem_of_getElem? (i := 1247) (by decide +kernel), List.mem_of_getElem? (i := 1543) (by decide +kernel), List.mem_of_getElem? (i := 1544) (by decide +kernel)⟩
theorem lw_p117 : lw_okq (⟨"EvenRotaModel", "newName", "()J"⟩, 81) := ⟨⟨by decide +kernel, by decide +kernel⟩, List.mem_of_getElem? (i := 1247) (by decide +kernel), List.mem_of_getElem? (i := 1547) (by decide +kernel), List.mem_of_getElem? (i := 1548) (by decide +kernel)⟩
theorem lw_p118 : lw_okq (⟨"EvenRotaModel", "name", "()J"⟩, 81) := ⟨⟨by decide +kernel, by decide +kernel⟩, List.mem_of_getElem? (i := 1247) (by decide +kernel), List.mem_of_getElem? (i := 1551) (by decide +kernel), List.mem_of_getElem? (i := 1552) (by decide +kernel)⟩
theorem lw_p119 : lw_okq (⟨"EvenRotaModel", "isOwnHere", "()Z"⟩, 81) := ⟨⟨by decide +kernel, by decide +kernel⟩, List.mem_of_getElem? (i := 1247) (by decide +kernel), List.mem_of_getElem? (i := 1555) (by decide +kernel), List.mem_of_getElem? (i := 1556) (by decide +kernel)⟩
theorem lw_p120 : lw_okq (⟨"EvenRotaModel", "letters", "()J"⟩, 81) := ⟨⟨by decide +kernel, by decide +kernel⟩, List.mem_of_getElem? (i := 1247) (by decide +kernel), List.mem_of_getElem? (i := 1559) (by decide +kernel), List.mem_of_getElem? (i := 1560) (by decide +kernel)⟩
theorem lw_p121 : lw_okq (⟨"EvenRotaModel", "personOf", "(IJ)I"⟩, 81) := ⟨⟨by decide +kernel, by decide +kernel⟩, List.mem_of_getElem? (i := 1247) (by decide +kernel), List.mem_of_getElem? (i := 1565) (by decide +kernel), List.mem_of_getElem? (i := 1566) (by decide +kernel)⟩
theorem lw_p122 : lw_okq (⟨"EvenRotaModel", "kindOf", "(IJ)I"⟩, 81) := ⟨⟨by decide +kernel, by decide +kernel⟩, List.mem_of_getElem? (i := 1247) (by decide +kernel), List.mem_of_getElem? (i := 1569) (by decide +kernel), List.mem_of_getElem? (i := 1570) (by decide +kernel)⟩
theorem lw_p123 : lw_okq (⟨"EvenRotaModel", "asks", "([C)V"⟩, 81) := ⟨⟨by decide +kernel, by decide +kernel⟩, List.mem_of_getElem? (i := 1247) (by decide +kernel), List.mem_of_getElem? (i := 1573) (by decide +kernel), List.mem_of_getElem? (i := 1574) (by decide +kernel)⟩
theorem lw_p124 : lw_okq (⟨"EvenRotaModel", "shares", "(I)I"⟩, 81) := ⟨⟨by decide +kernel, by decide +kernel⟩, List.mem_of_getElem? (i := 1247) (by decide +kernel), List.mem_of_getElem? (i := 1577) (by decide +kernel), List.mem_of_getElem? (i := 1578) (by decide +kernel)⟩
theorem lw_p125 : lw_okq (⟨"EvenRotaModel", "kind", "()V"⟩, 81) := ⟨⟨by decide +kernel, by decide +kernel⟩, List.mem_of_getElem? (i := 1247) (by decide +kernel), List.mem_of_getElem? (i := 1581) (by decide +kernel), List.mem_of_getElem? (i := 1582) (by decide +kernel)⟩
theorem lw_p126 : lw_okq (⟨"EvenRotaModel", "other", "(I)V"⟩, 81) := ⟨⟨by decide +kernel, by decide +kernel⟩, List.mem_of_getElem? (i := 1247) (by decide +kernel), List.mem_of_getElem? (i := 1585) (by decide +kernel), List.mem_of_getElem? (i := 1586) (by decide +kernel)⟩
theorem lw_p127 : lw_okq (⟨"EvenRotaModel", "kindTold", "()I"⟩, 81) := ⟨⟨by decide +kernel, by decide +kernel⟩, List.mem_of_getElem? (i := 1247) (by decide +kernel), List.mem_of_getElem? (i := 1589) (by decide +kernel), List.mem_of_getElem? (i := 1590) (by decide +kernel)⟩
def lw_privs_8 : List (MethodName × Nat) := [(⟨"EvenRotaModel", "takes", "([C)Z"⟩, 81), (⟨"EvenRotaModel", "isHere", "([C)Z"⟩, 81), (⟨"EvenRotaModel", "number", "(II)I"⟩, 81), (⟨"EvenRotaModel", "fail", "(II)V"⟩, 81), (⟨"EvenRotaModel", "person", "()V"⟩, 81), (⟨"EvenRotaModel", "newName", "()J"⟩, 81), (⟨"EvenRotaModel", "name", "()J"⟩, 81), (⟨"EvenRotaModel", "isOwnHere", "()Z"⟩, 81), (⟨"EvenRotaModel", "letters", "()J"⟩, 81), (⟨"EvenRotaModel", "personOf", "(IJ)I"⟩, 81), (⟨"EvenRotaModel", "kindOf", "(IJ)I"⟩, 81), (⟨"EvenRotaModel", "asks", "([C)V"⟩, 81), (⟨"EvenRotaModel", "shares", "(I)I"⟩, 81), (⟨"EvenRotaModel", "kind", "()V"⟩, 81), (⟨"EvenRotaModel", "other", "(I)V"⟩, 81), (⟨"EvenRotaModel", "kindTold", "()I"⟩, 81)]
theorem lw_r8 : ∀ q ∈ lw_privs_8, lw_okq q := List.forall_mem_cons.mpr ⟨lw_p112, List.forall_mem_cons.mpr ⟨lw_p113, List.forall_mem_cons.mpr ⟨lw_p114, List.forall_mem_cons.mpr ⟨lw_p115, List.forall_mem_cons.mpr ⟨lw_p116, List.forall_mem_cons.mpr ⟨lw_p117, List.forall_mem_cons.mpr ⟨lw_p118, List.forall_mem_cons.mpr ⟨lw_p119, List.forall_mem_cons.mpr ⟨lw_p120, List.forall_mem_cons.mpr ⟨lw_p121, List.forall_mem_cons.mpr ⟨lw_p122, List.forall_mem_cons.mpr ⟨lw_p123, List.forall_mem_cons.mpr ⟨lw_p124, List.forall_mem_cons.mpr ⟨lw_p125, List.forall_mem_cons.mpr ⟨lw_p126, List.forall_mem_cons.mpr ⟨lw_p127, fun _ h => absurd h List.not_mem_nil⟩⟩⟩⟩⟩⟩⟩⟩⟩⟩⟩⟩⟩⟩⟩⟩
theorem lw_p128 : lw_okq (⟨"EvenRotaModel", "tested", "(I)V"⟩, 81) := ⟨⟨by decide +kernel, by decide +kernel⟩, List.mem_of_getElem? (i := 1247) (by decide +kernel), List.mem_of_getElem? (i := 1593) (by decide +kernel), List.mem_of_getElem? (i := 1594) (by decide +kernel)⟩
theorem lw_p129 : lw_okq (⟨"EvenRotaModel", "test", "()V"⟩, 81) := ⟨⟨by decide +kernel, by decide +kernel⟩, List.mem_of_getElem? (i := 1247) (by decide +kernel), List.mem_of_getElem? (i := 1597) (by decide +kernel), List.mem_of_getElem? (i := 1598) (by decide +kernel)⟩
theorem lw_p130 : lw_okq (⟨"EvenRotaModel", "opens", "(II)V"⟩, 81) := ⟨⟨by decide +kernel, by decide +kernel⟩, List.mem_of_getElem? (i := 1247) (by decide +kernel), List.mem_of_getElem? (i := 1601) (by decide +kernel), List.mem_of_getElem? (i := 1602) (by decide +kernel)⟩
theorem lw_p131 : lw_okq (⟨"EvenRotaModel", "fact", "()V"⟩, 81) := ⟨⟨by decide +kernel, by decide +kernel⟩, List.mem_of_getElem? (i := 1247) (by decide +kernel), List.mem_of_getElem? (i := 1605) (by decide +kernel), List.mem_of_getElem? (i := 1606) (by decide +kernel)⟩
theorem lw_p132 : lw_okq (⟨"EvenRotaModel", "code", "(I)V"⟩, 81) := ⟨⟨by decide +kernel, by decide +kernel⟩, List.mem_of_getElem? (i := 1247) (by decide +kernel), List.mem_of_getElem? (i := 1609) (by decide +kernel), List.mem_of_getElem? (i := 1610) (by decide +kernel)⟩
theorem lw_p133 : lw_okq (⟨"EvenRotaModel", "sums", "()V"⟩, 81) := ⟨⟨by decide +kernel, by decide +kernel⟩, List.mem_of_getElem? (i := 1247) (by decide +kernel), List.mem_of_getElem? (i := 1613) (by decide +kernel), List.mem_of_getElem? (i := 1614) (by decide +kernel)⟩
theorem lw_p134 : lw_okq (⟨"EvenRotaModel", "onePart", "()V"⟩, 81) := ⟨⟨by decide +kernel, by decide +kernel⟩, List.mem_of_getElem? (i := 1247) (by decide +kernel), List.mem_of_getElem? (i := 1617) (by decide +kernel), List.mem_of_getElem? (i := 1618) (by decide +kernel)⟩
theorem lw_p135 : lw_okq (⟨"EvenRotaModel", "goesOn", "()Z"⟩, 81) := ⟨⟨by decide +kernel, by decide +kernel⟩, List.mem_of_getElem? (i := 1247) (by decide +kernel), List.mem_of_getElem? (i := 1621) (by decide +kernel), List.mem_of_getElem? (i := 1622) (by decide +kernel)⟩
theorem lw_p136 : lw_okq (⟨"EvenRotaModel", "mark", "()I"⟩, 81) := ⟨⟨by decide +kernel, by decide +kernel⟩, List.mem_of_getElem? (i := 1247) (by decide +kernel), List.mem_of_getElem? (i := 1625) (by decide +kernel), List.mem_of_getElem? (i := 1626) (by decide +kernel)⟩
theorem lw_p137 : lw_okq (⟨"EvenRotaModel", "isMark", "(I)Z"⟩, 81) := ⟨⟨by decide +kernel, by decide +kernel⟩, List.mem_of_getElem? (i := 1247) (by decide +kernel), List.mem_of_getElem? (i := 1629) (by decide +kernel), List.mem_of_getElem? (i := 1630) (by decide +kernel)⟩
theorem lw_p138 : lw_okq (⟨"EvenRotaModel", "dropsToMark", "()V"⟩, 81) := ⟨⟨by decide +kernel, by decide +kernel⟩, List.mem_of_getElem? (i := 1247) (by decide +kernel), List.mem_of_getElem? (i := 1633) (by decide +kernel), List.mem_of_getElem? (i := 1634) (by decide +kernel)⟩
theorem lw_p139 : lw_okq (⟨"EvenRotaModel", "drops", "()V"⟩, 81) := ⟨⟨by decide +kernel, by decide +kernel⟩, List.mem_of_getElem? (i := 1247) (by decide +kernel), List.mem_of_getElem? (i := 1637) (by decide +kernel), List.mem_of_getElem? (i := 1638) (by decide +kernel)⟩
theorem lw_p140 : lw_okq (⟨"EvenRotaModel", "isProduct", "()Z"⟩, 81) := ⟨⟨by decide +kernel, by decide +kernel⟩, List.mem_of_getElem? (i := 1247) (by decide +kernel), List.mem_of_getElem? (i := 1641) (by decide +kernel), List.mem_of_getElem? (i := 1642) (by decide +kernel)⟩
theorem lw_p141 : lw_okq (⟨"EvenRotaModel", "isOn", "(I)Z"⟩, 81) := ⟨⟨by decide +kernel, by decide +kernel⟩, List.mem_of_getElem? (i := 1247) (by decide +kernel), List.mem_of_getElem? (i := 1645) (by decide +kernel), List.mem_of_getElem? (i := 1646) (by decide +kernel)⟩
theorem lw_p142 : lw_okq (⟨"EvenRotaModel", "dropsNots", "()V"⟩, 81) := ⟨⟨by decide +kernel, by decide +kernel⟩, List.mem_of_getElem? (i := 1247) (by decide +kernel), List.mem_of_getElem? (i := 1649) (by decide +kernel), List.mem_of_getElem? (i := 1650) (by decide +kernel)⟩
theorem lw_p143 : lw_okq (⟨"EvenRotaModel", "goesOnTest", "()Z"⟩, 81) := ⟨⟨by decide +kernel, by decide +kernel⟩, List.mem_of_getElem? (i := 1247) (by decide +kernel), List.mem_of_getElem? (i := 1653) (by decide +kernel), List.mem_of_getElem? (i := 1654) (by decide +kernel)⟩
def lw_privs_9 : List (MethodName × Nat) := [(⟨"EvenRotaModel", "tested", "(I)V"⟩, 81), (⟨"EvenRotaModel", "test", "()V"⟩, 81), (⟨"EvenRotaModel", "opens", "(II)V"⟩, 81), (⟨"EvenRotaModel", "fact", "()V"⟩, 81), (⟨"EvenRotaModel", "code", "(I)V"⟩, 81), (⟨"EvenRotaModel", "sums", "()V"⟩, 81), (⟨"EvenRotaModel", "onePart", "()V"⟩, 81), (⟨"EvenRotaModel", "goesOn", "()Z"⟩, 81), (⟨"EvenRotaModel", "mark", "()I"⟩, 81), (⟨"EvenRotaModel", "isMark", "(I)Z"⟩, 81), (⟨"EvenRotaModel", "dropsToMark", "()V"⟩, 81), (⟨"EvenRotaModel", "drops", "()V"⟩, 81), (⟨"EvenRotaModel", "isProduct", "()Z"⟩, 81), (⟨"EvenRotaModel", "isOn", "(I)Z"⟩, 81), (⟨"EvenRotaModel", "dropsNots", "()V"⟩, 81), (⟨"EvenRotaModel", "goesOnTest", "()Z"⟩, 81)]
theorem lw_r9 : ∀ q ∈ lw_privs_9, lw_okq q := List.forall_mem_cons.mpr ⟨lw_p128, List.forall_mem_cons.mpr ⟨lw_p129, List.forall_mem_cons.mpr ⟨lw_p130, List.forall_mem_cons.mpr ⟨lw_p131, List.forall_mem_cons.mpr ⟨lw_p132, List.forall_mem_cons.mpr ⟨lw_p133, List.forall_mem_cons.mpr ⟨lw_p134, List.forall_mem_cons.mpr ⟨lw_p135, List.forall_mem_cons.mpr ⟨lw_p136, List.forall_mem_cons.mpr ⟨lw_p137, List.forall_mem_cons.mpr ⟨lw_p138, List.forall_mem_cons.mpr ⟨lw_p139, List.forall_mem_cons.mpr ⟨lw_p140, List.forall_mem_cons.mpr ⟨lw_p141, List.forall_mem_cons.mpr ⟨lw_p142, List.forall_mem_cons.mpr ⟨lw_p143, fun _ h => absurd h List.not_mem_nil⟩⟩⟩⟩⟩⟩⟩⟩⟩⟩⟩⟩⟩⟩⟩⟩
theorem lw_p144 : lw_okq (⟨"EvenRotaModel", "hasSquare", "()Z"⟩, 81) := ⟨⟨by decide +kernel, by decide +kernel⟩, List.mem_of_getElem? (i := 1247) (by decide +kernel), List.mem_of_getElem? (i := 1657) (by decide +kernel), List.mem_of_getElem? (i := 1658) (by decide +kernel)⟩
theorem lw_p145 : lw_okq (⟨"EvenRotaModel", "personTold", "(I)I"⟩, 81) := ⟨⟨by decide +kernel, by decide +kernel⟩, List.mem_of_getElem? (i := 1247) (by decide +kernel), List.mem_of_getElem? (i := 1661) (by decide +kernel), List.mem_of_getElem? (i := 1662) (by decide +kernel)⟩
theorem lw_p146 : lw_okq (⟨"EvenRotaModel", "asksSign", "(I)V"⟩, 81) := ⟨⟨by decide +kernel, by decide +kernel⟩, List.mem_of_getElem? (i := 1247) (by decide +kernel), List.mem_of_getElem? (i := 1665) (by decide +kernel), List.mem_of_getElem? (i := 1666) (by decide +kernel)⟩
theorem lw_p147 : lw_okq (⟨"EvenRotaModel", "takesSign", "(I)Z"⟩, 81) := ⟨⟨by decide +kernel, by decide +kernel⟩, List.mem_of_getElem? (i := 1247) (by decide +kernel), List.mem_of_getElem? (i := 1669) (by decide +kernel), List.mem_of_getElem? (i := 1670) (by decide +kernel)⟩
theorem lw_p148 : lw_okq (⟨"EvenRotaModel", "turnsOf", "()I"⟩, 81) := ⟨⟨by decide +kernel, by decide +kernel⟩, List.mem_of_getElem? (i := 1247) (by decide +kernel), List.mem_of_getElem? (i := 1673) (by decide +kernel), List.mem_of_getElem? (i := 1674) (by decide +kernel)⟩
theorem lw_p149 : lw_okq (⟨"EvenRotaModel", "holds", "(II)Z"⟩, 81) := ⟨⟨by decide +kernel, by decide +kernel⟩, List.mem_of_getElem? (i := 1247) (by decide +kernel), List.mem_of_getElem? (i := 1677) (by decide +kernel), List.mem_of_getElem? (i := 1678) (by decide +kernel)⟩
theorem lw_p150 : lw_okq (⟨"EvenRotaModel", "puts", "(J)V"⟩, 81) := ⟨⟨by decide +kernel, by decide +kernel⟩, List.mem_of_getElem? (i := 1247) (by decide +kernel), List.mem_of_getElem? (i := 1681) (by decide +kernel), List.mem_of_getElem? (i := 1682) (by decide +kernel)⟩
theorem lw_p151 : lw_okq (⟨"EvenRotaModel", "joins", "(I)V"⟩, 81) := ⟨⟨by decide +kernel, by decide +kernel⟩, List.mem_of_getElem? (i := 1247) (by decide +kernel), List.mem_of_getElem? (i := 1687) (by decide +kernel), List.mem_of_getElem? (i := 1688) (by decide +kernel)⟩
theorem lw_p152 : lw_okq (⟨"EvenRotaModel", "stands", "()V"⟩, 81) := ⟨⟨by decide +kernel, by decide +kernel⟩, List.mem_of_getElem? (i := 1247) (by decide +kernel), List.mem_of_getElem? (i := 1694) (by decide +kernel), List.mem_of_getElem? (i := 1695) (by decide +kernel)⟩
theorem lw_p153 : lw_okq (⟨"EvenRotaModel", "lays", "()V"⟩, 81) := ⟨⟨by decide +kernel, by decide +kernel⟩, List.mem_of_getElem? (i := 1247) (by decide +kernel), List.mem_of_getElem? (i := 1698) (by decide +kernel), List.mem_of_getElem? (i := 1699) (by decide +kernel)⟩
theorem lw_p154 : lw_okq (⟨"EvenRotaModel", "laysTurn", "(II)V"⟩, 81) := ⟨⟨by decide +kernel, by decide +kernel⟩, List.mem_of_getElem? (i := 1247) (by decide +kernel), List.mem_of_getElem? (i := 1702) (by decide +kernel), List.mem_of_getElem? (i := 1703) (by decide +kernel)⟩
theorem lw_p155 : lw_okq (⟨"EvenRotaModel", "turnsOfKind", "(I)I"⟩, 81) := ⟨⟨by decide +kernel, by decide +kernel⟩, List.mem_of_getElem? (i := 1247) (by decide +kernel), List.mem_of_getElem? (i := 1706) (by decide +kernel), List.mem_of_getElem? (i := 1707) (by decide +kernel)⟩
theorem lw_p156 : lw_okq (⟨"EvenRotaModel", "isKind", "(I)Z"⟩, 81) := ⟨⟨by decide +kernel, by decide +kernel⟩, List.mem_of_getElem? (i := 1247) (by decide +kernel), List.mem_of_getElem? (i := 1722) (by decide +kernel), List.mem_of_getElem? (i := 1723) (by decide +kernel)⟩
theorem lw_p157 : lw_okq (⟨"EvenRotaModel", "isPerson", "(I)Z"⟩, 81) := ⟨⟨by decide +kernel, by decide +kernel⟩, List.mem_of_getElem? (i := 1247) (by decide +kernel), List.mem_of_getElem? (i := 1726) (by decide +kernel), List.mem_of_getElem? (i := 1727) (by decide +kernel)⟩
theorem lw_p158 : lw_okq (⟨"EvenRotaModel", "isTurn", "(I)Z"⟩, 81) := ⟨⟨by decide +kernel, by decide +kernel⟩, List.mem_of_getElem? (i := 1247) (by decide +kernel), List.mem_of_getElem? (i := 1735) (by decide +kernel), List.mem_of_getElem? (i := 1736) (by decide +kernel)⟩
theorem lw_p159 : lw_okq (⟨"EvenRotaModel", "barOf", "(I)I"⟩, 81) := ⟨⟨by decide +kernel, by decide +kernel⟩, List.mem_of_getElem? (i := 1247) (by decide +kernel), List.mem_of_getElem? (i := 1739) (by decide +kernel), List.mem_of_getElem? (i := 1740) (by decide +kernel)⟩
def lw_privs_10 : List (MethodName × Nat) := [(⟨"EvenRotaModel", "hasSquare", "()Z"⟩, 81), (⟨"EvenRotaModel", "personTold", "(I)I"⟩, 81), (⟨"EvenRotaModel", "asksSign", "(I)V"⟩, 81), (⟨"EvenRotaModel", "takesSign", "(I)Z"⟩, 81), (⟨"EvenRotaModel", "turnsOf", "()I"⟩, 81), (⟨"EvenRotaModel", "holds", "(II)Z"⟩, 81), (⟨"EvenRotaModel", "puts", "(J)V"⟩, 81), (⟨"EvenRotaModel", "joins", "(I)V"⟩, 81), (⟨"EvenRotaModel", "stands", "()V"⟩, 81), (⟨"EvenRotaModel", "lays", "()V"⟩, 81), (⟨"EvenRotaModel", "laysTurn", "(II)V"⟩, 81), (⟨"EvenRotaModel", "turnsOfKind", "(I)I"⟩, 81), (⟨"EvenRotaModel", "isKind", "(I)Z"⟩, 81), (⟨"EvenRotaModel", "isPerson", "(I)Z"⟩, 81), (⟨"EvenRotaModel", "isTurn", "(I)Z"⟩, 81), (⟨"EvenRotaModel", "barOf", "(I)I"⟩, 81)]
theorem lw_r10 : ∀ q ∈ lw_privs_10, lw_okq q := List.forall_mem_cons.mpr ⟨lw_p144, List.forall_mem_cons.mpr ⟨lw_p145, List.forall_mem_cons.mpr ⟨lw_p146, List.forall_mem_cons.mpr ⟨lw_p147, List.forall_mem_cons.mpr ⟨lw_p148, List.forall_mem_cons.mpr ⟨lw_p149, List.forall_mem_cons.mpr ⟨lw_p150, List.forall_mem_cons.mpr ⟨lw_p151, List.forall_mem_cons.mpr ⟨lw_p152, List.forall_mem_cons.mpr ⟨lw_p153, List.forall_mem_cons.mpr ⟨lw_p154, List.forall_mem_cons.mpr ⟨lw_p155, List.forall_mem_cons.mpr ⟨lw_p156, List.forall_mem_cons.mpr ⟨lw_p157, List.forall_mem_cons.mpr ⟨lw_p158, List.forall_mem_cons.mpr ⟨lw_p159, fun _ h => absurd h List.not_mem_nil⟩⟩⟩⟩⟩⟩⟩⟩⟩⟩⟩⟩⟩⟩⟩⟩
theorem lw_p160 : lw_okq (⟨"EvenRotaModel", "barIf", "(II)I"⟩, 81) := ⟨⟨by decide +kernel, by decide +kernel⟩, List.mem_of_getElem? (i := 1247) (by decide +kernel), List.mem_of_getElem? (i := 1743) (by decide +kernel), List.mem_of_getElem? (i := 1744) (by decide +kernel)⟩
theorem lw_p161 : lw_okq (⟨"EvenRotaModel", "mayHave", "(II)Z"⟩, 81) := ⟨⟨by decide +kernel, by decide +kernel⟩, List.mem_of_getElem? (i := 1247) (by decide +kernel), List.mem_of_getElem? (i := 1747) (by decide +kernel), List.mem_of_getElem? (i := 1748) (by decide +kernel)⟩
theorem lw_p162 : lw_okq (⟨"EvenRotaModel", "servesOn", "(III)Z"⟩, 81) := ⟨⟨by decide +kernel, by decide +kernel⟩, List.mem_of_getElem? (i := 1247) (by decide +kernel), List.mem_of_getElem? (i := 1751) (by decide +kernel), List.mem_of_getElem? (i := 1752) (by decide +kernel)⟩
theorem lw_p163 : lw_okq (⟨"EvenRotaModel", "isRested", "(II)Z"⟩, 81) := ⟨⟨by decide +kernel, by decide +kernel⟩, List.mem_of_getElem? (i := 1247) (by decide +kernel), List.mem_of_getElem? (i := 1755) (by decide +kernel), List.mem_of_getElem? (i := 1756) (by decide +kernel)⟩
theorem lw_p164 : lw_okq (⟨"EvenRotaModel", "turnsOn", "(I)I"⟩, 81) := ⟨⟨by decide +kernel, by decide +kernel⟩, List.mem_of_getElem? (i := 1247) (by decide +kernel), List.mem_of_getElem? (i := 1759) (by decide +kernel), List.mem_of_getElem? (i := 1760) (by decide +kernel)⟩
theorem lw_p165 : lw_okq (⟨"EvenRotaModel", "dueOf", "(II)I"⟩, 81) := ⟨⟨by decide +kernel, by decide +kernel⟩, List.mem_of_getElem? (i := 1247) (by decide +kernel), List.mem_of_getElem? (i := 1771) (by decide +kernel), List.mem_of_getElem? (i := 1772) (by decide +kernel)⟩
theorem lw_p166 : lw_okq (⟨"EvenRotaModel", "isOf", "(II)Z"⟩, 81) := ⟨⟨by decide +kernel, by decide +kernel⟩, List.mem_of_getElem? (i := 1247) (by decide +kernel), List.mem_of_getElem? (i := 1781) (by decide +kernel), List.mem_of_getElem? (i := 1782) (by decide +kernel)⟩
theorem lw_p167 : lw_okq (⟨"EvenRotaModel", "stepOf", "(III)J"⟩, 81) := ⟨⟨by decide +kernel, by decide +kernel⟩, List.mem_of_getElem? (i := 1247) (by decide +kernel), List.mem_of_getElem? (i := 1785) (by decide +kernel), List.mem_of_getElem? (i := 1786) (by decide +kernel)⟩
theorem lw_p168 : lw_okq (⟨"EvenRotaModel", "gapOf", "(II)J"⟩, 81) := ⟨⟨by decide +kernel, by decide +kernel⟩, List.mem_of_getElem? (i := 1247) (by decide +kernel), List.mem_of_getElem? (i := 1793) (by decide +kernel), List.mem_of_getElem? (i := 1794) (by decide +kernel)⟩
theorem lw_p169 : lw_okq (⟨"EvenRotaModel", "worstGap", "()J"⟩, 81) := ⟨⟨by decide +kernel, by decide +kernel⟩, List.mem_of_getElem? (i := 1247) (by decide +kernel), List.mem_of_getElem? (i := 1806) (by decide +kernel), List.mem_of_getElem? (i := 1807) (by decide +kernel)⟩
theorem lw_p170 : lw_okq (⟨"EvenRotaModel", "laysFor", "(II)V"⟩, 81) := ⟨⟨by decide +kernel, by decide +kernel⟩, List.mem_of_getElem? (i := 1247) (by decide +kernel), List.mem_of_getElem? (i := 1822) (by decide +kernel), List.mem_of_getElem? (i := 1823) (by decide +kernel)⟩
theorem lw_p171 : lw_okq (⟨"EvenRotaModel", "likesOf", "(I)I"⟩, 81) := ⟨⟨by decide +kernel, by decide +kernel⟩, List.mem_of_getElem? (i := 1247) (by decide +kernel), List.mem_of_getElem? (i := 1834) (by decide +kernel), List.mem_of_getElem? (i := 1835) (by decide +kernel)⟩
theorem lw_p172 : lw_okq (⟨"EvenRotaModel", "laysRow", "(IZ)I"⟩, 81) := ⟨⟨by decide +kernel, by decide +kernel⟩, List.mem_of_getElem? (i := 1247) (by decide +kernel), List.mem_of_getElem? (i := 1846) (by decide +kernel), List.mem_of_getElem? (i := 1847) (by decide +kernel)⟩
theorem lw_p173 : lw_okq (⟨"EvenRotaModel", "takesRow", "()Z"⟩, 81) := ⟨⟨by decide +kernel, by decide +kernel⟩, List.mem_of_getElem? (i := 1247) (by decide +kernel), List.mem_of_getElem? (i := 1850) (by decide +kernel), List.mem_of_getElem? (i := 1851) (by decide +kernel)⟩
theorem lw_p174 : lw_okq (⟨"EvenRotaModel", "mayAll", "(I)Z"⟩, 81) := ⟨⟨by decide +kernel, by decide +kernel⟩, List.mem_of_getElem? (i := 1247) (by decide +kernel), List.mem_of_getElem? (i := 1863) (by decide +kernel), List.mem_of_getElem? (i := 1864) (by decide +kernel)⟩
theorem lw_p175 : lw_okq (⟨"EvenRotaModel", "evens", "(IJJ)Z"⟩, 81) := ⟨⟨by decide +kernel, by decide +kernel⟩, List.mem_of_getElem? (i := 1247) (by decide +kernel), List.mem_of_getElem? (i := 1867) (by decide +kernel), List.mem_of_getElem? (i := 1868) (by decide +kernel)⟩
def lw_privs_11 : List (MethodName × Nat) := [(⟨"EvenRotaModel", "barIf", "(II)I"⟩, 81), (⟨"EvenRotaModel", "mayHave", "(II)Z"⟩, 81), (⟨"EvenRotaModel", "servesOn", "(III)Z"⟩, 81), (⟨"EvenRotaModel", "isRested", "(II)Z"⟩, 81), (⟨"EvenRotaModel", "turnsOn", "(I)I"⟩, 81), (⟨"EvenRotaModel", "dueOf", "(II)I"⟩, 81), (⟨"EvenRotaModel", "isOf", "(II)Z"⟩, 81), (⟨"EvenRotaModel", "stepOf", "(III)J"⟩, 81), (⟨"EvenRotaModel", "gapOf", "(II)J"⟩, 81), (⟨"EvenRotaModel", "worstGap", "()J"⟩, 81), (⟨"EvenRotaModel", "laysFor", "(II)V"⟩, 81), (⟨"EvenRotaModel", "likesOf", "(I)I"⟩, 81), (⟨"EvenRotaModel", "laysRow", "(IZ)I"⟩, 81), (⟨"EvenRotaModel", "takesRow", "()Z"⟩, 81), (⟨"EvenRotaModel", "mayAll", "(I)Z"⟩, 81), (⟨"EvenRotaModel", "evens", "(IJJ)Z"⟩, 81)]
theorem lw_r11 : ∀ q ∈ lw_privs_11, lw_okq q := List.forall_mem_cons.mpr ⟨lw_p160, List.forall_mem_cons.mpr ⟨lw_p161, List.forall_mem_cons.mpr ⟨lw_p162, List.forall_mem_cons.mpr ⟨lw_p163, List.forall_mem_cons.mpr ⟨lw_p164, List.forall_mem_cons.mpr ⟨lw_p165, List.forall_mem_cons.mpr ⟨lw_p166, List.forall_mem_cons.mpr ⟨lw_p167, List.forall_mem_cons.mpr ⟨lw_p168, List.forall_mem_cons.mpr ⟨lw_p169, List.forall_mem_cons.mpr ⟨lw_p170, List.forall_mem_cons.mpr ⟨lw_p171, List.forall_mem_cons.mpr ⟨lw_p172, List.forall_mem_cons.mpr ⟨lw_p173, List.forall_mem_cons.mpr ⟨lw_p174, List.forall_mem_cons.mpr ⟨lw_p175, fun _ h => absurd h List.not_mem_nil⟩⟩⟩⟩⟩⟩⟩⟩⟩⟩⟩⟩⟩⟩⟩⟩
theorem lw_p176 : lw_okq (⟨"EvenRotaModel", "leastOf", "(I)I"⟩, 81) := ⟨⟨by decide +kernel, by decide +kernel⟩, List.mem_of_getElem? (i := 1247) (by decide +kernel), List.mem_of_getElem? (i := 1882) (by decide +kernel), List.mem_of_getElem? (i := 1883) (by decide +kernel)⟩
theorem lw_p177 : lw_okq (⟨"EvenRotaModel", "swap", "(II)V"⟩, 81) := ⟨⟨by decide +kernel, by decide +kernel⟩, List.mem_of_getElem? (i := 1247) (by decide +kernel), List.mem_of_getElem? (i := 1897) (by decide +kernel), List.mem_of_getElem? (i := 1898) (by decide +kernel)⟩
theorem lw_p178 : lw_okq (⟨"EvenRotaModel", "searches", "(IJ)I"⟩, 81) := ⟨⟨by decide +kernel, by decide +kernel⟩, List.mem_of_getElem? (i := 1247) (by decide +kernel), List.mem_of_getElem? (i := 1910) (by decide +kernel), List.mem_of_getElem? (i := 1911) (by decide +kernel)⟩
theorem lw_p179 : lw_okq (⟨"EvenRotaModel", "goesNext", "(II)Z"⟩, 81) := ⟨⟨by decide +kernel, by decide +kernel⟩, List.mem_of_getElem? (i := 1247) (by decide +kernel), List.mem_of_getElem? (i := 1914) (by decide +kernel), List.mem_of_getElem? (i := 1915) (by decide +kernel)⟩
theorem lw_p180 : lw_okq (⟨"EvenRotaModel", "areLaid", "()Z"⟩, 81) := ⟨⟨by decide +kernel, by decide +kernel⟩, List.mem_of_getElem? (i := 1247) (by decide +kernel), List.mem_of_getElem? (i := 1918) (by decide +kernel), List.mem_of_getElem? (i := 1919) (by decide +kernel)⟩
theorem lw_p181 : lw_okq (⟨"EvenRotaModel", "meetOf", "(II)I"⟩, 81) := ⟨⟨by decide +kernel, by decide +kernel⟩, List.mem_of_getElem? (i := 1247) (by decide +kernel), List.mem_of_getElem? (i := 1940) (by decide +kernel), List.mem_of_getElem? (i := 1941) (by decide +kernel)⟩
theorem lw_p182 : lw_okq (⟨"EvenRotaModel", "writes", "(I)V"⟩, 81) := ⟨⟨by decide +kernel, by decide +kernel⟩, List.mem_of_getElem? (i := 1247) (by decide +kernel), List.mem_of_getElem? (i := 1952) (by decide +kernel), List.mem_of_getElem? (i := 1953) (by decide +kernel)⟩
theorem lw_p183 : lw_okq (⟨"EvenRotaModel", "isImage", "(I)Z"⟩, 81) := ⟨⟨by decide +kernel, by decide +kernel⟩, List.mem_of_getElem? (i := 1247) (by decide +kernel), List.mem_of_getElem? (i := 1964) (by decide +kernel), List.mem_of_getElem? (i := 1965) (by decide +kernel)⟩
def lw_privs_12 : List (MethodName × Nat) := [(⟨"EvenRotaModel", "leastOf", "(I)I"⟩, 81), (⟨"EvenRotaModel", "swap", "(II)V"⟩, 81), (⟨"EvenRotaModel", "searches", "(IJ)I"⟩, 81), (⟨"EvenRotaModel", "goesNext", "(II)Z"⟩, 81), (⟨"EvenRotaModel", "areLaid", "()Z"⟩, 81), (⟨"EvenRotaModel", "meetOf", "(II)I"⟩, 81), (⟨"EvenRotaModel", "writes", "(I)V"⟩, 81), (⟨"EvenRotaModel", "isImage", "(I)Z"⟩, 81)]
theorem lw_r12 : ∀ q ∈ lw_privs_12, lw_okq q := List.forall_mem_cons.mpr ⟨lw_p176, List.forall_mem_cons.mpr ⟨lw_p177, List.forall_mem_cons.mpr ⟨lw_p178, List.forall_mem_cons.mpr ⟨lw_p179, List.forall_mem_cons.mpr ⟨lw_p180, List.forall_mem_cons.mpr ⟨lw_p181, List.forall_mem_cons.mpr ⟨lw_p182, List.forall_mem_cons.mpr ⟨lw_p183, fun _ h => absurd h List.not_mem_nil⟩⟩⟩⟩⟩⟩⟩⟩
def lw_privs : List (MethodName × Nat) := lw_privs_1 ++ (lw_privs_2 ++ (lw_privs_3 ++ (lw_privs_4 ++ (lw_privs_5 ++ (lw_privs_6 ++ (lw_privs_7 ++ (lw_privs_8 ++ (lw_privs_9 ++ (lw_privs_10 ++ (lw_privs_11 ++ (lw_privs_12)))))))))))
def lw_tbl : List Cond := k2_sels lw_privs ++ tables_1
theorem lw_privs_ok : ∀ q ∈ lw_privs, lw_okq q := by
  show ∀ q ∈ lw_privs_1 ++ (lw_privs_2 ++ (lw_privs_3 ++ (lw_privs_4 ++ (lw_privs_5 ++ (lw_privs_6 ++ (lw_privs_7 ++ (lw_privs_8 ++ (lw_privs_9 ++ (lw_privs_10 ++ (lw_privs_11 ++ (lw_privs_12))))))))))), lw_okq q
  exact List.forall_mem_append.mpr ⟨lw_r1, List.forall_mem_append.mpr ⟨lw_r2, List.forall_mem_append.mpr ⟨lw_r3, List.forall_mem_append.mpr ⟨lw_r4, List.forall_mem_append.mpr ⟨lw_r5, List.forall_mem_append.mpr ⟨lw_r6, List.forall_mem_append.mpr ⟨lw_r7, List.forall_mem_append.mpr ⟨lw_r8, List.forall_mem_append.mpr ⟨lw_r9, List.forall_mem_append.mpr ⟨lw_r10, List.forall_mem_append.mpr ⟨lw_r11, lw_r12⟩⟩⟩⟩⟩⟩⟩⟩⟩⟩⟩

def kR_0 : String := "EvenRota$Calendar"
def kT_0 : u_T := fun k => match k with
  | 0 => ("EvenRota$Calendar", "house", "LEvenRota$House;", true)
  | 1 => ("EvenRota$Calendar", "turns", "I", false)
  | 2 => ("EvenRota$Calendar", "dayOf", "[I", true)
  | 3 => ("EvenRota$Calendar", "kindOf", "[I", true)
  | 4 => ("EvenRota$Calendar", "mayOf", "[I", true)
  | 5 => ("EvenRota$Calendar", "unitOf", "[I", true)
  | 6 => ("EvenRota$Calendar", "rankOf", "[I", true)
  | 7 => ("EvenRota$Calendar", "byKind", "[I", true)
  | 8 => ("EvenRota$Calendar", "kindFirst", "[I", true)
  | _ => ("EvenRota$Calendar", "dayFirst", "[I", true)
def ky_0 : Nat → FieldType := fun k => match k with
  | 0 => .object "EvenRota$House"
  | 1 => .int
  | 2 => .array .int
  | 3 => .array .int
  | 4 => .array .int
  | 5 => .array .int
  | 6 => .array .int
  | 7 => .array .int
  | 8 => .array .int
  | _ => .array .int
theorem kn_0 : ∀ a, a < 10 → ∀ b, b < 10 → a ≠ b → (kT_0 a).2.1 ≠ (kT_0 b).2.1 := by decide +kernel
theorem kyo_0 : ∀ k, k < 10 → parseFieldDescriptor (kT_0 k).2.2.1 = some (ky_0 k) := by decide +kernel
def kR_1 : String := "EvenRota$Evener"
def kT_1 : u_T := fun k => match k with
  | 0 => ("EvenRota$Evener", "house", "LEvenRota$House;", true)
  | 1 => ("EvenRota$Evener", "row", "[I", true)
  | 2 => ("EvenRota$Evener", "had", "[I", true)
  | 3 => ("EvenRota$Evener", "must", "[I", true)
  | 4 => ("EvenRota$Evener", "cutTurn", "I", false)
  | 5 => ("EvenRota$Evener", "cutPersons", "I", false)
  | 6 => ("EvenRota$Evener", "keptTurn", "I", false)
  | _ => ("EvenRota$Evener", "keptPersons", "I", false)
def ky_1 : Nat → FieldType := fun k => match k with
  | 0 => .object "EvenRota$House"
  | 1 => .array .int
  | 2 => .array .int
  | 3 => .array .int
  | 4 => .int
  | 5 => .int
  | 6 => .int
  | _ => .int
theorem kn_1 : ∀ a, a < 8 → ∀ b, b < 8 → a ≠ b → (kT_1 a).2.1 ≠ (kT_1 b).2.1 := by decide +kernel
theorem kyo_1 : ∀ k, k < 8 → parseFieldDescriptor (kT_1 k).2.2.1 = some (ky_1 k) := by decide +kernel
def kR_2 : String := "EvenRota$House"
def kT_2 : u_T := fun k => match k with
  | 0 => ("EvenRota$House", "days", "I", false)
  | 1 => ("EvenRota$House", "persons", "I", false)
  | 2 => ("EvenRota$House", "kinds", "I", false)
  | 3 => ("EvenRota$House", "parts", "I", false)
  | 4 => ("EvenRota$House", "longestRest", "I", false)
  | 5 => ("EvenRota$House", "personName", "[I", true)
  | 6 => ("EvenRota$House", "part", "[I", true)
  | 7 => ("EvenRota$House", "from", "[I", true)
  | 8 => ("EvenRota$House", "to", "[I", true)
  | 9 => ("EvenRota$House", "apart", "[I", true)
  | 10 => ("EvenRota$House", "beside", "[I", true)
  | 11 => ("EvenRota$House", "kindName", "[I", true)
  | 12 => ("EvenRota$House", "weight", "[I", true)
  | _ => ("EvenRota$House", "rest", "[I", true)
def ky_2 : Nat → FieldType := fun k => match k with
  | 0 => .int
  | 1 => .int
  | 2 => .int
  | 3 => .int
  | 4 => .int
  | 5 => .array .int
  | 6 => .array .int
  | 7 => .array .int
  | 8 => .array .int
  | 9 => .array .int
  | 10 => .array .int
  | 11 => .array .int
  | 12 => .array .int
  | _ => .array .int
theorem kn_2 : ∀ a, a < 14 → ∀ b, b < 14 → a ≠ b → (kT_2 a).2.1 ≠ (kT_2 b).2.1 := by decide +kernel
theorem kyo_2 : ∀ k, k < 14 → parseFieldDescriptor (kT_2 k).2.2.1 = some (ky_2 k) := by decide +kernel
def kR_3 : String := "EvenRota$Illness"
def kT_3 : u_T := fun k => match k with
  | 0 => ("EvenRota$Illness", "house", "LEvenRota$House;", true)
  | 1 => ("EvenRota$Illness", "calendar", "LEvenRota$Calendar;", true)
  | 2 => ("EvenRota$Illness", "rota", "LEvenRota$Rota;", true)
  | 3 => ("EvenRota$Illness", "levels", "LEvenRota$Levels;", true)
  | 4 => ("EvenRota$Illness", "turns", "[I", true)
  | 5 => ("EvenRota$Illness", "counted", "[I", true)
  | 6 => ("EvenRota$Illness", "chosen", "[I", true)
  | 7 => ("EvenRota$Illness", "left", "[I", true)
  | 8 => ("EvenRota$Illness", "known", "[J", true)
  | 9 => ("EvenRota$Illness", "fits", "[J", true)
  | 10 => ("EvenRota$Illness", "count", "I", false)
  | 11 => ("EvenRota$Illness", "ways", "I", false)
  | _ => ("EvenRota$Illness", "bound", "J", false)
def ky_3 : Nat → FieldType := fun k => match k with
  | 0 => .object "EvenRota$House"
  | 1 => .object "EvenRota$Calendar"
  | 2 => .object "EvenRota$Rota"
  | 3 => .object "EvenRota$Levels"
  | 4 => .array .int
  | 5 => .array .int
  | 6 => .array .int
  | 7 => .array .int
  | 8 => .array .long
  | 9 => .array .long
  | 10 => .int
  | 11 => .int
  | _ => .long
theorem kn_3 : ∀ a, a < 13 → ∀ b, b < 13 → a ≠ b → (kT_3 a).2.1 ≠ (kT_3 b).2.1 := by decide +kernel
theorem kyo_3 : ∀ k, k < 13 → parseFieldDescriptor (kT_3 k).2.2.1 = some (ky_3 k) := by decide +kernel
def kR_4 : String := "EvenRota$Levels"
def kT_4 : u_T := fun k => match k with
  | 0 => ("EvenRota$Levels", "house", "LEvenRota$House;", true)
  | 1 => ("EvenRota$Levels", "calendar", "LEvenRota$Calendar;", true)
  | 2 => ("EvenRota$Levels", "rota", "LEvenRota$Rota;", true)
  | 3 => ("EvenRota$Levels", "stretchFirst", "I", false)
  | 4 => ("EvenRota$Levels", "stretchLast", "I", false)
  | 5 => ("EvenRota$Levels", "worstGap", "J", false)
  | 6 => ("EvenRota$Levels", "worstKind", "I", false)
  | _ => ("EvenRota$Levels", "worstPerson", "I", false)
def ky_4 : Nat → FieldType := fun k => match k with
  | 0 => .object "EvenRota$House"
  | 1 => .object "EvenRota$Calendar"
  | 2 => .object "EvenRota$Rota"
  | 3 => .int
  | 4 => .int
  | 5 => .long
  | 6 => .int
  | _ => .int
theorem kn_4 : ∀ a, a < 8 → ∀ b, b < 8 → a ≠ b → (kT_4 a).2.1 ≠ (kT_4 b).2.1 := by decide +kernel
theorem kyo_4 : ∀ k, k < 8 → parseFieldDescriptor (kT_4 k).2.2.1 = some (ky_4 k) := by decide +kernel
def kR_5 : String := "EvenRota$Reader"
def kT_5 : u_T := fun k => match k with
  | 0 => ("EvenRota$Reader", "tokens", "LEvenRota$Tokens;", true)
  | 1 => ("EvenRota$Reader", "draft", "LEvenRota$House;", true)
  | 2 => ("EvenRota$Reader", "tests", "LEvenRota$Tests;", true)
  | 3 => ("EvenRota$Reader", "row", "[I", true)
  | 4 => ("EvenRota$Reader", "at", "I", false)
  | 5 => ("EvenRota$Reader", "others", "I", false)
  | 6 => ("EvenRota$Reader", "fault", "I", false)
  | _ => ("EvenRota$Reader", "faultPlace", "I", false)
def ky_5 : Nat → FieldType := fun k => match k with
  | 0 => .object "EvenRota$Tokens"
  | 1 => .object "EvenRota$House"
  | 2 => .object "EvenRota$Tests"
  | 3 => .array .int
  | 4 => .int
  | 5 => .int
  | 6 => .int
  | _ => .int
theorem kn_5 : ∀ a, a < 8 → ∀ b, b < 8 → a ≠ b → (kT_5 a).2.1 ≠ (kT_5 b).2.1 := by decide +kernel
theorem kyo_5 : ∀ k, k < 8 → parseFieldDescriptor (kT_5 k).2.2.1 = some (ky_5 k) := by decide +kernel
def kR_6 : String := "EvenRota$Rota"
def kT_6 : u_T := fun k => match k with
  | 0 => ("EvenRota$Rota", "house", "LEvenRota$House;", true)
  | 1 => ("EvenRota$Rota", "calendar", "LEvenRota$Calendar;", true)
  | 2 => ("EvenRota$Rota", "countsFor", "[I", true)
  | 3 => ("EvenRota$Rota", "servedBy", "[I", true)
  | 4 => ("EvenRota$Rota", "standing", "[J", true)
  | _ => ("EvenRota$Rota", "lot", "J", false)
def ky_6 : Nat → FieldType := fun k => match k with
  | 0 => .object "EvenRota$House"
  | 1 => .object "EvenRota$Calendar"
  | 2 => .array .int
  | 3 => .array .int
  | 4 => .array .long
  | _ => .long
theorem kn_6 : ∀ a, a < 6 → ∀ b, b < 6 → a ≠ b → (kT_6 a).2.1 ≠ (kT_6 b).2.1 := by decide +kernel
theorem kyo_6 : ∀ k, k < 6 → parseFieldDescriptor (kT_6 k).2.2.1 = some (ky_6 k) := by decide +kernel
def kR_7 : String := "EvenRota$Swapper"
def kT_7 : u_T := fun k => match k with
  | 0 => ("EvenRota$Swapper", "house", "LEvenRota$House;", true)
  | 1 => ("EvenRota$Swapper", "calendar", "LEvenRota$Calendar;", true)
  | 2 => ("EvenRota$Swapper", "rota", "LEvenRota$Rota;", true)
  | 3 => ("EvenRota$Swapper", "levels", "LEvenRota$Levels;", true)
  | 4 => ("EvenRota$Swapper", "barred", "[Z", true)
  | 5 => ("EvenRota$Swapper", "gaps", "[J", true)
  | 6 => ("EvenRota$Swapper", "worstGap", "J", false)
  | 7 => ("EvenRota$Swapper", "left", "I", false)
  | _ => ("EvenRota$Swapper", "howEnded", "I", false)
def ky_7 : Nat → FieldType := fun k => match k with
  | 0 => .object "EvenRota$House"
  | 1 => .object "EvenRota$Calendar"
  | 2 => .object "EvenRota$Rota"
  | 3 => .object "EvenRota$Levels"
  | 4 => .array .boolean
  | 5 => .array .long
  | 6 => .long
  | 7 => .int
  | _ => .int
theorem kn_7 : ∀ a, a < 9 → ∀ b, b < 9 → a ≠ b → (kT_7 a).2.1 ≠ (kT_7 b).2.1 := by decide +kernel
theorem kyo_7 : ∀ k, k < 9 → parseFieldDescriptor (kT_7 k).2.2.1 = some (ky_7 k) := by decide +kernel
def kR_8 : String := "EvenRota$Tape"
def kT_8 : u_T := fun k => match k with
  | 0 => ("EvenRota$Tape", "bytes", "[I", true)
  | _ => ("EvenRota$Tape", "length", "I", false)
def ky_8 : Nat → FieldType := fun k => match k with
  | 0 => .array .int
  | _ => .int
theorem kn_8 : ∀ a, a < 2 → ∀ b, b < 2 → a ≠ b → (kT_8 a).2.1 ≠ (kT_8 b).2.1 := by decide +kernel
theorem kyo_8 : ∀ k, k < 2 → parseFieldDescriptor (kT_8 k).2.2.1 = some (ky_8 k) := by decide +kernel
def kR_9 : String := "EvenRota$Tests"
def kT_9 : u_T := fun k => match k with
  | 0 => ("EvenRota$Tests", "code", "[I", true)
  | 1 => ("EvenRota$Tests", "codeLength", "I", false)
  | 2 => ("EvenRota$Tests", "statements", "I", false)
  | 3 => ("EvenRota$Tests", "person", "[I", true)
  | 4 => ("EvenRota$Tests", "kind", "[I", true)
  | 5 => ("EvenRota$Tests", "codeEnd", "[I", true)
  | 6 => ("EvenRota$Tests", "truth", "[I", true)
  | _ => ("EvenRota$Tests", "stack", "[I", true)
def ky_9 : Nat → FieldType := fun k => match k with
  | 0 => .array .int
  | 1 => .int
  | 2 => .int
  | 3 => .array .int
  | 4 => .array .int
  | 5 => .array .int
  | 6 => .array .int
  | _ => .array .int
theorem kn_9 : ∀ a, a < 8 → ∀ b, b < 8 → a ≠ b → (kT_9 a).2.1 ≠ (kT_9 b).2.1 := by decide +kernel
theorem kyo_9 : ∀ k, k < 8 → parseFieldDescriptor (kT_9 k).2.2.1 = some (ky_9 k) := by decide +kernel
def kR_10 : String := "EvenRota$Tokens"
def kT_10 : u_T := fun k => match k with
  | 0 => ("EvenRota$Tokens", "sort", "[I", true)
  | 1 => ("EvenRota$Tokens", "place", "[I", true)
  | 2 => ("EvenRota$Tokens", "value", "[I", true)
  | _ => ("EvenRota$Tokens", "count", "I", false)
def ky_10 : Nat → FieldType := fun k => match k with
  | 0 => .array .int
  | 1 => .array .int
  | 2 => .array .int
  | _ => .int
theorem kn_10 : ∀ a, a < 4 → ∀ b, b < 4 → a ≠ b → (kT_10 a).2.1 ≠ (kT_10 b).2.1 := by decide +kernel
theorem kyo_10 : ∀ k, k < 4 → parseFieldDescriptor (kT_10 k).2.2.1 = some (ky_10 k) := by decide +kernel
def kR_11 : String := "EvenRota"
def kT_11 : u_T := fun k => match k with
  | 0 => ("EvenRota", "tape", "LEvenRota$Tape;", true)
  | 1 => ("EvenRota", "tokens", "LEvenRota$Tokens;", true)
  | 2 => ("EvenRota", "house", "LEvenRota$House;", true)
  | 3 => ("EvenRota", "reader", "LEvenRota$Reader;", true)
  | 4 => ("EvenRota", "calendar", "LEvenRota$Calendar;", true)
  | 5 => ("EvenRota", "rota", "LEvenRota$Rota;", true)
  | 6 => ("EvenRota", "levels", "LEvenRota$Levels;", true)
  | 7 => ("EvenRota", "evener", "LEvenRota$Evener;", true)
  | 8 => ("EvenRota", "swapper", "LEvenRota$Swapper;", true)
  | 9 => ("EvenRota", "illness", "LEvenRota$Illness;", true)
  | 10 => ("EvenRota", "picture", "[I", true)
  | _ => ("EvenRota", "pictureLength", "I", false)
def ky_11 : Nat → FieldType := fun k => match k with
  | 0 => .object "EvenRota$Tape"
  | 1 => .object "EvenRota$Tokens"
  | 2 => .object "EvenRota$House"
  | 3 => .object "EvenRota$Reader"
  | 4 => .object "EvenRota$Calendar"
  | 5 => .object "EvenRota$Rota"
  | 6 => .object "EvenRota$Levels"
  | 7 => .object "EvenRota$Evener"
  | 8 => .object "EvenRota$Swapper"
  | 9 => .object "EvenRota$Illness"
  | 10 => .array .int
  | _ => .int
theorem kn_11 : ∀ a, a < 12 → ∀ b, b < 12 → a ≠ b → (kT_11 a).2.1 ≠ (kT_11 b).2.1 := by decide +kernel
theorem kyo_11 : ∀ k, k < 12 → parseFieldDescriptor (kT_11 k).2.2.1 = some (ky_11 k) := by decide +kernel
def kR_12 : String := "EvenRotaModel"
def kT_12 : u_T := fun k => match k with
  | 0 => ("EvenRotaModel", "tape", "[I", true)
  | 1 => ("EvenRotaModel", "taped", "I", false)
  | 2 => ("EvenRotaModel", "at", "I", false)
  | 3 => ("EvenRotaModel", "end", "I", false)
  | 4 => ("EvenRotaModel", "ended", "I", false)
  | 5 => ("EvenRotaModel", "bad", "I", false)
  | 6 => ("EvenRotaModel", "badPlace", "I", false)
  | 7 => ("EvenRotaModel", "fault", "I", false)
  | 8 => ("EvenRotaModel", "faultPlace", "I", false)
  | 9 => ("EvenRotaModel", "numberPlace", "I", false)
  | 10 => ("EvenRotaModel", "daysWord", "[C", true)
  | 11 => ("EvenRotaModel", "personWord", "[C", true)
  | 12 => ("EvenRotaModel", "partWord", "[C", true)
  | 13 => ("EvenRotaModel", "fromWord", "[C", true)
  | 14 => ("EvenRotaModel", "toWord", "[C", true)
  | 15 => ("EvenRotaModel", "kindWord", "[C", true)
  | 16 => ("EvenRotaModel", "weighsWord", "[C", true)
  | 17 => ("EvenRotaModel", "turnWord", "[C", true)
  | 18 => ("EvenRotaModel", "onWord", "[C", true)
  | 19 => ("EvenRotaModel", "neverWord", "[C", true)
  | 20 => ("EvenRotaModel", "restWord", "[C", true)
  | 21 => ("EvenRotaModel", "apartWord", "[C", true)
  | 22 => ("EvenRotaModel", "besideWord", "[C", true)
  | 23 => ("EvenRotaModel", "orWord", "[C", true)
  | 24 => ("EvenRotaModel", "andWord", "[C", true)
  | 25 => ("EvenRotaModel", "notWord", "[C", true)
  | 26 => ("EvenRotaModel", "allWord", "[C", true)
  | 27 => ("EvenRotaModel", "dayWord", "[C", true)
  | 28 => ("EvenRotaModel", "weekWord", "[C", true)
  | 29 => ("EvenRotaModel", "weekdayWord", "[C", true)
  | 30 => ("EvenRotaModel", "namePlace", "I", false)
  | 31 => ("EvenRotaModel", "days", "[I", true)
  | 32 => ("EvenRotaModel", "persons", "[I", true)
  | 33 => ("EvenRotaModel", "kinds", "[I", true)
  | 34 => ("EvenRotaModel", "others", "[I", true)
  | 35 => ("EvenRotaModel", "personName", "[J", true)
  | 36 => ("EvenRotaModel", "share", "[I", true)
  | 37 => ("EvenRotaModel", "fromDay", "[I", true)
  | 38 => ("EvenRotaModel", "toDay", "[I", true)
  | 39 => ("EvenRotaModel", "kindName", "[J", true)
  | 40 => ("EvenRotaModel", "weight", "[I", true)
  | 41 => ("EvenRotaModel", "sort", "[I", true)
  | 42 => ("EvenRotaModel", "one", "[I", true)
  | 43 => ("EvenRotaModel", "two", "[I", true)
  | 44 => ("EvenRotaModel", "three", "[I", true)
  | 45 => ("EvenRotaModel", "codeFrom", "[I", true)
  | 46 => ("EvenRotaModel", "codeEnd", "[I", true)
  | 47 => ("EvenRotaModel", "codes", "[I", true)
  | 48 => ("EvenRotaModel", "coded", "I", false)
  | 49 => ("EvenRotaModel", "wait", "[I", true)
  | 50 => ("EvenRotaModel", "waits", "I", false)
  | 51 => ("EvenRotaModel", "open", "I", false)
  | 52 => ("EvenRotaModel", "base", "I", false)
  | 53 => ("EvenRotaModel", "pile", "[J", true)
  | 54 => ("EvenRotaModel", "piled", "I", false)
  | 55 => ("EvenRotaModel", "turns", "I", false)
  | 56 => ("EvenRotaModel", "dayOf", "[I", true)
  | 57 => ("EvenRotaModel", "kindAt", "[I", true)
  | 58 => ("EvenRotaModel", "numberOf", "[I", true)
  | 59 => ("EvenRotaModel", "mays", "[I", true)
  | 60 => ("EvenRotaModel", "counts", "[I", true)
  | 61 => ("EvenRotaModel", "serves", "[I", true)
  | 62 => ("EvenRotaModel", "worstKind", "I", false)
  | 63 => ("EvenRotaModel", "worstPerson", "I", false)
  | 64 => ("EvenRotaModel", "levelNow", "[J", true)
  | 65 => ("EvenRotaModel", "like", "[I", true)
  | 66 => ("EvenRotaModel", "rowMany", "I", false)
  | 67 => ("EvenRotaModel", "row", "[I", true)
  | 68 => ("EvenRotaModel", "cutTurn", "I", false)
  | 69 => ("EvenRotaModel", "cutPersons", "I", false)
  | 70 => ("EvenRotaModel", "goesTo", "[I", true)
  | 71 => ("EvenRotaModel", "had", "[I", true)
  | 72 => ("EvenRotaModel", "stoppedAt", "I", false)
  | 73 => ("EvenRotaModel", "stoppedBy", "I", false)
  | 74 => ("EvenRotaModel", "ends", "I", false)
  | 75 => ("EvenRotaModel", "illTurn", "[I", true)
  | 76 => ("EvenRotaModel", "illCounts", "[I", true)
  | 77 => ("EvenRotaModel", "illServes", "[I", true)
  | 78 => ("EvenRotaModel", "ills", "I", false)
  | 79 => ("EvenRotaModel", "octet", "[I", true)
  | _ => ("EvenRotaModel", "octets", "I", false)
def ky_12 : Nat → FieldType := fun k => match k with
  | 0 => .array .int
  | 1 => .int
  | 2 => .int
  | 3 => .int
  | 4 => .int
  | 5 => .int
  | 6 => .int
  | 7 => .int
  | 8 => .int
  | 9 => .int
  | 10 => .array .char
  | 11 => .array .char
  | 12 => .array .char
  | 13 => .array .char
  | 14 => .array .char
  | 15 => .array .char
  | 16 => .array .char
  | 17 => .array .char
  | 18 => .array .char
  | 19 => .array .char
  | 20 => .array .char
  | 21 => .array .char
  | 22 => .array .char
  | 23 => .array .char
  | 24 => .array .char
  | 25 => .array .char
  | 26 => .array .char
  | 27 => .array .char
  | 28 => .array .char
  | 29 => .array .char
  | 30 => .int
  | 31 => .array .int
  | 32 => .array .int
  | 33 => .array .int
  | 34 => .array .int
  | 35 => .array .long
  | 36 => .array .int
  | 37 => .array .int
  | 38 => .array .int
  | 39 => .array .long
  | 40 => .array .int
  | 41 => .array .int
  | 42 => .array .int
  | 43 => .array .int
  | 44 => .array .int
  | 45 => .array .int
  | 46 => .array .int
  | 47 => .array .int
  | 48 => .int
  | 49 => .array .int
  | 50 => .int
  | 51 => .int
  | 52 => .int
  | 53 => .array .long
  | 54 => .int
  | 55 => .int
  | 56 => .array .int
  | 57 => .array .int
  | 58 => .array .int
  | 59 => .array .int
  | 60 => .array .int
  | 61 => .array .int
  | 62 => .int
  | 63 => .int
  | 64 => .array .long
  | 65 => .array .int
  | 66 => .int
  | 67 => .array .int
  | 68 => .int
  | 69 => .int
  | 70 => .array .int
  | 71 => .array .int
  | 72 => .int
  | 73 => .int
  | 74 => .int
  | 75 => .array .int
  | 76 => .array .int
  | 77 => .array .int
  | 78 => .int
  | 79 => .array .int
  | _ => .int
theorem kn_12 : ∀ a, a < 81 → ∀ b, b < 81 → a ≠ b → (kT_12 a).2.1 ≠ (kT_12 b).2.1 := by decide +kernel
theorem kyo_12 : ∀ k, k < 81 → parseFieldDescriptor (kT_12 k).2.2.1 = some (ky_12 k) := by decide +kernel
abbrev kCl : List vw_C := [(kR_0, kT_0, 10), (kR_1, kT_1, 8), (kR_2, kT_2, 14), (kR_3, kT_3, 13), (kR_4, kT_4, 8), (kR_5, kT_5, 8), (kR_6, kT_6, 6), (kR_7, kT_7, 9), (kR_8, kT_8, 2), (kR_9, kT_9, 8), (kR_10, kT_10, 4), (kR_11, kT_11, 12), (kR_12, kT_12, 81)]
