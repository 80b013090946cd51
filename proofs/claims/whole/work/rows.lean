section
-- ===== PART A: goes FIRST, ahead of the names: the tables' words, and 'selects' of the private methods out of them =====
/-- a private method of a class that the tables say can be made, by its rows of tables_1 -/
def lw_okq (q : MethodName × Nat) : Prop := (q.1.cls ≠ "java/lang/invoke/MethodHandle" ∧ q.1.cls ≠ "java/lang/invoke/VarHandle") ∧ Cond.instantiable q.1.cls q.2 ∈ tables_1 ∧ Cond.privateMethod q.1 ∈ tables_1 ∧ Cond.instanceMethod q.1 ∈ tables_1
theorem lw_p0 : lw_okq (⟨"LeanMarks", "rowAt", "(I)LLeanMarks$Row;"⟩, 8) := ⟨⟨by decide +kernel, by decide +kernel⟩, List.mem_of_getElem? (i := 13) (by decide +kernel), List.mem_of_getElem? (i := 170) (by decide +kernel), List.mem_of_getElem? (i := 171) (by decide +kernel)⟩
theorem lw_p1 : lw_okq (⟨"LeanMarks$Text", "byteAt", "(I)I"⟩, 2) := ⟨⟨by decide +kernel, by decide +kernel⟩, List.mem_of_getElem? (i := 39) (by decide +kernel), List.mem_of_getElem? (i := 236) (by decide +kernel), List.mem_of_getElem? (i := 237) (by decide +kernel)⟩
theorem lw_p2 : lw_okq (⟨"LeanMarks$Text", "isColumn", "(I)Z"⟩, 2) := ⟨⟨by decide +kernel, by decide +kernel⟩, List.mem_of_getElem? (i := 39) (by decide +kernel), List.mem_of_getElem? (i := 240) (by decide +kernel), List.mem_of_getElem? (i := 241) (by decide +kernel)⟩
theorem lw_p3 : lw_okq (⟨"LeanMarks", "layOne", "(IIII)V"⟩, 8) := ⟨⟨by decide +kernel, by decide +kernel⟩, List.mem_of_getElem? (i := 13) (by decide +kernel), List.mem_of_getElem? (i := 257) (by decide +kernel), List.mem_of_getElem? (i := 258) (by decide +kernel)⟩
theorem lw_p4 : lw_okq (⟨"LeanMarks$Moves", "meetAll", "(IILLeanMarks$Row;)V"⟩, 4) := ⟨⟨by decide +kernel, by decide +kernel⟩, List.mem_of_getElem? (i := 52) (by decide +kernel), List.mem_of_getElem? (i := 348) (by decide +kernel), List.mem_of_getElem? (i := 349) (by decide +kernel)⟩
theorem lw_p5 : lw_okq (⟨"LeanMarks$Moves", "weigh", "(I)V"⟩, 4) := ⟨⟨by decide +kernel, by decide +kernel⟩, List.mem_of_getElem? (i := 52) (by decide +kernel), List.mem_of_getElem? (i := 356) (by decide +kernel), List.mem_of_getElem? (i := 357) (by decide +kernel)⟩
theorem lw_p6 : lw_okq (⟨"LeanMarks", "countOrMake", "(II)I"⟩, 8) := ⟨⟨by decide +kernel, by decide +kernel⟩, List.mem_of_getElem? (i := 13) (by decide +kernel), List.mem_of_getElem? (i := 390) (by decide +kernel), List.mem_of_getElem? (i := 391) (by decide +kernel)⟩
theorem lw_p7 : lw_okq (⟨"LeanMarks$Search", "begin", "(I)V"⟩, 9) := ⟨⟨by decide +kernel, by decide +kernel⟩, List.mem_of_getElem? (i := 71) (by decide +kernel), List.mem_of_getElem? (i := 398) (by decide +kernel), List.mem_of_getElem? (i := 399) (by decide +kernel)⟩
theorem lw_p8 : lw_okq (⟨"LeanMarks$Search", "walk", "(II)Z"⟩, 9) := ⟨⟨by decide +kernel, by decide +kernel⟩, List.mem_of_getElem? (i := 71) (by decide +kernel), List.mem_of_getElem? (i := 402) (by decide +kernel), List.mem_of_getElem? (i := 403) (by decide +kernel)⟩
theorem lw_p9 : lw_okq (⟨"LeanMarks$Search", "freeLines", "(II)I"⟩, 9) := ⟨⟨by decide +kernel, by decide +kernel⟩, List.mem_of_getElem? (i := 71) (by decide +kernel), List.mem_of_getElem? (i := 406) (by decide +kernel), List.mem_of_getElem? (i := 407) (by decide +kernel)⟩
theorem lw_p10 : lw_okq (⟨"LeanMarks$Search", "endIn", "(II)Z"⟩, 9) := ⟨⟨by decide +kernel, by decide +kernel⟩, List.mem_of_getElem? (i := 71) (by decide +kernel), List.mem_of_getElem? (i := 410) (by decide +kernel), List.mem_of_getElem? (i := 411) (by decide +kernel)⟩
theorem lw_p11 : lw_okq (⟨"LeanMarks$Search", "flipSteps", "(I)V"⟩, 9) := ⟨⟨by decide +kernel, by decide +kernel⟩, List.mem_of_getElem? (i := 71) (by decide +kernel), List.mem_of_getElem? (i := 420) (by decide +kernel), List.mem_of_getElem? (i := 421) (by decide +kernel)⟩
theorem lw_p12 : lw_okq (⟨"LeanMarks$Search", "stepBits", "(I)I"⟩, 9) := ⟨⟨by decide +kernel, by decide +kernel⟩, List.mem_of_getElem? (i := 71) (by decide +kernel), List.mem_of_getElem? (i := 424) (by decide +kernel), List.mem_of_getElem? (i := 425) (by decide +kernel)⟩
theorem lw_p13 : lw_okq (⟨"LeanMarks$Permuting", "countFrom", "(III)I"⟩, 2) := ⟨⟨by decide +kernel, by decide +kernel⟩, List.mem_of_getElem? (i := 105) (by decide +kernel), List.mem_of_getElem? (i := 458) (by decide +kernel), List.mem_of_getElem? (i := 459) (by decide +kernel)⟩
theorem lw_p14 : lw_okq (⟨"LeanMarks$Permuting", "newQuarrels", "(I)I"⟩, 2) := ⟨⟨by decide +kernel, by decide +kernel⟩, List.mem_of_getElem? (i := 105) (by decide +kernel), List.mem_of_getElem? (i := 462) (by decide +kernel), List.mem_of_getElem? (i := 463) (by decide +kernel)⟩
theorem lw_p15 : lw_okq (⟨"LeanMarks", "keepSquare", "(LLeanMarks$Row;)I"⟩, 8) := ⟨⟨by decide +kernel, by decide +kernel⟩, List.mem_of_getElem? (i := 13) (by decide +kernel), List.mem_of_getElem? (i := 485) (by decide +kernel), List.mem_of_getElem? (i := 486) (by decide +kernel)⟩
def lw_privs_1 : List (MethodName × Nat) := [(⟨"LeanMarks", "rowAt", "(I)LLeanMarks$Row;"⟩, 8), (⟨"LeanMarks$Text", "byteAt", "(I)I"⟩, 2), (⟨"LeanMarks$Text", "isColumn", "(I)Z"⟩, 2), (⟨"LeanMarks", "layOne", "(IIII)V"⟩, 8), (⟨"LeanMarks$Moves", "meetAll", "(IILLeanMarks$Row;)V"⟩, 4), (⟨"LeanMarks$Moves", "weigh", "(I)V"⟩, 4), (⟨"LeanMarks", "countOrMake", "(II)I"⟩, 8), (⟨"LeanMarks$Search", "begin", "(I)V"⟩, 9), (⟨"LeanMarks$Search", "walk", "(II)Z"⟩, 9), (⟨"LeanMarks$Search", "freeLines", "(II)I"⟩, 9), (⟨"LeanMarks$Search", "endIn", "(II)Z"⟩, 9), (⟨"LeanMarks$Search", "flipSteps", "(I)V"⟩, 9), (⟨"LeanMarks$Search", "stepBits", "(I)I"⟩, 9), (⟨"LeanMarks$Permuting", "countFrom", "(III)I"⟩, 2), (⟨"LeanMarks$Permuting", "newQuarrels", "(I)I"⟩, 2), (⟨"LeanMarks", "keepSquare", "(LLeanMarks$Row;)I"⟩, 8)]
theorem lw_r1 : ∀ q ∈ lw_privs_1, lw_okq q := List.forall_mem_cons.mpr ⟨lw_p0, List.forall_mem_cons.mpr ⟨lw_p1, List.forall_mem_cons.mpr ⟨lw_p2, List.forall_mem_cons.mpr ⟨lw_p3, List.forall_mem_cons.mpr ⟨lw_p4, List.forall_mem_cons.mpr ⟨lw_p5, List.forall_mem_cons.mpr ⟨lw_p6, List.forall_mem_cons.mpr ⟨lw_p7, List.forall_mem_cons.mpr ⟨lw_p8, List.forall_mem_cons.mpr ⟨lw_p9, List.forall_mem_cons.mpr ⟨lw_p10, List.forall_mem_cons.mpr ⟨lw_p11, List.forall_mem_cons.mpr ⟨lw_p12, List.forall_mem_cons.mpr ⟨lw_p13, List.forall_mem_cons.mpr ⟨lw_p14, List.forall_mem_cons.mpr ⟨lw_p15, fun _ h => absurd h List.not_mem_nil⟩⟩⟩⟩⟩⟩⟩⟩⟩⟩⟩⟩⟩⟩⟩⟩
theorem lw_p16 : lw_okq (⟨"LeanMarks", "isNewTurning", "(I)Z"⟩, 8) := ⟨⟨by decide +kernel, by decide +kernel⟩, List.mem_of_getElem? (i := 13) (by decide +kernel), List.mem_of_getElem? (i := 517) (by decide +kernel), List.mem_of_getElem? (i := 518) (by decide +kernel)⟩
theorem lw_p17 : lw_okq (⟨"LeanMarks", "setOn", "(LLeanMarks$Row;ZZ)I"⟩, 8) := ⟨⟨by decide +kernel, by decide +kernel⟩, List.mem_of_getElem? (i := 13) (by decide +kernel), List.mem_of_getElem? (i := 525) (by decide +kernel), List.mem_of_getElem? (i := 526) (by decide +kernel)⟩
theorem lw_p18 : lw_okq (⟨"LeanMarks", "takeOff", "(LLeanMarks$Row;ZZ)I"⟩, 8) := ⟨⟨by decide +kernel, by decide +kernel⟩, List.mem_of_getElem? (i := 13) (by decide +kernel), List.mem_of_getElem? (i := 529) (by decide +kernel), List.mem_of_getElem? (i := 530) (by decide +kernel)⟩
theorem lw_p19 : lw_okq (⟨"LeanMarks$Echo", "meetHeard", "(II)V"⟩, 5) := ⟨⟨by decide +kernel, by decide +kernel⟩, List.mem_of_getElem? (i := 118) (by decide +kernel), List.mem_of_getElem? (i := 574) (by decide +kernel), List.mem_of_getElem? (i := 575) (by decide +kernel)⟩
theorem lw_p20 : lw_okq (⟨"LeanMarks", "bestHeard", "(I)I"⟩, 8) := ⟨⟨by decide +kernel, by decide +kernel⟩, List.mem_of_getElem? (i := 13) (by decide +kernel), List.mem_of_getElem? (i := 594) (by decide +kernel), List.mem_of_getElem? (i := 595) (by decide +kernel)⟩
theorem lw_p21 : lw_okq (⟨"LeanMarks", "marksInAll", "()I"⟩, 8) := ⟨⟨by decide +kernel, by decide +kernel⟩, List.mem_of_getElem? (i := 13) (by decide +kernel), List.mem_of_getElem? (i := 602) (by decide +kernel), List.mem_of_getElem? (i := 603) (by decide +kernel)⟩
theorem lw_p22 : lw_okq (⟨"LeanMarks", "columnsInAll", "()I"⟩, 8) := ⟨⟨by decide +kernel, by decide +kernel⟩, List.mem_of_getElem? (i := 13) (by decide +kernel), List.mem_of_getElem? (i := 611) (by decide +kernel), List.mem_of_getElem? (i := 612) (by decide +kernel)⟩
theorem lw_p23 : lw_okq (⟨"LeanMarksModel", "at", "(II)I"⟩, 18) := ⟨⟨by decide +kernel, by decide +kernel⟩, List.mem_of_getElem? (i := 615) (by decide +kernel), List.mem_of_getElem? (i := 716) (by decide +kernel), List.mem_of_getElem? (i := 717) (by decide +kernel)⟩
theorem lw_p24 : lw_okq (⟨"LeanMarksModel", "are", "(III)Z"⟩, 18) := ⟨⟨by decide +kernel, by decide +kernel⟩, List.mem_of_getElem? (i := 615) (by decide +kernel), List.mem_of_getElem? (i := 731) (by decide +kernel), List.mem_of_getElem? (i := 732) (by decide +kernel)⟩
theorem lw_p25 : lw_okq (⟨"LeanMarksModel", "off", "(IIII)I"⟩, 18) := ⟨⟨by decide +kernel, by decide +kernel⟩, List.mem_of_getElem? (i := 615) (by decide +kernel), List.mem_of_getElem? (i := 735) (by decide +kernel), List.mem_of_getElem? (i := 736) (by decide +kernel)⟩
theorem lw_p26 : lw_okq (⟨"LeanMarksModel", "roundOf", "(IIII)I"⟩, 18) := ⟨⟨by decide +kernel, by decide +kernel⟩, List.mem_of_getElem? (i := 615) (by decide +kernel), List.mem_of_getElem? (i := 749) (by decide +kernel), List.mem_of_getElem? (i := 750) (by decide +kernel)⟩
theorem lw_p27 : lw_okq (⟨"LeanMarksModel", "hitsOf", "(IIII)I"⟩, 18) := ⟨⟨by decide +kernel, by decide +kernel⟩, List.mem_of_getElem? (i := 615) (by decide +kernel), List.mem_of_getElem? (i := 753) (by decide +kernel), List.mem_of_getElem? (i := 754) (by decide +kernel)⟩
theorem lw_p28 : lw_okq (⟨"LeanMarksModel", "lays", "(IIIZII)I"⟩, 18) := ⟨⟨by decide +kernel, by decide +kernel⟩, List.mem_of_getElem? (i := 615) (by decide +kernel), List.mem_of_getElem? (i := 766) (by decide +kernel), List.mem_of_getElem? (i := 767) (by decide +kernel)⟩
theorem lw_p29 : lw_okq (⟨"LeanMarksModel", "may", "(IIIZI)Z"⟩, 18) := ⟨⟨by decide +kernel, by decide +kernel⟩, List.mem_of_getElem? (i := 615) (by decide +kernel), List.mem_of_getElem? (i := 770) (by decide +kernel), List.mem_of_getElem? (i := 771) (by decide +kernel)⟩
theorem lw_p30 : lw_okq (⟨"LeanMarksModel", "isUnlike", "(I)Z"⟩, 18) := ⟨⟨by decide +kernel, by decide +kernel⟩, List.mem_of_getElem? (i := 615) (by decide +kernel), List.mem_of_getElem? (i := 774) (by decide +kernel), List.mem_of_getElem? (i := 775) (by decide +kernel)⟩
theorem lw_p31 : lw_okq (⟨"LeanMarksModel", "isLean", "(III)Z"⟩, 18) := ⟨⟨by decide +kernel, by decide +kernel⟩, List.mem_of_getElem? (i := 615) (by decide +kernel), List.mem_of_getElem? (i := 778) (by decide +kernel), List.mem_of_getElem? (i := 779) (by decide +kernel)⟩
def lw_privs_2 : List (MethodName × Nat) := [(⟨"LeanMarks", "isNewTurning", "(I)Z"⟩, 8), (⟨"LeanMarks", "setOn", "(LLeanMarks$Row;ZZ)I"⟩, 8), (⟨"LeanMarks", "takeOff", "(LLeanMarks$Row;ZZ)I"⟩, 8), (⟨"LeanMarks$Echo", "meetHeard", "(II)V"⟩, 5), (⟨"LeanMarks", "bestHeard", "(I)I"⟩, 8), (⟨"LeanMarks", "marksInAll", "()I"⟩, 8), (⟨"LeanMarks", "columnsInAll", "()I"⟩, 8), (⟨"LeanMarksModel", "at", "(II)I"⟩, 18), (⟨"LeanMarksModel", "are", "(III)Z"⟩, 18), (⟨"LeanMarksModel", "off", "(IIII)I"⟩, 18), (⟨"LeanMarksModel", "roundOf", "(IIII)I"⟩, 18), (⟨"LeanMarksModel", "hitsOf", "(IIII)I"⟩, 18), (⟨"LeanMarksModel", "lays", "(IIIZII)I"⟩, 18), (⟨"LeanMarksModel", "may", "(IIIZI)Z"⟩, 18), (⟨"LeanMarksModel", "isUnlike", "(I)Z"⟩, 18), (⟨"LeanMarksModel", "isLean", "(III)Z"⟩, 18)]
theorem lw_r2 : ∀ q ∈ lw_privs_2, lw_okq q := List.forall_mem_cons.mpr ⟨lw_p16, List.forall_mem_cons.mpr ⟨lw_p17, List.forall_mem_cons.mpr ⟨lw_p18, List.forall_mem_cons.mpr ⟨lw_p19, List.forall_mem_cons.mpr ⟨lw_p20, List.forall_mem_cons.mpr ⟨lw_p21, List.forall_mem_cons.mpr ⟨lw_p22, List.forall_mem_cons.mpr ⟨lw_p23, List.forall_mem_cons.mpr ⟨lw_p24, List.forall_mem_cons.mpr ⟨lw_p25, List.forall_mem_cons.mpr ⟨lw_p26, List.forall_mem_cons.mpr ⟨lw_p27, List.forall_mem_cons.mpr ⟨lw_p28, List.forall_mem_cons.mpr ⟨lw_p29, List.forall_mem_cons.mpr ⟨lw_p30, List.forall_mem_cons.mpr ⟨lw_p31, fun _ h => absurd h List.not_mem_nil⟩⟩⟩⟩⟩⟩⟩⟩⟩⟩⟩⟩⟩⟩⟩⟩
theorem lw_p32 : lw_okq (⟨"LeanMarksModel", "becomes", "(IIIII)I"⟩, 18) := ⟨⟨by decide +kernel, by decide +kernel⟩, List.mem_of_getElem? (i := 615) (by decide +kernel), List.mem_of_getElem? (i := 782) (by decide +kernel), List.mem_of_getElem? (i := 783) (by decide +kernel)⟩
theorem lw_p33 : lw_okq (⟨"LeanMarksModel", "quarrelsLaid", "(I)I"⟩, 18) := ⟨⟨by decide +kernel, by decide +kernel⟩, List.mem_of_getElem? (i := 615) (by decide +kernel), List.mem_of_getElem? (i := 795) (by decide +kernel), List.mem_of_getElem? (i := 796) (by decide +kernel)⟩
theorem lw_p34 : lw_okq (⟨"LeanMarksModel", "there", "(III)Z"⟩, 18) := ⟨⟨by decide +kernel, by decide +kernel⟩, List.mem_of_getElem? (i := 615) (by decide +kernel), List.mem_of_getElem? (i := 808) (by decide +kernel), List.mem_of_getElem? (i := 809) (by decide +kernel)⟩
theorem lw_p35 : lw_okq (⟨"LeanMarksModel", "made", "(II)I"⟩, 18) := ⟨⟨by decide +kernel, by decide +kernel⟩, List.mem_of_getElem? (i := 615) (by decide +kernel), List.mem_of_getElem? (i := 822) (by decide +kernel), List.mem_of_getElem? (i := 823) (by decide +kernel)⟩
theorem lw_p36 : lw_okq (⟨"LeanMarksModel", "isSquare", "(I)Z"⟩, 18) := ⟨⟨by decide +kernel, by decide +kernel⟩, List.mem_of_getElem? (i := 615) (by decide +kernel), List.mem_of_getElem? (i := 835) (by decide +kernel), List.mem_of_getElem? (i := 836) (by decide +kernel)⟩
theorem lw_p37 : lw_okq (⟨"LeanMarksModel", "turns", "(II)V"⟩, 18) := ⟨⟨by decide +kernel, by decide +kernel⟩, List.mem_of_getElem? (i := 615) (by decide +kernel), List.mem_of_getElem? (i := 839) (by decide +kernel), List.mem_of_getElem? (i := 840) (by decide +kernel)⟩
theorem lw_p38 : lw_okq (⟨"LeanMarksModel", "code", "(I)J"⟩, 18) := ⟨⟨by decide +kernel, by decide +kernel⟩, List.mem_of_getElem? (i := 615) (by decide +kernel), List.mem_of_getElem? (i := 847) (by decide +kernel), List.mem_of_getElem? (i := 848) (by decide +kernel)⟩
theorem lw_p39 : lw_okq (⟨"LeanMarksModel", "isHeard", "(II)Z"⟩, 18) := ⟨⟨by decide +kernel, by decide +kernel⟩, List.mem_of_getElem? (i := 615) (by decide +kernel), List.mem_of_getElem? (i := 862) (by decide +kernel), List.mem_of_getElem? (i := 863) (by decide +kernel)⟩
theorem lw_p40 : lw_okq (⟨"LeanMarksModel", "finds", "(I)V"⟩, 18) := ⟨⟨by decide +kernel, by decide +kernel⟩, List.mem_of_getElem? (i := 615) (by decide +kernel), List.mem_of_getElem? (i := 874) (by decide +kernel), List.mem_of_getElem? (i := 875) (by decide +kernel)⟩
def lw_privs_3 : List (MethodName × Nat) := [(⟨"LeanMarksModel", "becomes", "(IIIII)I"⟩, 18), (⟨"LeanMarksModel", "quarrelsLaid", "(I)I"⟩, 18), (⟨"LeanMarksModel", "there", "(III)Z"⟩, 18), (⟨"LeanMarksModel", "made", "(II)I"⟩, 18), (⟨"LeanMarksModel", "isSquare", "(I)Z"⟩, 18), (⟨"LeanMarksModel", "turns", "(II)V"⟩, 18), (⟨"LeanMarksModel", "code", "(I)J"⟩, 18), (⟨"LeanMarksModel", "isHeard", "(II)Z"⟩, 18), (⟨"LeanMarksModel", "finds", "(I)V"⟩, 18)]
theorem lw_r3 : ∀ q ∈ lw_privs_3, lw_okq q := List.forall_mem_cons.mpr ⟨lw_p32, List.forall_mem_cons.mpr ⟨lw_p33, List.forall_mem_cons.mpr ⟨lw_p34, List.forall_mem_cons.mpr ⟨lw_p35, List.forall_mem_cons.mpr ⟨lw_p36, List.forall_mem_cons.mpr ⟨lw_p37, List.forall_mem_cons.mpr ⟨lw_p38, List.forall_mem_cons.mpr ⟨lw_p39, List.forall_mem_cons.mpr ⟨lw_p40, fun _ h => absurd h List.not_mem_nil⟩⟩⟩⟩⟩⟩⟩⟩⟩
def lw_privs : List (MethodName × Nat) := lw_privs_1 ++ (lw_privs_2 ++ (lw_privs_3))
def lw_tbl : List Cond := k2_sels lw_privs ++ tables_1
theorem lw_privs_ok : ∀ q ∈ lw_privs, lw_okq q := by
  show ∀ q ∈ lw_privs_1 ++ (lw_privs_2 ++ (lw_privs_3)), lw_okq q
  exact List.forall_mem_append.mpr ⟨lw_r1, List.forall_mem_append.mpr ⟨lw_r2, lw_r3⟩⟩
end
section
def RX0 : String := "LeanMarks$Echo"
def TX0 : u_T := fun k => match k with
  | 0 => ("LeanMarks$Echo", "column", "[I", true)
  | 1 => ("LeanMarks$Echo", "line", "[I", true)
  | 2 => ("LeanMarks$Echo", "heard", "I", false)
  | 3 => ("LeanMarks$Echo", "met", "[I", true)
  | _ => ("LeanMarks$Echo", "bestPlace", "I", false)
def tyX0 : Nat → FieldType := fun k => match k with
  | 0 => .array .int
  | 1 => .array .int
  | 2 => .int
  | 3 => .array .int
  | _ => .int
abbrev wsX00 : List Cond := u_ws RX0 TX0 5
theorem nmX0 : ∀ a, a < 5 → ∀ b, b < 5 → a ≠ b → (TX0 a).2.1 ≠ (TX0 b).2.1 := by decide +kernel
theorem tyX0_ok : ∀ k, k < 5 → parseFieldDescriptor (TX0 k).2.2.1 = some (tyX0 k) := by decide +kernel
abbrev cX0_init : ByteArray := prog_2_method_1_code
def yX0_init : MethodName := ⟨RX0, "<init>", "()V"⟩
abbrev cX0_size : ByteArray := prog_2_method_2_code
def yX0_size : MethodName := ⟨RX0, "size", "()I"⟩
abbrev cX0_isFull : ByteArray := prog_2_method_3_code
def yX0_isFull : MethodName := ⟨RX0, "isFull", "()Z"⟩
abbrev cX0_clear : ByteArray := prog_2_method_4_code
def yX0_clear : MethodName := ⟨RX0, "clear", "()V"⟩
abbrev cX0_holds : ByteArray := prog_2_method_5_code
def yX0_holds : MethodName := ⟨RX0, "holds", "(II)Z"⟩
abbrev cX0_add : ByteArray := prog_2_method_6_code
def yX0_add : MethodName := ⟨RX0, "add", "(II)V"⟩
abbrev cX0_seek : ByteArray := prog_2_method_7_code
def yX0_seek : MethodName := ⟨RX0, "seek", "(LLeanMarks$Row;)V"⟩
abbrev cX0_meetHeard : ByteArray := prog_2_method_8_code
def yX0_meetHeard : MethodName := ⟨RX0, "meetHeard", "(II)V"⟩
abbrev cX0_bestMeeting : ByteArray := prog_2_method_9_code
def yX0_bestMeeting : MethodName := ⟨RX0, "bestMeeting", "()I"⟩
abbrev cX0_bestLate : ByteArray := prog_2_method_10_code
def yX0_bestLate : MethodName := ⟨RX0, "bestLate", "()I"⟩
abbrev cX0_bestMoved : ByteArray := prog_2_method_11_code
def yX0_bestMoved : MethodName := ⟨RX0, "bestMoved", "()I"⟩
def RX1 : String := "LeanMarks$Moves"
def TX1 : u_T := fun k => match k with
  | 0 => ("LeanMarks$Moves", "met", "[I", true)
  | 1 => ("LeanMarks$Moves", "best", "I", false)
  | 2 => ("LeanMarks$Moves", "bestPlace", "I", false)
  | _ => ("LeanMarks$Moves", "squared", "I", false)
def tyX1 : Nat → FieldType := fun k => match k with
  | 0 => .array .int
  | 1 => .int
  | 2 => .int
  | _ => .int
abbrev wsX10 : List Cond := u_ws RX1 TX1 4
theorem nmX1 : ∀ a, a < 4 → ∀ b, b < 4 → a ≠ b → (TX1 a).2.1 ≠ (TX1 b).2.1 := by decide +kernel
theorem tyX1_ok : ∀ k, k < 4 → parseFieldDescriptor (TX1 k).2.2.1 = some (tyX1 k) := by decide +kernel
abbrev cX1_init : ByteArray := prog_3_method_1_code
def yX1_init : MethodName := ⟨RX1, "<init>", "()V"⟩
abbrev cX1_lookAt : ByteArray := prog_3_method_2_code
def yX1_lookAt : MethodName := ⟨RX1, "lookAt", "(LLeanMarks$Row;LLeanMarks$Row;Z)V"⟩
abbrev cX1_placeOf : ByteArray := prog_3_method_3_code
def yX1_placeOf : MethodName := ⟨RX1, "placeOf", "(II)I"⟩
abbrev cX1_meetAll : ByteArray := prog_3_method_4_code
def yX1_meetAll : MethodName := ⟨RX1, "meetAll", "(IILLeanMarks$Row;)V"⟩
abbrev cX1_weigh : ByteArray := prog_3_method_5_code
def yX1_weigh : MethodName := ⟨RX1, "weigh", "(I)V"⟩
abbrev cX1_bestMeeting : ByteArray := prog_3_method_6_code
def yX1_bestMeeting : MethodName := ⟨RX1, "bestMeeting", "()I"⟩
abbrev cX1_bestDx : ByteArray := prog_3_method_7_code
def yX1_bestDx : MethodName := ⟨RX1, "bestDx", "()I"⟩
abbrev cX1_bestDy : ByteArray := prog_3_method_8_code
def yX1_bestDy : MethodName := ⟨RX1, "bestDy", "()I"⟩
abbrev cX1_sumOfSquares : ByteArray := prog_3_method_9_code
def yX1_sumOfSquares : MethodName := ⟨RX1, "sumOfSquares", "()I"⟩
def RX2 : String := "LeanMarks$Permuting"
def TX2 : u_T := fun k => match k with
  | 0 => ("LeanMarks$Permuting", "line", "[I", true)
  | _ => ("LeanMarks$Permuting", "columns", "I", false)
def tyX2 : Nat → FieldType := fun k => match k with
  | 0 => .array .int
  | _ => .int
abbrev wsX20 : List Cond := u_ws RX2 TX2 2
theorem nmX2 : ∀ a, a < 2 → ∀ b, b < 2 → a ≠ b → (TX2 a).2.1 ≠ (TX2 b).2.1 := by decide +kernel
theorem tyX2_ok : ∀ k, k < 2 → parseFieldDescriptor (TX2 k).2.2.1 = some (tyX2 k) := by decide +kernel
abbrev cX2_init : ByteArray := prog_4_method_1_code
def yX2_init : MethodName := ⟨RX2, "<init>", "()V"⟩
abbrev cX2_withQuarrels : ByteArray := prog_4_method_2_code
def yX2_withQuarrels : MethodName := ⟨RX2, "withQuarrels", "(II)I"⟩
abbrev cX2_countFrom : ByteArray := prog_4_method_3_code
def yX2_countFrom : MethodName := ⟨RX2, "countFrom", "(III)I"⟩
abbrev cX2_newQuarrels : ByteArray := prog_4_method_4_code
def yX2_newQuarrels : MethodName := ⟨RX2, "newQuarrels", "(I)I"⟩
def RX3 : String := "LeanMarks$Row"
def TX3 : u_T := fun k => match k with
  | 0 => ("LeanMarks$Row", "columns", "I", false)
  | 1 => ("LeanMarks$Row", "lines", "I", false)
  | _ => ("LeanMarks$Row", "line", "[I", true)
def tyX3 : Nat → FieldType := fun k => match k with
  | 0 => .int
  | 1 => .int
  | _ => .array .int
abbrev wsX30 : List Cond := u_ws RX3 TX3 3
theorem nmX3 : ∀ a, a < 3 → ∀ b, b < 3 → a ≠ b → (TX3 a).2.1 ≠ (TX3 b).2.1 := by decide +kernel
theorem tyX3_ok : ∀ k, k < 3 → parseFieldDescriptor (TX3 k).2.2.1 = some (tyX3 k) := by decide +kernel
abbrev cX3_init : ByteArray := prog_5_method_1_code
def yX3_init : MethodName := ⟨RX3, "<init>", "()V"⟩
abbrev cX3_columns : ByteArray := prog_5_method_2_code
def yX3_columns : MethodName := ⟨RX3, "columns", "()I"⟩
abbrev cX3_lines : ByteArray := prog_5_method_3_code
def yX3_lines : MethodName := ⟨RX3, "lines", "()I"⟩
abbrev cX3_shape : ByteArray := prog_5_method_4_code
def yX3_shape : MethodName := ⟨RX3, "shape", "(II)V"⟩
abbrev cX3_put : ByteArray := prog_5_method_5_code
def yX3_put : MethodName := ⟨RX3, "put", "(II)V"⟩
abbrev cX3_lineAt : ByteArray := prog_5_method_6_code
def yX3_lineAt : MethodName := ⟨RX3, "lineAt", "(I)I"⟩
abbrev cX3_markedAt : ByteArray := prog_5_method_7_code
def yX3_markedAt : MethodName := ⟨RX3, "markedAt", "(I)Z"⟩
abbrev cX3_hasMark : ByteArray := prog_5_method_8_code
def yX3_hasMark : MethodName := ⟨RX3, "hasMark", "(II)Z"⟩
abbrev cX3_step : ByteArray := prog_5_method_9_code
def yX3_step : MethodName := ⟨RX3, "step", "(III)I"⟩
abbrev cX3_markCount : ByteArray := prog_5_method_10_code
def yX3_markCount : MethodName := ⟨RX3, "markCount", "()I"⟩
abbrev cX3_packed : ByteArray := prog_5_method_11_code
def yX3_packed : MethodName := ⟨RX3, "packed", "()J"⟩
abbrev cX3_isSquare : ByteArray := prog_5_method_12_code
def yX3_isSquare : MethodName := ⟨RX3, "isSquare", "()Z"⟩
abbrev cX3_copyFrom : ByteArray := prog_5_method_13_code
def yX3_copyFrom : MethodName := ⟨RX3, "copyFrom", "(LLeanMarks$Row;)V"⟩
def RX4 : String := "LeanMarks$Search"
def TX4 : u_T := fun k => match k with
  | 0 => ("LeanMarks$Search", "line", "[I", true)
  | 1 => ("LeanMarks$Search", "standing", "[I", true)
  | 2 => ("LeanMarks$Search", "allowed", "[I", true)
  | 3 => ("LeanMarks$Search", "columns", "I", false)
  | 4 => ("LeanMarks$Search", "lines", "I", false)
  | 5 => ("LeanMarks$Search", "kind", "I", false)
  | 6 => ("LeanMarks$Search", "onePerLine", "Z", false)
  | 7 => ("LeanMarks$Search", "wanted", "I", false)
  | _ => ("LeanMarks$Search", "passed", "I", false)
def tyX4 : Nat → FieldType := fun k => match k with
  | 0 => .array .int
  | 1 => .array .int
  | 2 => .array .int
  | 3 => .int
  | 4 => .int
  | 5 => .int
  | 6 => .boolean
  | 7 => .int
  | _ => .int
abbrev wsX40 : List Cond := u_ws RX4 TX4 9
theorem nmX4 : ∀ a, a < 9 → ∀ b, b < 9 → a ≠ b → (TX4 a).2.1 ≠ (TX4 b).2.1 := by decide +kernel
theorem tyX4_ok : ∀ k, k < 9 → parseFieldDescriptor (TX4 k).2.2.1 = some (tyX4 k) := by decide +kernel
abbrev cX4_init : ByteArray := prog_6_method_1_code
def yX4_init : MethodName := ⟨RX4, "<init>", "()V"⟩
abbrev cX4_amongRows : ByteArray := prog_6_method_2_code
def yX4_amongRows : MethodName := ⟨RX4, "amongRows", "(III)V"⟩
abbrev cX4_amongSquares : ByteArray := prog_6_method_3_code
def yX4_amongSquares : MethodName := ⟨RX4, "amongSquares", "(I)V"⟩
abbrev cX4_keepMarksOf : ByteArray := prog_6_method_4_code
def yX4_keepMarksOf : MethodName := ⟨RX4, "keepMarksOf", "(LLeanMarks$Row;)V"⟩
abbrev cX4_countAll : ByteArray := prog_6_method_5_code
def yX4_countAll : MethodName := ⟨RX4, "countAll", "()I"⟩
abbrev cX4_reach : ByteArray := prog_6_method_6_code
def yX4_reach : MethodName := ⟨RX4, "reach", "(I)Z"⟩
abbrev cX4_giveTo : ByteArray := prog_6_method_7_code
def yX4_giveTo : MethodName := ⟨RX4, "giveTo", "(LLeanMarks$Row;)V"⟩
abbrev cX4_begin : ByteArray := prog_6_method_8_code
def yX4_begin : MethodName := ⟨RX4, "begin", "(I)V"⟩
abbrev cX4_walk : ByteArray := prog_6_method_9_code
def yX4_walk : MethodName := ⟨RX4, "walk", "(II)Z"⟩
abbrev cX4_freeLines : ByteArray := prog_6_method_10_code
def yX4_freeLines : MethodName := ⟨RX4, "freeLines", "(II)I"⟩
abbrev cX4_flipSteps : ByteArray := prog_6_method_11_code
def yX4_flipSteps : MethodName := ⟨RX4, "flipSteps", "(I)V"⟩
abbrev cX4_stepBits : ByteArray := prog_6_method_12_code
def yX4_stepBits : MethodName := ⟨RX4, "stepBits", "(I)I"⟩
abbrev cX4_endIn : ByteArray := prog_6_method_13_code
def yX4_endIn : MethodName := ⟨RX4, "endIn", "(II)Z"⟩
def RX5 : String := "LeanMarks$Text"
def TX5 : u_T := fun k => match k with
  | 0 => ("LeanMarks$Text", "bytes", "[I", true)
  | _ => ("LeanMarks$Text", "length", "I", false)
def tyX5 : Nat → FieldType := fun k => match k with
  | 0 => .array .int
  | _ => .int
abbrev wsX50 : List Cond := u_ws RX5 TX5 2
theorem nmX5 : ∀ a, a < 2 → ∀ b, b < 2 → a ≠ b → (TX5 a).2.1 ≠ (TX5 b).2.1 := by decide +kernel
theorem tyX5_ok : ∀ k, k < 2 → parseFieldDescriptor (TX5 k).2.2.1 = some (tyX5 k) := by decide +kernel
abbrev cX5_init : ByteArray := prog_7_method_1_code
def yX5_init : MethodName := ⟨RX5, "<init>", "()V"⟩
abbrev cX5_length : ByteArray := prog_7_method_2_code
def yX5_length : MethodName := ⟨RX5, "length", "()I"⟩
abbrev cX5_clear : ByteArray := prog_7_method_3_code
def yX5_clear : MethodName := ⟨RX5, "clear", "()V"⟩
abbrev cX5_hasRoomFor : ByteArray := prog_7_method_4_code
def yX5_hasRoomFor : MethodName := ⟨RX5, "hasRoomFor", "(I)Z"⟩
abbrev cX5_add : ByteArray := prog_7_method_5_code
def yX5_add : MethodName := ⟨RX5, "add", "(I)V"⟩
abbrev cX5_byteAt : ByteArray := prog_7_method_6_code
def yX5_byteAt : MethodName := ⟨RX5, "byteAt", "(I)I"⟩
abbrev cX5_endsRow : ByteArray := prog_7_method_7_code
def yX5_endsRow : MethodName := ⟨RX5, "endsRow", "(I)Z"⟩
abbrev cX5_lineAt : ByteArray := prog_7_method_8_code
def yX5_lineAt : MethodName := ⟨RX5, "lineAt", "(I)I"⟩
abbrev cX5_isColumn : ByteArray := prog_7_method_9_code
def yX5_isColumn : MethodName := ⟨RX5, "isColumn", "(I)Z"⟩
abbrev cX5_firstFault : ByteArray := prog_7_method_10_code
def yX5_firstFault : MethodName := ⟨RX5, "firstFault", "()I"⟩
abbrev cX5_highestLine : ByteArray := prog_7_method_11_code
def yX5_highestLine : MethodName := ⟨RX5, "highestLine", "()I"⟩
def RX6 : String := "LeanMarks"
def TX6 : u_T := fun k => match k with
  | 0 => ("LeanMarks", "table", "[LLeanMarks$Row;", true)
  | 1 => ("LeanMarks", "spare", "LLeanMarks$Row;", true)
  | 2 => ("LeanMarks", "text", "LLeanMarks$Text;", true)
  | 3 => ("LeanMarks", "moves", "LLeanMarks$Moves;", true)
  | 4 => ("LeanMarks", "search", "LLeanMarks$Search;", true)
  | 5 => ("LeanMarks", "permuting", "LLeanMarks$Permuting;", true)
  | 6 => ("LeanMarks", "echo", "LLeanMarks$Echo;", true)
  | _ => ("LeanMarks", "turnings", "[J", true)
def tyX6 : Nat → FieldType := fun k => match k with
  | 0 => .array (.object "LeanMarks$Row")
  | 1 => .object "LeanMarks$Row"
  | 2 => .object "LeanMarks$Text"
  | 3 => .object "LeanMarks$Moves"
  | 4 => .object "LeanMarks$Search"
  | 5 => .object "LeanMarks$Permuting"
  | 6 => .object "LeanMarks$Echo"
  | _ => .array .long
abbrev wsX60 : List Cond := u_ws RX6 TX6 8
theorem nmX6 : ∀ a, a < 8 → ∀ b, b < 8 → a ≠ b → (TX6 a).2.1 ≠ (TX6 b).2.1 := by decide +kernel
theorem tyX6_ok : ∀ k, k < 8 → parseFieldDescriptor (TX6 k).2.2.1 = some (tyX6 k) := by decide +kernel
abbrev cX6_init : ByteArray := prog_1_method_1_code
def yX6_init : MethodName := ⟨RX6, "<init>", "()V"⟩
abbrev cX6_row : ByteArray := prog_1_method_2_code
def yX6_row : MethodName := ⟨RX6, "row", "(IIIJ)I"⟩
abbrev cX6_write : ByteArray := prog_1_method_3_code
def yX6_write : MethodName := ⟨RX6, "write", "(IJ)I"⟩
abbrev cX6_wipe : ByteArray := prog_1_method_4_code
def yX6_wipe : MethodName := ⟨RX6, "wipe", "()I"⟩
abbrev cX6_fault : ByteArray := prog_1_method_5_code
def yX6_fault : MethodName := ⟨RX6, "fault", "()I"⟩
abbrev cX6_lay : ByteArray := prog_1_method_6_code
def yX6_lay : MethodName := ⟨RX6, "lay", "(I)I"⟩
abbrev cX6_told : ByteArray := prog_1_method_7_code
def yX6_told : MethodName := ⟨RX6, "told", "(II)I"⟩
abbrev cX6_marks : ByteArray := prog_1_method_8_code
def yX6_marks : MethodName := ⟨RX6, "marks", "(I)J"⟩
abbrev cX6_difference : ByteArray := prog_1_method_9_code
def yX6_difference : MethodName := ⟨RX6, "difference", "(IIII)I"⟩
abbrev cX6_quarrels : ByteArray := prog_1_method_10_code
def yX6_quarrels : MethodName := ⟨RX6, "quarrels", "(III)I"⟩
abbrev cX6_hits : ByteArray := prog_1_method_11_code
def yX6_hits : MethodName := ⟨RX6, "hits", "(IIIIZ)I"⟩
abbrev cX6_most : ByteArray := prog_1_method_12_code
def yX6_most : MethodName := ⟨RX6, "most", "(III)I"⟩
abbrev cX6_squares : ByteArray := prog_1_method_13_code
def yX6_squares : MethodName := ⟨RX6, "squares", "(III)I"⟩
abbrev cX6_holding : ByteArray := prog_1_method_14_code
def yX6_holding : MethodName := ⟨RX6, "holding", "(III)I"⟩
abbrev cX6_nearly : ByteArray := prog_1_method_15_code
def yX6_nearly : MethodName := ⟨RX6, "nearly", "(II)I"⟩
abbrev cX6_rows : ByteArray := prog_1_method_16_code
def yX6_rows : MethodName := ⟨RX6, "rows", "(IIIII)I"⟩
abbrev cX6_longest : ByteArray := prog_1_method_17_code
def yX6_longest : MethodName := ⟨RX6, "longest", "(II)I"⟩
abbrev cX6_powers : ByteArray := prog_1_method_18_code
def yX6_powers : MethodName := ⟨RX6, "powers", "(IIII)I"⟩
abbrev cX6_sums : ByteArray := prog_1_method_19_code
def yX6_sums : MethodName := ⟨RX6, "sums", "(IIII)I"⟩
abbrev cX6_turn : ByteArray := prog_1_method_20_code
def yX6_turn : MethodName := ⟨RX6, "turn", "(II)I"⟩
abbrev cX6_like : ByteArray := prog_1_method_21_code
def yX6_like : MethodName := ⟨RX6, "like", "(I)I"⟩
abbrev cX6_corner : ByteArray := prog_1_method_22_code
def yX6_corner : MethodName := ⟨RX6, "corner", "(IIZ)I"⟩
abbrev cX6_hear : ByteArray := prog_1_method_23_code
def yX6_hear : MethodName := ⟨RX6, "hear", "(II)I"⟩
abbrev cX6_still : ByteArray := prog_1_method_24_code
def yX6_still : MethodName := ⟨RX6, "still", "()I"⟩
abbrev cX6_found : ByteArray := prog_1_method_25_code
def yX6_found : MethodName := ⟨RX6, "found", "(II)I"⟩
abbrev cX6_among : ByteArray := prog_1_method_26_code
def yX6_among : MethodName := ⟨RX6, "among", "(I)I"⟩
abbrev cX6_count : ByteArray := prog_1_method_27_code
def yX6_count : MethodName := ⟨RX6, "count", "(I)I"⟩
abbrev cX6_within : ByteArray := prog_1_method_28_code
def yX6_within : MethodName := ⟨RX6, "within", "(III)Z"⟩
abbrev cX6_isKind : ByteArray := prog_1_method_29_code
def yX6_isKind : MethodName := ⟨RX6, "isKind", "(I)Z"⟩
abbrev cX6_isMove : ByteArray := prog_1_method_30_code
def yX6_isMove : MethodName := ⟨RX6, "isMove", "(I)Z"⟩
abbrev cX6_isToldPrime : ByteArray := prog_1_method_31_code
def yX6_isToldPrime : MethodName := ⟨RX6, "isToldPrime", "(I)Z"⟩
abbrev cX6_rest : ByteArray := prog_1_method_32_code
def yX6_rest : MethodName := ⟨RX6, "rest", "(II)I"⟩
abbrev cX6_nibble : ByteArray := prog_1_method_33_code
def yX6_nibble : MethodName := ⟨RX6, "nibble", "(JI)I"⟩
abbrev cX6_fits : ByteArray := prog_1_method_34_code
def yX6_fits : MethodName := ⟨RX6, "fits", "(IIJ)Z"⟩
abbrev cX6_rowAt : ByteArray := prog_1_method_35_code
def yX6_rowAt : MethodName := ⟨RX6, "rowAt", "(I)LLeanMarks$Row;"⟩
abbrev cX6_layOne : ByteArray := prog_1_method_36_code
def yX6_layOne : MethodName := ⟨RX6, "layOne", "(IIII)V"⟩
abbrev cX6_countOrMake : ByteArray := prog_1_method_37_code
def yX6_countOrMake : MethodName := ⟨RX6, "countOrMake", "(II)I"⟩
abbrev cX6_quarrel : ByteArray := prog_1_method_38_code
def yX6_quarrel : MethodName := ⟨RX6, "quarrel", "(LLeanMarks$Row;IIII)Z"⟩
abbrev cX6_firstQuarrel : ByteArray := prog_1_method_39_code
def yX6_firstQuarrel : MethodName := ⟨RX6, "firstQuarrel", "(LLeanMarks$Row;I)I"⟩
abbrev cX6_quarrelCount : ByteArray := prog_1_method_40_code
def yX6_quarrelCount : MethodName := ⟨RX6, "quarrelCount", "(LLeanMarks$Row;I)I"⟩
abbrev cX6_meeting : ByteArray := prog_1_method_41_code
def yX6_meeting : MethodName := ⟨RX6, "meeting", "(LLeanMarks$Row;LLeanMarks$Row;II)I"⟩
abbrev cX6_meetingRound : ByteArray := prog_1_method_42_code
def yX6_meetingRound : MethodName := ⟨RX6, "meetingRound", "(LLeanMarks$Row;LLeanMarks$Row;II)I"⟩
abbrev cX6_powerBy : ByteArray := prog_1_method_43_code
def yX6_powerBy : MethodName := ⟨RX6, "powerBy", "(III)I"⟩
abbrev cX6_onlyPartner : ByteArray := prog_1_method_44_code
def yX6_onlyPartner : MethodName := ⟨RX6, "onlyPartner", "(III)I"⟩
abbrev cX6_keepSquare : ByteArray := prog_1_method_45_code
def yX6_keepSquare : MethodName := ⟨RX6, "keepSquare", "(LLeanMarks$Row;)I"⟩
abbrev cX6_turnInto : ByteArray := prog_1_method_46_code
def yX6_turnInto : MethodName := ⟨RX6, "turnInto", "(LLeanMarks$Row;LLeanMarks$Row;I)V"⟩
abbrev cX6_isNewTurning : ByteArray := prog_1_method_47_code
def yX6_isNewTurning : MethodName := ⟨RX6, "isNewTurning", "(I)Z"⟩
abbrev cX6_takeOff : ByteArray := prog_1_method_48_code
def yX6_takeOff : MethodName := ⟨RX6, "takeOff", "(LLeanMarks$Row;ZZ)I"⟩
abbrev cX6_setOn : ByteArray := prog_1_method_49_code
def yX6_setOn : MethodName := ⟨RX6, "setOn", "(LLeanMarks$Row;ZZ)I"⟩
abbrev cX6_bestHeard : ByteArray := prog_1_method_50_code
def yX6_bestHeard : MethodName := ⟨RX6, "bestHeard", "(I)I"⟩
abbrev cX6_marksInAll : ByteArray := prog_1_method_51_code
def yX6_marksInAll : MethodName := ⟨RX6, "marksInAll", "()I"⟩
abbrev cX6_columnsInAll : ByteArray := prog_1_method_52_code
def yX6_columnsInAll : MethodName := ⟨RX6, "columnsInAll", "()I"⟩
def RX7 : String := "LeanMarksModel"
def TX7 : u_T := fun k => match k with
  | 0 => ("LeanMarksModel", "wide", "[I", true)
  | 1 => ("LeanMarksModel", "high", "[I", true)
  | 2 => ("LeanMarksModel", "mark", "[I", true)
  | 3 => ("LeanMarksModel", "length", "I", false)
  | 4 => ("LeanMarksModel", "text", "[B", true)
  | 5 => ("LeanMarksModel", "heard", "I", false)
  | 6 => ("LeanMarksModel", "heardX", "[I", true)
  | 7 => ("LeanMarksModel", "heardY", "[I", true)
  | 8 => ("LeanMarksModel", "laid", "[I", true)
  | 9 => ("LeanMarksModel", "laidMany", "I", false)
  | 10 => ("LeanMarksModel", "read", "[I", true)
  | 11 => ("LeanMarksModel", "readWide", "[I", true)
  | 12 => ("LeanMarksModel", "readRows", "I", false)
  | 13 => ("LeanMarksModel", "turned", "[I", true)
  | 14 => ("LeanMarksModel", "next", "[I", true)
  | 15 => ("LeanMarksModel", "foundMany", "I", false)
  | 16 => ("LeanMarksModel", "foundLate", "I", false)
  | _ => ("LeanMarksModel", "foundMoved", "I", false)
def tyX7 : Nat → FieldType := fun k => match k with
  | 0 => .array .int
  | 1 => .array .int
  | 2 => .array .int
  | 3 => .int
  | 4 => .array .byte
  | 5 => .int
  | 6 => .array .int
  | 7 => .array .int
  | 8 => .array .int
  | 9 => .int
  | 10 => .array .int
  | 11 => .array .int
  | 12 => .int
  | 13 => .array .int
  | 14 => .array .int
  | 15 => .int
  | 16 => .int
  | _ => .int
abbrev wsX70 : List Cond := u_ws RX7 TX7 18
theorem nmX7 : ∀ a, a < 18 → ∀ b, b < 18 → a ≠ b → (TX7 a).2.1 ≠ (TX7 b).2.1 := by decide +kernel
theorem tyX7_ok : ∀ k, k < 18 → parseFieldDescriptor (TX7 k).2.2.1 = some (tyX7 k) := by decide +kernel
abbrev cX7_init : ByteArray := prog_9_method_1_code
def yX7_init : MethodName := ⟨RX7, "<init>", "()V"⟩
abbrev cX7_in : ByteArray := prog_9_method_2_code
def yX7_in : MethodName := ⟨RX7, "in", "(JJJ)Z"⟩
abbrev cX7_isRow : ByteArray := prog_9_method_3_code
def yX7_isRow : MethodName := ⟨RX7, "isRow", "(I)Z"⟩
abbrev cX7_row : ByteArray := prog_9_method_4_code
def yX7_row : MethodName := ⟨RX7, "row", "(IIIJ)I"⟩
abbrev cX7_write : ByteArray := prog_9_method_5_code
def yX7_write : MethodName := ⟨RX7, "write", "(IJ)I"⟩
abbrev cX7_wipe : ByteArray := prog_9_method_6_code
def yX7_wipe : MethodName := ⟨RX7, "wipe", "()I"⟩
abbrev cX7_fault : ByteArray := prog_9_method_7_code
def yX7_fault : MethodName := ⟨RX7, "fault", "()I"⟩
abbrev cX7_lay : ByteArray := prog_9_method_8_code
def yX7_lay : MethodName := ⟨RX7, "lay", "(I)I"⟩
abbrev cX7_at : ByteArray := prog_9_method_9_code
def yX7_at : MethodName := ⟨RX7, "at", "(II)I"⟩
abbrev cX7_told : ByteArray := prog_9_method_10_code
def yX7_told : MethodName := ⟨RX7, "told", "(II)I"⟩
abbrev cX7_marks : ByteArray := prog_9_method_11_code
def yX7_marks : MethodName := ⟨RX7, "marks", "(I)J"⟩
abbrev cX7_off : ByteArray := prog_9_method_12_code
def yX7_off : MethodName := ⟨RX7, "off", "(IIII)I"⟩
abbrev cX7_are : ByteArray := prog_9_method_13_code
def yX7_are : MethodName := ⟨RX7, "are", "(III)Z"⟩
abbrev cX7_difference : ByteArray := prog_9_method_14_code
def yX7_difference : MethodName := ⟨RX7, "difference", "(IIII)I"⟩
abbrev cX7_quarrels : ByteArray := prog_9_method_15_code
def yX7_quarrels : MethodName := ⟨RX7, "quarrels", "(III)I"⟩
abbrev cX7_hitsOf : ByteArray := prog_9_method_16_code
def yX7_hitsOf : MethodName := ⟨RX7, "hitsOf", "(IIII)I"⟩
abbrev cX7_roundOf : ByteArray := prog_9_method_17_code
def yX7_roundOf : MethodName := ⟨RX7, "roundOf", "(IIII)I"⟩
abbrev cX7_hits : ByteArray := prog_9_method_18_code
def yX7_hits : MethodName := ⟨RX7, "hits", "(IIIIZ)I"⟩
abbrev cX7_most : ByteArray := prog_9_method_19_code
def yX7_most : MethodName := ⟨RX7, "most", "(III)I"⟩
abbrev cX7_isLean : ByteArray := prog_9_method_20_code
def yX7_isLean : MethodName := ⟨RX7, "isLean", "(III)Z"⟩
abbrev cX7_isUnlike : ByteArray := prog_9_method_21_code
def yX7_isUnlike : MethodName := ⟨RX7, "isUnlike", "(I)Z"⟩
abbrev cX7_may : ByteArray := prog_9_method_22_code
def yX7_may : MethodName := ⟨RX7, "may", "(IIIZI)Z"⟩
abbrev cX7_lays : ByteArray := prog_9_method_23_code
def yX7_lays : MethodName := ⟨RX7, "lays", "(IIIZII)I"⟩
abbrev cX7_becomes : ByteArray := prog_9_method_24_code
def yX7_becomes : MethodName := ⟨RX7, "becomes", "(IIIII)I"⟩
abbrev cX7_squares : ByteArray := prog_9_method_25_code
def yX7_squares : MethodName := ⟨RX7, "squares", "(III)I"⟩
abbrev cX7_holding : ByteArray := prog_9_method_26_code
def yX7_holding : MethodName := ⟨RX7, "holding", "(III)I"⟩
abbrev cX7_quarrelsLaid : ByteArray := prog_9_method_27_code
def yX7_quarrelsLaid : MethodName := ⟨RX7, "quarrelsLaid", "(I)I"⟩
abbrev cX7_nearly : ByteArray := prog_9_method_28_code
def yX7_nearly : MethodName := ⟨RX7, "nearly", "(II)I"⟩
abbrev cX7_rows : ByteArray := prog_9_method_29_code
def yX7_rows : MethodName := ⟨RX7, "rows", "(IIIII)I"⟩
abbrev cX7_longest : ByteArray := prog_9_method_30_code
def yX7_longest : MethodName := ⟨RX7, "longest", "(II)I"⟩
abbrev cX7_there : ByteArray := prog_9_method_31_code
def yX7_there : MethodName := ⟨RX7, "there", "(III)Z"⟩
abbrev cX7_isPrime : ByteArray := prog_9_method_32_code
def yX7_isPrime : MethodName := ⟨RX7, "isPrime", "(I)Z"⟩
abbrev cX7_power : ByteArray := prog_9_method_33_code
def yX7_power : MethodName := ⟨RX7, "power", "(III)I"⟩
abbrev cX7_made : ByteArray := prog_9_method_34_code
def yX7_made : MethodName := ⟨RX7, "made", "(II)I"⟩
abbrev cX7_powers : ByteArray := prog_9_method_35_code
def yX7_powers : MethodName := ⟨RX7, "powers", "(IIII)I"⟩
abbrev cX7_sums : ByteArray := prog_9_method_36_code
def yX7_sums : MethodName := ⟨RX7, "sums", "(IIII)I"⟩
abbrev cX7_isSquare : ByteArray := prog_9_method_37_code
def yX7_isSquare : MethodName := ⟨RX7, "isSquare", "(I)Z"⟩
abbrev cX7_turns : ByteArray := prog_9_method_38_code
def yX7_turns : MethodName := ⟨RX7, "turns", "(II)V"⟩
abbrev cX7_turn : ByteArray := prog_9_method_39_code
def yX7_turn : MethodName := ⟨RX7, "turn", "(II)I"⟩
abbrev cX7_code : ByteArray := prog_9_method_40_code
def yX7_code : MethodName := ⟨RX7, "code", "(I)J"⟩
abbrev cX7_like : ByteArray := prog_9_method_41_code
def yX7_like : MethodName := ⟨RX7, "like", "(I)I"⟩
abbrev cX7_corner : ByteArray := prog_9_method_42_code
def yX7_corner : MethodName := ⟨RX7, "corner", "(IIZ)I"⟩
abbrev cX7_isHeard : ByteArray := prog_9_method_43_code
def yX7_isHeard : MethodName := ⟨RX7, "isHeard", "(II)Z"⟩
abbrev cX7_hear : ByteArray := prog_9_method_44_code
def yX7_hear : MethodName := ⟨RX7, "hear", "(II)I"⟩
abbrev cX7_still : ByteArray := prog_9_method_45_code
def yX7_still : MethodName := ⟨RX7, "still", "()I"⟩
abbrev cX7_finds : ByteArray := prog_9_method_46_code
def yX7_finds : MethodName := ⟨RX7, "finds", "(I)V"⟩
abbrev cX7_found : ByteArray := prog_9_method_47_code
def yX7_found : MethodName := ⟨RX7, "found", "(II)I"⟩
abbrev cX7_among : ByteArray := prog_9_method_48_code
def yX7_among : MethodName := ⟨RX7, "among", "(I)I"⟩
abbrev cX7_count : ByteArray := prog_9_method_49_code
def yX7_count : MethodName := ⟨RX7, "count", "(I)I"⟩
def RJ6 : String := "java/lang/Integer"
def TJ6 : u_T := fun k => match k with
  | _ => ("", "", "", false)
def tyJ6 : Nat → FieldType := fun k => match k with
  | _ => .int
abbrev cJ6_bitCount_0f7a4 : ByteArray := prog_10_method_49_code
def yJ6_bitCount_0f7a4 : MethodName := ⟨RJ6, "bitCount", "(I)I"⟩
def RJ9 : String := "java/lang/Math"
def TJ9 : u_T := fun k => match k with
  | _ => ("", "", "", false)
def tyJ9 : Nat → FieldType := fun k => match k with
  | _ => .int
abbrev cJ9_floorMod_7cf53 : ByteArray := prog_11_method_50_code
def yJ9_floorMod_7cf53 : MethodName := ⟨RJ9, "floorMod", "(II)I"⟩
def RJ7 : String := "java/util/Arrays"
def TJ7 : u_T := fun k => match k with
  | _ => ("", "", "", false)
def tyJ7 : Nat → FieldType := fun k => match k with
  | _ => .int
abbrev cJ7_fill_53178 : ByteArray := prog_12_method_103_code
def yJ7_fill_53178 : MethodName := ⟨RJ7, "fill", "([II)V"⟩
def RL : String := "LeanMarksLaw"
abbrev cL_law : ByteArray := code
def yL_law : MethodName := ⟨RL, "law", "([I)Z"⟩
abbrev vwCl : List vw_C := [(RX0, TX0, 5), (RX1, TX1, 4), (RX2, TX2, 2), (RX3, TX3, 3), (RX4, TX4, 9), (RX5, TX5, 2), (RX6, TX6, 8), (RX7, TX7, 18)]
end
section
theorem dX0_init_0 : decode cX0_init 0 = .ok (.aload_n 0, 1) := by decide +kernel
theorem dX0_init_1 : decode cX0_init 1 = .ok (.invokespecial 3, 3) := by decide +kernel
theorem dX0_init_4 : decode cX0_init 4 = .ok (.aload_n 0, 1) := by decide +kernel
theorem dX0_init_5 : decode cX0_init 5 = .ok (.bipush 40, 2) := by decide +kernel
theorem dX0_init_7 : decode cX0_init 7 = .ok (.newarray .int, 2) := by decide +kernel
theorem dX0_init_9 : decode cX0_init 9 = .ok (.putfield 9, 3) := by decide +kernel
theorem dX0_init_12 : decode cX0_init 12 = .ok (.aload_n 0, 1) := by decide +kernel
theorem dX0_init_13 : decode cX0_init 13 = .ok (.bipush 40, 2) := by decide +kernel
theorem dX0_init_15 : decode cX0_init 15 = .ok (.newarray .int, 2) := by decide +kernel
theorem dX0_init_17 : decode cX0_init 17 = .ok (.putfield 13, 3) := by decide +kernel
theorem dX0_init_20 : decode cX0_init 20 = .ok (.aload_n 0, 1) := by decide +kernel
theorem dX0_init_21 : decode cX0_init 21 = .ok (.iconst 0, 1) := by decide +kernel
theorem dX0_init_22 : decode cX0_init 22 = .ok (.putfield 16, 3) := by decide +kernel
theorem dX0_init_25 : decode cX0_init 25 = .ok (.aload_n 0, 1) := by decide +kernel
theorem dX0_init_26 : decode cX0_init 26 = .ok (.sipush 779, 3) := by decide +kernel
theorem dX0_init_29 : decode cX0_init 29 = .ok (.newarray .int, 2) := by decide +kernel
theorem dX0_init_31 : decode cX0_init 31 = .ok (.putfield 20, 3) := by decide +kernel
theorem dX0_init_34 : decode cX0_init 34 = .ok (.return_, 1) := by decide +kernel
theorem dX0_size_0 : decode cX0_size 0 = .ok (.aload_n 0, 1) := by decide +kernel
theorem dX0_size_1 : decode cX0_size 1 = .ok (.getfield 16, 3) := by decide +kernel
theorem dX0_size_4 : decode cX0_size 4 = .ok (.ireturn, 1) := by decide +kernel
theorem dX0_isFull_0 : decode cX0_isFull 0 = .ok (.aload_n 0, 1) := by decide +kernel
theorem dX0_isFull_1 : decode cX0_isFull 1 = .ok (.getfield 16, 3) := by decide +kernel
theorem dX0_isFull_4 : decode cX0_isFull 4 = .ok (.bipush 40, 2) := by decide +kernel
theorem dX0_isFull_6 : decode cX0_isFull 6 = .ok (.if_icmp .lt 7, 3) := by decide +kernel
theorem dX0_isFull_9 : decode cX0_isFull 9 = .ok (.iconst 1, 1) := by decide +kernel
theorem dX0_isFull_10 : decode cX0_isFull 10 = .ok (.goto 4, 3) := by decide +kernel
theorem dX0_isFull_13 : decode cX0_isFull 13 = .ok (.iconst 0, 1) := by decide +kernel
theorem dX0_isFull_14 : decode cX0_isFull 14 = .ok (.ireturn, 1) := by decide +kernel
theorem dX0_clear_0 : decode cX0_clear 0 = .ok (.aload_n 0, 1) := by decide +kernel
theorem dX0_clear_1 : decode cX0_clear 1 = .ok (.iconst 0, 1) := by decide +kernel
theorem dX0_clear_2 : decode cX0_clear 2 = .ok (.putfield 16, 3) := by decide +kernel
theorem dX0_clear_5 : decode cX0_clear 5 = .ok (.return_, 1) := by decide +kernel
theorem dX0_holds_0 : decode cX0_holds 0 = .ok (.iconst 0, 1) := by decide +kernel
theorem dX0_holds_1 : decode cX0_holds 1 = .ok (.istore_n 3, 1) := by decide +kernel
theorem dX0_holds_2 : decode cX0_holds 2 = .ok (.iload_n 3, 1) := by decide +kernel
theorem dX0_holds_3 : decode cX0_holds 3 = .ok (.aload_n 0, 1) := by decide +kernel
theorem dX0_holds_4 : decode cX0_holds 4 = .ok (.getfield 16, 3) := by decide +kernel
theorem dX0_holds_7 : decode cX0_holds 7 = .ok (.if_icmp .ge 37, 3) := by decide +kernel
theorem dX0_holds_10 : decode cX0_holds 10 = .ok (.iload_n 3, 1) := by decide +kernel
theorem dX0_holds_11 : decode cX0_holds 11 = .ok (.bipush 40, 2) := by decide +kernel
theorem dX0_holds_13 : decode cX0_holds 13 = .ok (.if_icmp .ge 31, 3) := by decide +kernel
theorem dX0_holds_16 : decode cX0_holds 16 = .ok (.aload_n 0, 1) := by decide +kernel
theorem dX0_holds_17 : decode cX0_holds 17 = .ok (.getfield 9, 3) := by decide +kernel
theorem dX0_holds_20 : decode cX0_holds 20 = .ok (.iload_n 3, 1) := by decide +kernel
theorem dX0_holds_21 : decode cX0_holds 21 = .ok (.iaload, 1) := by decide +kernel
theorem dX0_holds_22 : decode cX0_holds 22 = .ok (.iload_n 1, 1) := by decide +kernel
theorem dX0_holds_23 : decode cX0_holds 23 = .ok (.if_icmp .ne 15, 3) := by decide +kernel
theorem dX0_holds_26 : decode cX0_holds 26 = .ok (.aload_n 0, 1) := by decide +kernel
theorem dX0_holds_27 : decode cX0_holds 27 = .ok (.getfield 13, 3) := by decide +kernel
theorem dX0_holds_30 : decode cX0_holds 30 = .ok (.iload_n 3, 1) := by decide +kernel
theorem dX0_holds_31 : decode cX0_holds 31 = .ok (.iaload, 1) := by decide +kernel
theorem dX0_holds_32 : decode cX0_holds 32 = .ok (.iload_n 2, 1) := by decide +kernel
theorem dX0_holds_33 : decode cX0_holds 33 = .ok (.if_icmp .ne 5, 3) := by decide +kernel
theorem dX0_holds_36 : decode cX0_holds 36 = .ok (.iconst 1, 1) := by decide +kernel
theorem dX0_holds_37 : decode cX0_holds 37 = .ok (.ireturn, 1) := by decide +kernel
theorem dX0_holds_38 : decode cX0_holds 38 = .ok (.iinc 3 1, 3) := by decide +kernel
theorem dX0_holds_41 : decode cX0_holds 41 = .ok (.goto (-39), 3) := by decide +kernel
theorem dX0_holds_44 : decode cX0_holds 44 = .ok (.iconst 0, 1) := by decide +kernel
theorem dX0_holds_45 : decode cX0_holds 45 = .ok (.ireturn, 1) := by decide +kernel
theorem dX0_add_0 : decode cX0_add 0 = .ok (.aload_n 0, 1) := by decide +kernel
theorem dX0_add_1 : decode cX0_add 1 = .ok (.getfield 16, 3) := by decide +kernel
theorem dX0_add_4 : decode cX0_add 4 = .ok (.iconst 0, 1) := by decide +kernel
theorem dX0_add_5 : decode cX0_add 5 = .ok (.bipush 39, 2) := by decide +kernel
theorem dX0_add_7 : decode cX0_add 7 = .ok (.invokestatic 23, 3) := by decide +kernel
theorem dX0_add_10 : decode cX0_add 10 = .ok (.ifCond .eq 33, 3) := by decide +kernel
theorem dX0_add_13 : decode cX0_add 13 = .ok (.aload_n 0, 1) := by decide +kernel
theorem dX0_add_14 : decode cX0_add 14 = .ok (.getfield 9, 3) := by decide +kernel
theorem dX0_add_17 : decode cX0_add 17 = .ok (.aload_n 0, 1) := by decide +kernel
theorem dX0_add_18 : decode cX0_add 18 = .ok (.getfield 16, 3) := by decide +kernel
theorem dX0_add_21 : decode cX0_add 21 = .ok (.iload_n 1, 1) := by decide +kernel
theorem dX0_add_22 : decode cX0_add 22 = .ok (.iastore, 1) := by decide +kernel
theorem dX0_add_23 : decode cX0_add 23 = .ok (.aload_n 0, 1) := by decide +kernel
theorem dX0_add_24 : decode cX0_add 24 = .ok (.getfield 13, 3) := by decide +kernel
theorem dX0_add_27 : decode cX0_add 27 = .ok (.aload_n 0, 1) := by decide +kernel
theorem dX0_add_28 : decode cX0_add 28 = .ok (.getfield 16, 3) := by decide +kernel
theorem dX0_add_31 : decode cX0_add 31 = .ok (.iload_n 2, 1) := by decide +kernel
theorem dX0_add_32 : decode cX0_add 32 = .ok (.iastore, 1) := by decide +kernel
theorem dX0_add_33 : decode cX0_add 33 = .ok (.aload_n 0, 1) := by decide +kernel
theorem dX0_add_34 : decode cX0_add 34 = .ok (.dup, 1) := by decide +kernel
theorem dX0_add_35 : decode cX0_add 35 = .ok (.getfield 16, 3) := by decide +kernel
theorem dX0_add_38 : decode cX0_add 38 = .ok (.iconst 1, 1) := by decide +kernel
theorem dX0_add_39 : decode cX0_add 39 = .ok (.iadd, 1) := by decide +kernel
theorem dX0_add_40 : decode cX0_add 40 = .ok (.putfield 16, 3) := by decide +kernel
theorem dX0_add_43 : decode cX0_add 43 = .ok (.return_, 1) := by decide +kernel
theorem dX0_seek_0 : decode cX0_seek 0 = .ok (.aload_n 0, 1) := by decide +kernel
theorem dX0_seek_1 : decode cX0_seek 1 = .ok (.getfield 20, 3) := by decide +kernel
theorem dX0_seek_4 : decode cX0_seek 4 = .ok (.iconst 0, 1) := by decide +kernel
theorem dX0_seek_5 : decode cX0_seek 5 = .ok (.invokestatic 29, 3) := by decide +kernel
theorem dX0_seek_8 : decode cX0_seek 8 = .ok (.iconst 0, 1) := by decide +kernel
theorem dX0_seek_9 : decode cX0_seek 9 = .ok (.istore_n 2, 1) := by decide +kernel
theorem dX0_seek_10 : decode cX0_seek 10 = .ok (.iload_n 2, 1) := by decide +kernel
theorem dX0_seek_11 : decode cX0_seek 11 = .ok (.aload_n 1, 1) := by decide +kernel
theorem dX0_seek_12 : decode cX0_seek 12 = .ok (.invokevirtual 35, 3) := by decide +kernel
theorem dX0_seek_15 : decode cX0_seek 15 = .ok (.if_icmp .ge 27, 3) := by decide +kernel
theorem dX0_seek_18 : decode cX0_seek 18 = .ok (.aload_n 1, 1) := by decide +kernel
theorem dX0_seek_19 : decode cX0_seek 19 = .ok (.iload_n 2, 1) := by decide +kernel
theorem dX0_seek_20 : decode cX0_seek 20 = .ok (.invokevirtual 41, 3) := by decide +kernel
theorem dX0_seek_23 : decode cX0_seek 23 = .ok (.ifCond .eq 13, 3) := by decide +kernel
theorem dX0_seek_26 : decode cX0_seek 26 = .ok (.aload_n 0, 1) := by decide +kernel
theorem dX0_seek_27 : decode cX0_seek 27 = .ok (.iload_n 2, 1) := by decide +kernel
theorem dX0_seek_28 : decode cX0_seek 28 = .ok (.aload_n 1, 1) := by decide +kernel
theorem dX0_seek_29 : decode cX0_seek 29 = .ok (.iload_n 2, 1) := by decide +kernel
theorem dX0_seek_30 : decode cX0_seek 30 = .ok (.invokevirtual 45, 3) := by decide +kernel
theorem dX0_seek_33 : decode cX0_seek 33 = .ok (.invokevirtual 49, 3) := by decide +kernel
theorem dX0_seek_36 : decode cX0_seek 36 = .ok (.iinc 2 1, 3) := by decide +kernel
theorem dX0_seek_39 : decode cX0_seek 39 = .ok (.goto (-29), 3) := by decide +kernel
theorem dX0_seek_42 : decode cX0_seek 42 = .ok (.aload_n 0, 1) := by decide +kernel
theorem dX0_seek_43 : decode cX0_seek 43 = .ok (.iconst 0, 1) := by decide +kernel
theorem dX0_seek_44 : decode cX0_seek 44 = .ok (.putfield 53, 3) := by decide +kernel
theorem dX0_seek_47 : decode cX0_seek 47 = .ok (.iconst 1, 1) := by decide +kernel
theorem dX0_seek_48 : decode cX0_seek 48 = .ok (.istore_n 2, 1) := by decide +kernel
theorem dX0_seek_49 : decode cX0_seek 49 = .ok (.iload_n 2, 1) := by decide +kernel
theorem dX0_seek_50 : decode cX0_seek 50 = .ok (.aload_n 0, 1) := by decide +kernel
theorem dX0_seek_51 : decode cX0_seek 51 = .ok (.getfield 20, 3) := by decide +kernel
theorem dX0_seek_54 : decode cX0_seek 54 = .ok (.arraylength, 1) := by decide +kernel
theorem dX0_seek_55 : decode cX0_seek 55 = .ok (.if_icmp .ge 32, 3) := by decide +kernel
theorem dX0_seek_58 : decode cX0_seek 58 = .ok (.aload_n 0, 1) := by decide +kernel
theorem dX0_seek_59 : decode cX0_seek 59 = .ok (.getfield 20, 3) := by decide +kernel
theorem dX0_seek_62 : decode cX0_seek 62 = .ok (.iload_n 2, 1) := by decide +kernel
theorem dX0_seek_63 : decode cX0_seek 63 = .ok (.iaload, 1) := by decide +kernel
theorem dX0_seek_64 : decode cX0_seek 64 = .ok (.aload_n 0, 1) := by decide +kernel
theorem dX0_seek_65 : decode cX0_seek 65 = .ok (.getfield 20, 3) := by decide +kernel
theorem dX0_seek_68 : decode cX0_seek 68 = .ok (.aload_n 0, 1) := by decide +kernel
theorem dX0_seek_69 : decode cX0_seek 69 = .ok (.getfield 53, 3) := by decide +kernel
theorem dX0_seek_72 : decode cX0_seek 72 = .ok (.iaload, 1) := by decide +kernel
theorem dX0_seek_73 : decode cX0_seek 73 = .ok (.if_icmp .le 8, 3) := by decide +kernel
theorem dX0_seek_76 : decode cX0_seek 76 = .ok (.aload_n 0, 1) := by decide +kernel
theorem dX0_seek_77 : decode cX0_seek 77 = .ok (.iload_n 2, 1) := by decide +kernel
theorem dX0_seek_78 : decode cX0_seek 78 = .ok (.putfield 53, 3) := by decide +kernel
theorem dX0_seek_81 : decode cX0_seek 81 = .ok (.iinc 2 1, 3) := by decide +kernel
theorem dX0_seek_84 : decode cX0_seek 84 = .ok (.goto (-35), 3) := by decide +kernel
theorem dX0_seek_87 : decode cX0_seek 87 = .ok (.return_, 1) := by decide +kernel
theorem dX0_meetHeard_0 : decode cX0_meetHeard 0 = .ok (.iconst 0, 1) := by decide +kernel
theorem dX0_meetHeard_1 : decode cX0_meetHeard 1 = .ok (.istore_n 3, 1) := by decide +kernel
theorem dX0_meetHeard_2 : decode cX0_meetHeard 2 = .ok (.iload_n 3, 1) := by decide +kernel
theorem dX0_meetHeard_3 : decode cX0_meetHeard 3 = .ok (.aload_n 0, 1) := by decide +kernel
theorem dX0_meetHeard_4 : decode cX0_meetHeard 4 = .ok (.getfield 16, 3) := by decide +kernel
theorem dX0_meetHeard_7 : decode cX0_meetHeard 7 = .ok (.if_icmp .ge 78, 3) := by decide +kernel
theorem dX0_meetHeard_10 : decode cX0_meetHeard 10 = .ok (.iload_n 3, 1) := by decide +kernel
theorem dX0_meetHeard_11 : decode cX0_meetHeard 11 = .ok (.bipush 40, 2) := by decide +kernel
theorem dX0_meetHeard_13 : decode cX0_meetHeard 13 = .ok (.if_icmp .ge 72, 3) := by decide +kernel
theorem dX0_meetHeard_16 : decode cX0_meetHeard 16 = .ok (.aload_n 0, 1) := by decide +kernel
theorem dX0_meetHeard_17 : decode cX0_meetHeard 17 = .ok (.getfield 9, 3) := by decide +kernel
theorem dX0_meetHeard_20 : decode cX0_meetHeard 20 = .ok (.iload_n 3, 1) := by decide +kernel
theorem dX0_meetHeard_21 : decode cX0_meetHeard 21 = .ok (.iaload, 1) := by decide +kernel
theorem dX0_meetHeard_22 : decode cX0_meetHeard 22 = .ok (.iload_n 1, 1) := by decide +kernel
theorem dX0_meetHeard_23 : decode cX0_meetHeard 23 = .ok (.isub, 1) := by decide +kernel
theorem dX0_meetHeard_24 : decode cX0_meetHeard 24 = .ok (.istore 4, 2) := by decide +kernel
theorem dX0_meetHeard_26 : decode cX0_meetHeard 26 = .ok (.aload_n 0, 1) := by decide +kernel
theorem dX0_meetHeard_27 : decode cX0_meetHeard 27 = .ok (.getfield 13, 3) := by decide +kernel
theorem dX0_meetHeard_30 : decode cX0_meetHeard 30 = .ok (.iload_n 3, 1) := by decide +kernel
theorem dX0_meetHeard_31 : decode cX0_meetHeard 31 = .ok (.iaload, 1) := by decide +kernel
theorem dX0_meetHeard_32 : decode cX0_meetHeard 32 = .ok (.iload_n 2, 1) := by decide +kernel
theorem dX0_meetHeard_33 : decode cX0_meetHeard 33 = .ok (.isub, 1) := by decide +kernel
theorem dX0_meetHeard_34 : decode cX0_meetHeard 34 = .ok (.istore 5, 2) := by decide +kernel
theorem dX0_meetHeard_36 : decode cX0_meetHeard 36 = .ok (.iload 4, 2) := by decide +kernel
theorem dX0_meetHeard_38 : decode cX0_meetHeard 38 = .ok (.iconst 0, 1) := by decide +kernel
theorem dX0_meetHeard_39 : decode cX0_meetHeard 39 = .ok (.bipush 18, 2) := by decide +kernel
theorem dX0_meetHeard_41 : decode cX0_meetHeard 41 = .ok (.invokestatic 23, 3) := by decide +kernel
theorem dX0_meetHeard_44 : decode cX0_meetHeard 44 = .ok (.ifCond .eq 35, 3) := by decide +kernel
theorem dX0_meetHeard_47 : decode cX0_meetHeard 47 = .ok (.iload 5, 2) := by decide +kernel
theorem dX0_meetHeard_49 : decode cX0_meetHeard 49 = .ok (.bipush (-20), 2) := by decide +kernel
theorem dX0_meetHeard_51 : decode cX0_meetHeard 51 = .ok (.bipush 20, 2) := by decide +kernel
theorem dX0_meetHeard_53 : decode cX0_meetHeard 53 = .ok (.invokestatic 23, 3) := by decide +kernel
theorem dX0_meetHeard_56 : decode cX0_meetHeard 56 = .ok (.ifCond .eq 23, 3) := by decide +kernel
theorem dX0_meetHeard_59 : decode cX0_meetHeard 59 = .ok (.aload_n 0, 1) := by decide +kernel
theorem dX0_meetHeard_60 : decode cX0_meetHeard 60 = .ok (.getfield 20, 3) := by decide +kernel
theorem dX0_meetHeard_63 : decode cX0_meetHeard 63 = .ok (.iload 4, 2) := by decide +kernel
theorem dX0_meetHeard_65 : decode cX0_meetHeard 65 = .ok (.bipush 41, 2) := by decide +kernel
theorem dX0_meetHeard_67 : decode cX0_meetHeard 67 = .ok (.imul, 1) := by decide +kernel
theorem dX0_meetHeard_68 : decode cX0_meetHeard 68 = .ok (.iload 5, 2) := by decide +kernel
theorem dX0_meetHeard_70 : decode cX0_meetHeard 70 = .ok (.iadd, 1) := by decide +kernel
theorem dX0_meetHeard_71 : decode cX0_meetHeard 71 = .ok (.bipush 20, 2) := by decide +kernel
theorem dX0_meetHeard_73 : decode cX0_meetHeard 73 = .ok (.iadd, 1) := by decide +kernel
theorem dX0_meetHeard_74 : decode cX0_meetHeard 74 = .ok (.dup2, 1) := by decide +kernel
theorem dX0_meetHeard_75 : decode cX0_meetHeard 75 = .ok (.iaload, 1) := by decide +kernel
theorem dX0_meetHeard_76 : decode cX0_meetHeard 76 = .ok (.iconst 1, 1) := by decide +kernel
theorem dX0_meetHeard_77 : decode cX0_meetHeard 77 = .ok (.iadd, 1) := by decide +kernel
theorem dX0_meetHeard_78 : decode cX0_meetHeard 78 = .ok (.iastore, 1) := by decide +kernel
theorem dX0_meetHeard_79 : decode cX0_meetHeard 79 = .ok (.iinc 3 1, 3) := by decide +kernel
theorem dX0_meetHeard_82 : decode cX0_meetHeard 82 = .ok (.goto (-80), 3) := by decide +kernel
theorem dX0_meetHeard_85 : decode cX0_meetHeard 85 = .ok (.return_, 1) := by decide +kernel
theorem dX0_bestMeeting_0 : decode cX0_bestMeeting 0 = .ok (.aload_n 0, 1) := by decide +kernel
theorem dX0_bestMeeting_1 : decode cX0_bestMeeting 1 = .ok (.getfield 53, 3) := by decide +kernel
theorem dX0_bestMeeting_4 : decode cX0_bestMeeting 4 = .ok (.iconst 0, 1) := by decide +kernel
theorem dX0_bestMeeting_5 : decode cX0_bestMeeting 5 = .ok (.aload_n 0, 1) := by decide +kernel
theorem dX0_bestMeeting_6 : decode cX0_bestMeeting 6 = .ok (.getfield 20, 3) := by decide +kernel
theorem dX0_bestMeeting_9 : decode cX0_bestMeeting 9 = .ok (.arraylength, 1) := by decide +kernel
theorem dX0_bestMeeting_10 : decode cX0_bestMeeting 10 = .ok (.iconst 1, 1) := by decide +kernel
theorem dX0_bestMeeting_11 : decode cX0_bestMeeting 11 = .ok (.isub, 1) := by decide +kernel
theorem dX0_bestMeeting_12 : decode cX0_bestMeeting 12 = .ok (.invokestatic 23, 3) := by decide +kernel
theorem dX0_bestMeeting_15 : decode cX0_bestMeeting 15 = .ok (.ifCond .eq 15, 3) := by decide +kernel
theorem dX0_bestMeeting_18 : decode cX0_bestMeeting 18 = .ok (.aload_n 0, 1) := by decide +kernel
theorem dX0_bestMeeting_19 : decode cX0_bestMeeting 19 = .ok (.getfield 20, 3) := by decide +kernel
theorem dX0_bestMeeting_22 : decode cX0_bestMeeting 22 = .ok (.aload_n 0, 1) := by decide +kernel
theorem dX0_bestMeeting_23 : decode cX0_bestMeeting 23 = .ok (.getfield 53, 3) := by decide +kernel
theorem dX0_bestMeeting_26 : decode cX0_bestMeeting 26 = .ok (.iaload, 1) := by decide +kernel
theorem dX0_bestMeeting_27 : decode cX0_bestMeeting 27 = .ok (.goto 4, 3) := by decide +kernel
theorem dX0_bestMeeting_30 : decode cX0_bestMeeting 30 = .ok (.iconst 0, 1) := by decide +kernel
theorem dX0_bestMeeting_31 : decode cX0_bestMeeting 31 = .ok (.ireturn, 1) := by decide +kernel
theorem dX0_bestLate_0 : decode cX0_bestLate 0 = .ok (.aload_n 0, 1) := by decide +kernel
theorem dX0_bestLate_1 : decode cX0_bestLate 1 = .ok (.getfield 53, 3) := by decide +kernel
theorem dX0_bestLate_4 : decode cX0_bestLate 4 = .ok (.bipush 41, 2) := by decide +kernel
theorem dX0_bestLate_6 : decode cX0_bestLate 6 = .ok (.idiv, 1) := by decide +kernel
theorem dX0_bestLate_7 : decode cX0_bestLate 7 = .ok (.ireturn, 1) := by decide +kernel
theorem dX0_bestMoved_0 : decode cX0_bestMoved 0 = .ok (.aload_n 0, 1) := by decide +kernel
theorem dX0_bestMoved_1 : decode cX0_bestMoved 1 = .ok (.getfield 53, 3) := by decide +kernel
theorem dX0_bestMoved_4 : decode cX0_bestMoved 4 = .ok (.bipush 41, 2) := by decide +kernel
theorem dX0_bestMoved_6 : decode cX0_bestMoved 6 = .ok (.irem, 1) := by decide +kernel
theorem dX0_bestMoved_7 : decode cX0_bestMoved 7 = .ok (.bipush 20, 2) := by decide +kernel
theorem dX0_bestMoved_9 : decode cX0_bestMoved 9 = .ok (.isub, 1) := by decide +kernel
theorem dX0_bestMoved_10 : decode cX0_bestMoved 10 = .ok (.ireturn, 1) := by decide +kernel
theorem dX1_init_0 : decode cX1_init 0 = .ok (.aload_n 0, 1) := by decide +kernel
theorem dX1_init_1 : decode cX1_init 1 = .ok (.invokespecial 3, 3) := by decide +kernel
theorem dX1_init_4 : decode cX1_init 4 = .ok (.aload_n 0, 1) := by decide +kernel
theorem dX1_init_5 : decode cX1_init 5 = .ok (.sipush 625, 3) := by decide +kernel
theorem dX1_init_8 : decode cX1_init 8 = .ok (.newarray .int, 2) := by decide +kernel
theorem dX1_init_10 : decode cX1_init 10 = .ok (.putfield 11, 3) := by decide +kernel
theorem dX1_init_13 : decode cX1_init 13 = .ok (.return_, 1) := by decide +kernel
theorem dX1_lookAt_0 : decode cX1_lookAt 0 = .ok (.aload_n 0, 1) := by decide +kernel
theorem dX1_lookAt_1 : decode cX1_lookAt 1 = .ok (.getfield 11, 3) := by decide +kernel
theorem dX1_lookAt_4 : decode cX1_lookAt 4 = .ok (.iconst 0, 1) := by decide +kernel
theorem dX1_lookAt_5 : decode cX1_lookAt 5 = .ok (.invokestatic 15, 3) := by decide +kernel
theorem dX1_lookAt_8 : decode cX1_lookAt 8 = .ok (.iconst 0, 1) := by decide +kernel
theorem dX1_lookAt_9 : decode cX1_lookAt 9 = .ok (.istore 4, 2) := by decide +kernel
theorem dX1_lookAt_11 : decode cX1_lookAt 11 = .ok (.iload 4, 2) := by decide +kernel
theorem dX1_lookAt_13 : decode cX1_lookAt 13 = .ok (.aload_n 1, 1) := by decide +kernel
theorem dX1_lookAt_14 : decode cX1_lookAt 14 = .ok (.invokevirtual 21, 3) := by decide +kernel
theorem dX1_lookAt_17 : decode cX1_lookAt 17 = .ok (.if_icmp .ge 31, 3) := by decide +kernel
theorem dX1_lookAt_20 : decode cX1_lookAt 20 = .ok (.aload_n 1, 1) := by decide +kernel
theorem dX1_lookAt_21 : decode cX1_lookAt 21 = .ok (.iload 4, 2) := by decide +kernel
theorem dX1_lookAt_23 : decode cX1_lookAt 23 = .ok (.invokevirtual 27, 3) := by decide +kernel
theorem dX1_lookAt_26 : decode cX1_lookAt 26 = .ok (.ifCond .eq 16, 3) := by decide +kernel
theorem dX1_lookAt_29 : decode cX1_lookAt 29 = .ok (.aload_n 0, 1) := by decide +kernel
theorem dX1_lookAt_30 : decode cX1_lookAt 30 = .ok (.iload 4, 2) := by decide +kernel
theorem dX1_lookAt_32 : decode cX1_lookAt 32 = .ok (.aload_n 1, 1) := by decide +kernel
theorem dX1_lookAt_33 : decode cX1_lookAt 33 = .ok (.iload 4, 2) := by decide +kernel
theorem dX1_lookAt_35 : decode cX1_lookAt 35 = .ok (.invokevirtual 31, 3) := by decide +kernel
theorem dX1_lookAt_38 : decode cX1_lookAt 38 = .ok (.aload_n 2, 1) := by decide +kernel
theorem dX1_lookAt_39 : decode cX1_lookAt 39 = .ok (.invokevirtual 35, 3) := by decide +kernel
theorem dX1_lookAt_42 : decode cX1_lookAt 42 = .ok (.iinc 4 1, 3) := by decide +kernel
theorem dX1_lookAt_45 : decode cX1_lookAt 45 = .ok (.goto (-34), 3) := by decide +kernel
theorem dX1_lookAt_48 : decode cX1_lookAt 48 = .ok (.aload_n 0, 1) := by decide +kernel
theorem dX1_lookAt_49 : decode cX1_lookAt 49 = .ok (.iload_n 3, 1) := by decide +kernel
theorem dX1_lookAt_50 : decode cX1_lookAt 50 = .ok (.ifCond .eq 11, 3) := by decide +kernel
theorem dX1_lookAt_53 : decode cX1_lookAt 53 = .ok (.iconst 0, 1) := by decide +kernel
theorem dX1_lookAt_54 : decode cX1_lookAt 54 = .ok (.iconst 0, 1) := by decide +kernel
theorem dX1_lookAt_55 : decode cX1_lookAt 55 = .ok (.invokestatic 39, 3) := by decide +kernel
theorem dX1_lookAt_58 : decode cX1_lookAt 58 = .ok (.goto 4, 3) := by decide +kernel
theorem dX1_lookAt_61 : decode cX1_lookAt 61 = .ok (.iconst (-1), 1) := by decide +kernel
theorem dX1_lookAt_62 : decode cX1_lookAt 62 = .ok (.invokevirtual 43, 3) := by decide +kernel
theorem dX1_lookAt_65 : decode cX1_lookAt 65 = .ok (.return_, 1) := by decide +kernel
theorem dX1_placeOf_0 : decode cX1_placeOf 0 = .ok (.iload_n 0, 1) := by decide +kernel
theorem dX1_placeOf_1 : decode cX1_placeOf 1 = .ok (.bipush 12, 2) := by decide +kernel
theorem dX1_placeOf_3 : decode cX1_placeOf 3 = .ok (.iadd, 1) := by decide +kernel
theorem dX1_placeOf_4 : decode cX1_placeOf 4 = .ok (.bipush 25, 2) := by decide +kernel
theorem dX1_placeOf_6 : decode cX1_placeOf 6 = .ok (.imul, 1) := by decide +kernel
theorem dX1_placeOf_7 : decode cX1_placeOf 7 = .ok (.iload_n 1, 1) := by decide +kernel
theorem dX1_placeOf_8 : decode cX1_placeOf 8 = .ok (.iadd, 1) := by decide +kernel
theorem dX1_placeOf_9 : decode cX1_placeOf 9 = .ok (.bipush 12, 2) := by decide +kernel
theorem dX1_placeOf_11 : decode cX1_placeOf 11 = .ok (.iadd, 1) := by decide +kernel
theorem dX1_placeOf_12 : decode cX1_placeOf 12 = .ok (.ireturn, 1) := by decide +kernel
theorem dX1_meetAll_0 : decode cX1_meetAll 0 = .ok (.iconst 0, 1) := by decide +kernel
theorem dX1_meetAll_1 : decode cX1_meetAll 1 = .ok (.istore 4, 2) := by decide +kernel
theorem dX1_meetAll_3 : decode cX1_meetAll 3 = .ok (.iload 4, 2) := by decide +kernel
theorem dX1_meetAll_5 : decode cX1_meetAll 5 = .ok (.aload_n 3, 1) := by decide +kernel
theorem dX1_meetAll_6 : decode cX1_meetAll 6 = .ok (.invokevirtual 21, 3) := by decide +kernel
theorem dX1_meetAll_9 : decode cX1_meetAll 9 = .ok (.if_icmp .ge 66, 3) := by decide +kernel
theorem dX1_meetAll_12 : decode cX1_meetAll 12 = .ok (.iload 4, 2) := by decide +kernel
theorem dX1_meetAll_14 : decode cX1_meetAll 14 = .ok (.iload_n 1, 1) := by decide +kernel
theorem dX1_meetAll_15 : decode cX1_meetAll 15 = .ok (.isub, 1) := by decide +kernel
theorem dX1_meetAll_16 : decode cX1_meetAll 16 = .ok (.istore 5, 2) := by decide +kernel
theorem dX1_meetAll_18 : decode cX1_meetAll 18 = .ok (.aload_n 3, 1) := by decide +kernel
theorem dX1_meetAll_19 : decode cX1_meetAll 19 = .ok (.iload 4, 2) := by decide +kernel
theorem dX1_meetAll_21 : decode cX1_meetAll 21 = .ok (.invokevirtual 31, 3) := by decide +kernel
theorem dX1_meetAll_24 : decode cX1_meetAll 24 = .ok (.iload_n 2, 1) := by decide +kernel
theorem dX1_meetAll_25 : decode cX1_meetAll 25 = .ok (.isub, 1) := by decide +kernel
theorem dX1_meetAll_26 : decode cX1_meetAll 26 = .ok (.istore 6, 2) := by decide +kernel
theorem dX1_meetAll_28 : decode cX1_meetAll 28 = .ok (.aload_n 3, 1) := by decide +kernel
theorem dX1_meetAll_29 : decode cX1_meetAll 29 = .ok (.iload 4, 2) := by decide +kernel
theorem dX1_meetAll_31 : decode cX1_meetAll 31 = .ok (.invokevirtual 27, 3) := by decide +kernel
theorem dX1_meetAll_34 : decode cX1_meetAll 34 = .ok (.ifCond .eq 35, 3) := by decide +kernel
theorem dX1_meetAll_37 : decode cX1_meetAll 37 = .ok (.iload 5, 2) := by decide +kernel
theorem dX1_meetAll_39 : decode cX1_meetAll 39 = .ok (.invokestatic 47, 3) := by decide +kernel
theorem dX1_meetAll_42 : decode cX1_meetAll 42 = .ok (.ifCond .eq 27, 3) := by decide +kernel
theorem dX1_meetAll_45 : decode cX1_meetAll 45 = .ok (.iload 6, 2) := by decide +kernel
theorem dX1_meetAll_47 : decode cX1_meetAll 47 = .ok (.invokestatic 47, 3) := by decide +kernel
theorem dX1_meetAll_50 : decode cX1_meetAll 50 = .ok (.ifCond .eq 19, 3) := by decide +kernel
theorem dX1_meetAll_53 : decode cX1_meetAll 53 = .ok (.aload_n 0, 1) := by decide +kernel
theorem dX1_meetAll_54 : decode cX1_meetAll 54 = .ok (.getfield 11, 3) := by decide +kernel
theorem dX1_meetAll_57 : decode cX1_meetAll 57 = .ok (.iload 5, 2) := by decide +kernel
theorem dX1_meetAll_59 : decode cX1_meetAll 59 = .ok (.iload 6, 2) := by decide +kernel
theorem dX1_meetAll_61 : decode cX1_meetAll 61 = .ok (.invokestatic 39, 3) := by decide +kernel
theorem dX1_meetAll_64 : decode cX1_meetAll 64 = .ok (.dup2, 1) := by decide +kernel
theorem dX1_meetAll_65 : decode cX1_meetAll 65 = .ok (.iaload, 1) := by decide +kernel
theorem dX1_meetAll_66 : decode cX1_meetAll 66 = .ok (.iconst 1, 1) := by decide +kernel
theorem dX1_meetAll_67 : decode cX1_meetAll 67 = .ok (.iadd, 1) := by decide +kernel
theorem dX1_meetAll_68 : decode cX1_meetAll 68 = .ok (.iastore, 1) := by decide +kernel
theorem dX1_meetAll_69 : decode cX1_meetAll 69 = .ok (.iinc 4 1, 3) := by decide +kernel
theorem dX1_meetAll_72 : decode cX1_meetAll 72 = .ok (.goto (-69), 3) := by decide +kernel
theorem dX1_meetAll_75 : decode cX1_meetAll 75 = .ok (.return_, 1) := by decide +kernel
theorem dX1_weigh_0 : decode cX1_weigh 0 = .ok (.aload_n 0, 1) := by decide +kernel
theorem dX1_weigh_1 : decode cX1_weigh 1 = .ok (.iconst (-1), 1) := by decide +kernel
theorem dX1_weigh_2 : decode cX1_weigh 2 = .ok (.putfield 50, 3) := by decide +kernel
theorem dX1_weigh_5 : decode cX1_weigh 5 = .ok (.aload_n 0, 1) := by decide +kernel
theorem dX1_weigh_6 : decode cX1_weigh 6 = .ok (.iconst 0, 1) := by decide +kernel
theorem dX1_weigh_7 : decode cX1_weigh 7 = .ok (.putfield 54, 3) := by decide +kernel
theorem dX1_weigh_10 : decode cX1_weigh 10 = .ok (.aload_n 0, 1) := by decide +kernel
theorem dX1_weigh_11 : decode cX1_weigh 11 = .ok (.iconst 0, 1) := by decide +kernel
theorem dX1_weigh_12 : decode cX1_weigh 12 = .ok (.putfield 57, 3) := by decide +kernel
theorem dX1_weigh_15 : decode cX1_weigh 15 = .ok (.iconst 0, 1) := by decide +kernel
theorem dX1_weigh_16 : decode cX1_weigh 16 = .ok (.istore_n 2, 1) := by decide +kernel
theorem dX1_weigh_17 : decode cX1_weigh 17 = .ok (.iload_n 2, 1) := by decide +kernel
theorem dX1_weigh_18 : decode cX1_weigh 18 = .ok (.aload_n 0, 1) := by decide +kernel
theorem dX1_weigh_19 : decode cX1_weigh 19 = .ok (.getfield 11, 3) := by decide +kernel
theorem dX1_weigh_22 : decode cX1_weigh 22 = .ok (.arraylength, 1) := by decide +kernel
theorem dX1_weigh_23 : decode cX1_weigh 23 = .ok (.if_icmp .ge 64, 3) := by decide +kernel
theorem dX1_weigh_26 : decode cX1_weigh 26 = .ok (.iload_n 2, 1) := by decide +kernel
theorem dX1_weigh_27 : decode cX1_weigh 27 = .ok (.iload_n 1, 1) := by decide +kernel
theorem dX1_weigh_28 : decode cX1_weigh 28 = .ok (.if_icmp .eq 53, 3) := by decide +kernel
theorem dX1_weigh_31 : decode cX1_weigh 31 = .ok (.aload_n 0, 1) := by decide +kernel
theorem dX1_weigh_32 : decode cX1_weigh 32 = .ok (.dup, 1) := by decide +kernel
theorem dX1_weigh_33 : decode cX1_weigh 33 = .ok (.getfield 57, 3) := by decide +kernel
theorem dX1_weigh_36 : decode cX1_weigh 36 = .ok (.aload_n 0, 1) := by decide +kernel
theorem dX1_weigh_37 : decode cX1_weigh 37 = .ok (.getfield 11, 3) := by decide +kernel
theorem dX1_weigh_40 : decode cX1_weigh 40 = .ok (.iload_n 2, 1) := by decide +kernel
theorem dX1_weigh_41 : decode cX1_weigh 41 = .ok (.iaload, 1) := by decide +kernel
theorem dX1_weigh_42 : decode cX1_weigh 42 = .ok (.aload_n 0, 1) := by decide +kernel
theorem dX1_weigh_43 : decode cX1_weigh 43 = .ok (.getfield 11, 3) := by decide +kernel
theorem dX1_weigh_46 : decode cX1_weigh 46 = .ok (.iload_n 2, 1) := by decide +kernel
theorem dX1_weigh_47 : decode cX1_weigh 47 = .ok (.iaload, 1) := by decide +kernel
theorem dX1_weigh_48 : decode cX1_weigh 48 = .ok (.imul, 1) := by decide +kernel
theorem dX1_weigh_49 : decode cX1_weigh 49 = .ok (.iadd, 1) := by decide +kernel
theorem dX1_weigh_50 : decode cX1_weigh 50 = .ok (.putfield 57, 3) := by decide +kernel
theorem dX1_weigh_53 : decode cX1_weigh 53 = .ok (.aload_n 0, 1) := by decide +kernel
theorem dX1_weigh_54 : decode cX1_weigh 54 = .ok (.getfield 11, 3) := by decide +kernel
theorem dX1_weigh_57 : decode cX1_weigh 57 = .ok (.iload_n 2, 1) := by decide +kernel
theorem dX1_weigh_58 : decode cX1_weigh 58 = .ok (.iaload, 1) := by decide +kernel
theorem dX1_weigh_59 : decode cX1_weigh 59 = .ok (.aload_n 0, 1) := by decide +kernel
theorem dX1_weigh_60 : decode cX1_weigh 60 = .ok (.getfield 50, 3) := by decide +kernel
theorem dX1_weigh_63 : decode cX1_weigh 63 = .ok (.if_icmp .le 18, 3) := by decide +kernel
theorem dX1_weigh_66 : decode cX1_weigh 66 = .ok (.aload_n 0, 1) := by decide +kernel
theorem dX1_weigh_67 : decode cX1_weigh 67 = .ok (.aload_n 0, 1) := by decide +kernel
theorem dX1_weigh_68 : decode cX1_weigh 68 = .ok (.getfield 11, 3) := by decide +kernel
theorem dX1_weigh_71 : decode cX1_weigh 71 = .ok (.iload_n 2, 1) := by decide +kernel
theorem dX1_weigh_72 : decode cX1_weigh 72 = .ok (.iaload, 1) := by decide +kernel
theorem dX1_weigh_73 : decode cX1_weigh 73 = .ok (.putfield 50, 3) := by decide +kernel
theorem dX1_weigh_76 : decode cX1_weigh 76 = .ok (.aload_n 0, 1) := by decide +kernel
theorem dX1_weigh_77 : decode cX1_weigh 77 = .ok (.iload_n 2, 1) := by decide +kernel
theorem dX1_weigh_78 : decode cX1_weigh 78 = .ok (.putfield 54, 3) := by decide +kernel
theorem dX1_weigh_81 : decode cX1_weigh 81 = .ok (.iinc 2 1, 3) := by decide +kernel
theorem dX1_weigh_84 : decode cX1_weigh 84 = .ok (.goto (-67), 3) := by decide +kernel
theorem dX1_weigh_87 : decode cX1_weigh 87 = .ok (.return_, 1) := by decide +kernel
theorem dX1_bestMeeting_0 : decode cX1_bestMeeting 0 = .ok (.aload_n 0, 1) := by decide +kernel
theorem dX1_bestMeeting_1 : decode cX1_bestMeeting 1 = .ok (.getfield 50, 3) := by decide +kernel
theorem dX1_bestMeeting_4 : decode cX1_bestMeeting 4 = .ok (.ireturn, 1) := by decide +kernel
theorem dX1_bestDx_0 : decode cX1_bestDx 0 = .ok (.aload_n 0, 1) := by decide +kernel
theorem dX1_bestDx_1 : decode cX1_bestDx 1 = .ok (.getfield 54, 3) := by decide +kernel
theorem dX1_bestDx_4 : decode cX1_bestDx 4 = .ok (.bipush 25, 2) := by decide +kernel
theorem dX1_bestDx_6 : decode cX1_bestDx 6 = .ok (.idiv, 1) := by decide +kernel
theorem dX1_bestDx_7 : decode cX1_bestDx 7 = .ok (.bipush 12, 2) := by decide +kernel
theorem dX1_bestDx_9 : decode cX1_bestDx 9 = .ok (.isub, 1) := by decide +kernel
theorem dX1_bestDx_10 : decode cX1_bestDx 10 = .ok (.ireturn, 1) := by decide +kernel
theorem dX1_bestDy_0 : decode cX1_bestDy 0 = .ok (.aload_n 0, 1) := by decide +kernel
theorem dX1_bestDy_1 : decode cX1_bestDy 1 = .ok (.getfield 54, 3) := by decide +kernel
theorem dX1_bestDy_4 : decode cX1_bestDy 4 = .ok (.bipush 25, 2) := by decide +kernel
theorem dX1_bestDy_6 : decode cX1_bestDy 6 = .ok (.irem, 1) := by decide +kernel
theorem dX1_bestDy_7 : decode cX1_bestDy 7 = .ok (.bipush 12, 2) := by decide +kernel
theorem dX1_bestDy_9 : decode cX1_bestDy 9 = .ok (.isub, 1) := by decide +kernel
theorem dX1_bestDy_10 : decode cX1_bestDy 10 = .ok (.ireturn, 1) := by decide +kernel
theorem dX1_sumOfSquares_0 : decode cX1_sumOfSquares 0 = .ok (.aload_n 0, 1) := by decide +kernel
theorem dX1_sumOfSquares_1 : decode cX1_sumOfSquares 1 = .ok (.getfield 57, 3) := by decide +kernel
theorem dX1_sumOfSquares_4 : decode cX1_sumOfSquares 4 = .ok (.ireturn, 1) := by decide +kernel
theorem dX2_init_0 : decode cX2_init 0 = .ok (.aload_n 0, 1) := by decide +kernel
theorem dX2_init_1 : decode cX2_init 1 = .ok (.invokespecial 3, 3) := by decide +kernel
theorem dX2_init_4 : decode cX2_init 4 = .ok (.aload_n 0, 1) := by decide +kernel
theorem dX2_init_5 : decode cX2_init 5 = .ok (.bipush 6, 2) := by decide +kernel
theorem dX2_init_7 : decode cX2_init 7 = .ok (.newarray .int, 2) := by decide +kernel
theorem dX2_init_9 : decode cX2_init 9 = .ok (.putfield 9, 3) := by decide +kernel
theorem dX2_init_12 : decode cX2_init 12 = .ok (.aload_n 0, 1) := by decide +kernel
theorem dX2_init_13 : decode cX2_init 13 = .ok (.iconst 1, 1) := by decide +kernel
theorem dX2_init_14 : decode cX2_init 14 = .ok (.putfield 15, 3) := by decide +kernel
theorem dX2_init_17 : decode cX2_init 17 = .ok (.return_, 1) := by decide +kernel
theorem dX2_withQuarrels_0 : decode cX2_withQuarrels 0 = .ok (.iload_n 1, 1) := by decide +kernel
theorem dX2_withQuarrels_1 : decode cX2_withQuarrels 1 = .ok (.iconst 1, 1) := by decide +kernel
theorem dX2_withQuarrels_2 : decode cX2_withQuarrels 2 = .ok (.bipush 6, 2) := by decide +kernel
theorem dX2_withQuarrels_4 : decode cX2_withQuarrels 4 = .ok (.invokestatic 19, 3) := by decide +kernel
theorem dX2_withQuarrels_7 : decode cX2_withQuarrels 7 = .ok (.ifCond .ne 5, 3) := by decide +kernel
theorem dX2_withQuarrels_10 : decode cX2_withQuarrels 10 = .ok (.iconst 0, 1) := by decide +kernel
theorem dX2_withQuarrels_11 : decode cX2_withQuarrels 11 = .ok (.ireturn, 1) := by decide +kernel
theorem dX2_withQuarrels_12 : decode cX2_withQuarrels 12 = .ok (.aload_n 0, 1) := by decide +kernel
theorem dX2_withQuarrels_13 : decode cX2_withQuarrels 13 = .ok (.iload_n 1, 1) := by decide +kernel
theorem dX2_withQuarrels_14 : decode cX2_withQuarrels 14 = .ok (.putfield 15, 3) := by decide +kernel
theorem dX2_withQuarrels_17 : decode cX2_withQuarrels 17 = .ok (.aload_n 0, 1) := by decide +kernel
theorem dX2_withQuarrels_18 : decode cX2_withQuarrels 18 = .ok (.iconst 0, 1) := by decide +kernel
theorem dX2_withQuarrels_19 : decode cX2_withQuarrels 19 = .ok (.iconst 0, 1) := by decide +kernel
theorem dX2_withQuarrels_20 : decode cX2_withQuarrels 20 = .ok (.iload_n 2, 1) := by decide +kernel
theorem dX2_withQuarrels_21 : decode cX2_withQuarrels 21 = .ok (.invokevirtual 23, 3) := by decide +kernel
theorem dX2_withQuarrels_24 : decode cX2_withQuarrels 24 = .ok (.ireturn, 1) := by decide +kernel
theorem dX2_countFrom_0 : decode cX2_countFrom 0 = .ok (.iload_n 1, 1) := by decide +kernel
theorem dX2_countFrom_1 : decode cX2_countFrom 1 = .ok (.aload_n 0, 1) := by decide +kernel
theorem dX2_countFrom_2 : decode cX2_countFrom 2 = .ok (.getfield 15, 3) := by decide +kernel
theorem dX2_countFrom_5 : decode cX2_countFrom 5 = .ok (.if_icmp .ge 9, 3) := by decide +kernel
theorem dX2_countFrom_8 : decode cX2_countFrom 8 = .ok (.iload_n 1, 1) := by decide +kernel
theorem dX2_countFrom_9 : decode cX2_countFrom 9 = .ok (.bipush 6, 2) := by decide +kernel
theorem dX2_countFrom_11 : decode cX2_countFrom 11 = .ok (.if_icmp .lt 13, 3) := by decide +kernel
theorem dX2_countFrom_14 : decode cX2_countFrom 14 = .ok (.iload_n 3, 1) := by decide +kernel
theorem dX2_countFrom_15 : decode cX2_countFrom 15 = .ok (.ifCond .ne 7, 3) := by decide +kernel
theorem dX2_countFrom_18 : decode cX2_countFrom 18 = .ok (.iconst 1, 1) := by decide +kernel
theorem dX2_countFrom_19 : decode cX2_countFrom 19 = .ok (.goto 4, 3) := by decide +kernel
theorem dX2_countFrom_22 : decode cX2_countFrom 22 = .ok (.iconst 0, 1) := by decide +kernel
theorem dX2_countFrom_23 : decode cX2_countFrom 23 = .ok (.ireturn, 1) := by decide +kernel
theorem dX2_countFrom_24 : decode cX2_countFrom 24 = .ok (.iconst 0, 1) := by decide +kernel
theorem dX2_countFrom_25 : decode cX2_countFrom 25 = .ok (.istore 4, 2) := by decide +kernel
theorem dX2_countFrom_27 : decode cX2_countFrom 27 = .ok (.iconst 0, 1) := by decide +kernel
theorem dX2_countFrom_28 : decode cX2_countFrom 28 = .ok (.istore 5, 2) := by decide +kernel
theorem dX2_countFrom_30 : decode cX2_countFrom 30 = .ok (.iload 5, 2) := by decide +kernel
theorem dX2_countFrom_32 : decode cX2_countFrom 32 = .ok (.aload_n 0, 1) := by decide +kernel
theorem dX2_countFrom_33 : decode cX2_countFrom 33 = .ok (.getfield 15, 3) := by decide +kernel
theorem dX2_countFrom_36 : decode cX2_countFrom 36 = .ok (.if_icmp .ge 60, 3) := by decide +kernel
theorem dX2_countFrom_39 : decode cX2_countFrom 39 = .ok (.iload_n 2, 1) := by decide +kernel
theorem dX2_countFrom_40 : decode cX2_countFrom 40 = .ok (.iload 5, 2) := by decide +kernel
theorem dX2_countFrom_42 : decode cX2_countFrom 42 = .ok (.ishr, 1) := by decide +kernel
theorem dX2_countFrom_43 : decode cX2_countFrom 43 = .ok (.iconst 1, 1) := by decide +kernel
theorem dX2_countFrom_44 : decode cX2_countFrom 44 = .ok (.iand, 1) := by decide +kernel
theorem dX2_countFrom_45 : decode cX2_countFrom 45 = .ok (.ifCond .ne 45, 3) := by decide +kernel
theorem dX2_countFrom_48 : decode cX2_countFrom 48 = .ok (.aload_n 0, 1) := by decide +kernel
theorem dX2_countFrom_49 : decode cX2_countFrom 49 = .ok (.getfield 9, 3) := by decide +kernel
theorem dX2_countFrom_52 : decode cX2_countFrom 52 = .ok (.iload_n 1, 1) := by decide +kernel
theorem dX2_countFrom_53 : decode cX2_countFrom 53 = .ok (.iload 5, 2) := by decide +kernel
theorem dX2_countFrom_55 : decode cX2_countFrom 55 = .ok (.iastore, 1) := by decide +kernel
theorem dX2_countFrom_56 : decode cX2_countFrom 56 = .ok (.iload_n 3, 1) := by decide +kernel
theorem dX2_countFrom_57 : decode cX2_countFrom 57 = .ok (.aload_n 0, 1) := by decide +kernel
theorem dX2_countFrom_58 : decode cX2_countFrom 58 = .ok (.iload_n 1, 1) := by decide +kernel
theorem dX2_countFrom_59 : decode cX2_countFrom 59 = .ok (.invokevirtual 27, 3) := by decide +kernel
theorem dX2_countFrom_62 : decode cX2_countFrom 62 = .ok (.isub, 1) := by decide +kernel
theorem dX2_countFrom_63 : decode cX2_countFrom 63 = .ok (.istore 6, 2) := by decide +kernel
theorem dX2_countFrom_65 : decode cX2_countFrom 65 = .ok (.iload 6, 2) := by decide +kernel
theorem dX2_countFrom_67 : decode cX2_countFrom 67 = .ok (.ifCond .lt 23, 3) := by decide +kernel
theorem dX2_countFrom_70 : decode cX2_countFrom 70 = .ok (.iload 4, 2) := by decide +kernel
theorem dX2_countFrom_72 : decode cX2_countFrom 72 = .ok (.aload_n 0, 1) := by decide +kernel
theorem dX2_countFrom_73 : decode cX2_countFrom 73 = .ok (.iload_n 1, 1) := by decide +kernel
theorem dX2_countFrom_74 : decode cX2_countFrom 74 = .ok (.iconst 1, 1) := by decide +kernel
theorem dX2_countFrom_75 : decode cX2_countFrom 75 = .ok (.iadd, 1) := by decide +kernel
theorem dX2_countFrom_76 : decode cX2_countFrom 76 = .ok (.iload_n 2, 1) := by decide +kernel
theorem dX2_countFrom_77 : decode cX2_countFrom 77 = .ok (.iconst 1, 1) := by decide +kernel
theorem dX2_countFrom_78 : decode cX2_countFrom 78 = .ok (.iload 5, 2) := by decide +kernel
theorem dX2_countFrom_80 : decode cX2_countFrom 80 = .ok (.ishl, 1) := by decide +kernel
theorem dX2_countFrom_81 : decode cX2_countFrom 81 = .ok (.ior, 1) := by decide +kernel
theorem dX2_countFrom_82 : decode cX2_countFrom 82 = .ok (.iload 6, 2) := by decide +kernel
theorem dX2_countFrom_84 : decode cX2_countFrom 84 = .ok (.invokevirtual 23, 3) := by decide +kernel
theorem dX2_countFrom_87 : decode cX2_countFrom 87 = .ok (.iadd, 1) := by decide +kernel
theorem dX2_countFrom_88 : decode cX2_countFrom 88 = .ok (.istore 4, 2) := by decide +kernel
theorem dX2_countFrom_90 : decode cX2_countFrom 90 = .ok (.iinc 5 1, 3) := by decide +kernel
theorem dX2_countFrom_93 : decode cX2_countFrom 93 = .ok (.goto (-63), 3) := by decide +kernel
theorem dX2_countFrom_96 : decode cX2_countFrom 96 = .ok (.iload 4, 2) := by decide +kernel
theorem dX2_countFrom_98 : decode cX2_countFrom 98 = .ok (.ireturn, 1) := by decide +kernel
theorem dX2_newQuarrels_0 : decode cX2_newQuarrels 0 = .ok (.iconst 0, 1) := by decide +kernel
theorem dX2_newQuarrels_1 : decode cX2_newQuarrels 1 = .ok (.istore_n 2, 1) := by decide +kernel
theorem dX2_newQuarrels_2 : decode cX2_newQuarrels 2 = .ok (.iconst 1, 1) := by decide +kernel
theorem dX2_newQuarrels_3 : decode cX2_newQuarrels 3 = .ok (.istore_n 3, 1) := by decide +kernel
theorem dX2_newQuarrels_4 : decode cX2_newQuarrels 4 = .ok (.iload_n 3, 1) := by decide +kernel
theorem dX2_newQuarrels_5 : decode cX2_newQuarrels 5 = .ok (.iload_n 1, 1) := by decide +kernel
theorem dX2_newQuarrels_6 : decode cX2_newQuarrels 6 = .ok (.if_icmp .ge 68, 3) := by decide +kernel
theorem dX2_newQuarrels_9 : decode cX2_newQuarrels 9 = .ok (.aload_n 0, 1) := by decide +kernel
theorem dX2_newQuarrels_10 : decode cX2_newQuarrels 10 = .ok (.getfield 9, 3) := by decide +kernel
theorem dX2_newQuarrels_13 : decode cX2_newQuarrels 13 = .ok (.iload_n 1, 1) := by decide +kernel
theorem dX2_newQuarrels_14 : decode cX2_newQuarrels 14 = .ok (.iaload, 1) := by decide +kernel
theorem dX2_newQuarrels_15 : decode cX2_newQuarrels 15 = .ok (.aload_n 0, 1) := by decide +kernel
theorem dX2_newQuarrels_16 : decode cX2_newQuarrels 16 = .ok (.getfield 9, 3) := by decide +kernel
theorem dX2_newQuarrels_19 : decode cX2_newQuarrels 19 = .ok (.iload_n 1, 1) := by decide +kernel
theorem dX2_newQuarrels_20 : decode cX2_newQuarrels 20 = .ok (.iload_n 3, 1) := by decide +kernel
theorem dX2_newQuarrels_21 : decode cX2_newQuarrels 21 = .ok (.isub, 1) := by decide +kernel
theorem dX2_newQuarrels_22 : decode cX2_newQuarrels 22 = .ok (.iaload, 1) := by decide +kernel
theorem dX2_newQuarrels_23 : decode cX2_newQuarrels 23 = .ok (.isub, 1) := by decide +kernel
theorem dX2_newQuarrels_24 : decode cX2_newQuarrels 24 = .ok (.istore 4, 2) := by decide +kernel
theorem dX2_newQuarrels_26 : decode cX2_newQuarrels 26 = .ok (.iconst 0, 1) := by decide +kernel
theorem dX2_newQuarrels_27 : decode cX2_newQuarrels 27 = .ok (.istore 5, 2) := by decide +kernel
theorem dX2_newQuarrels_29 : decode cX2_newQuarrels 29 = .ok (.iload 5, 2) := by decide +kernel
theorem dX2_newQuarrels_31 : decode cX2_newQuarrels 31 = .ok (.iload_n 1, 1) := by decide +kernel
theorem dX2_newQuarrels_32 : decode cX2_newQuarrels 32 = .ok (.iload_n 3, 1) := by decide +kernel
theorem dX2_newQuarrels_33 : decode cX2_newQuarrels 33 = .ok (.isub, 1) := by decide +kernel
theorem dX2_newQuarrels_34 : decode cX2_newQuarrels 34 = .ok (.if_icmp .ge 34, 3) := by decide +kernel
theorem dX2_newQuarrels_37 : decode cX2_newQuarrels 37 = .ok (.aload_n 0, 1) := by decide +kernel
theorem dX2_newQuarrels_38 : decode cX2_newQuarrels 38 = .ok (.getfield 9, 3) := by decide +kernel
theorem dX2_newQuarrels_41 : decode cX2_newQuarrels 41 = .ok (.iload 5, 2) := by decide +kernel
theorem dX2_newQuarrels_43 : decode cX2_newQuarrels 43 = .ok (.iload_n 3, 1) := by decide +kernel
theorem dX2_newQuarrels_44 : decode cX2_newQuarrels 44 = .ok (.iadd, 1) := by decide +kernel
theorem dX2_newQuarrels_45 : decode cX2_newQuarrels 45 = .ok (.iaload, 1) := by decide +kernel
theorem dX2_newQuarrels_46 : decode cX2_newQuarrels 46 = .ok (.aload_n 0, 1) := by decide +kernel
theorem dX2_newQuarrels_47 : decode cX2_newQuarrels 47 = .ok (.getfield 9, 3) := by decide +kernel
theorem dX2_newQuarrels_50 : decode cX2_newQuarrels 50 = .ok (.iload 5, 2) := by decide +kernel
theorem dX2_newQuarrels_52 : decode cX2_newQuarrels 52 = .ok (.iaload, 1) := by decide +kernel
theorem dX2_newQuarrels_53 : decode cX2_newQuarrels 53 = .ok (.isub, 1) := by decide +kernel
theorem dX2_newQuarrels_54 : decode cX2_newQuarrels 54 = .ok (.iload 4, 2) := by decide +kernel
theorem dX2_newQuarrels_56 : decode cX2_newQuarrels 56 = .ok (.if_icmp .ne 6, 3) := by decide +kernel
theorem dX2_newQuarrels_59 : decode cX2_newQuarrels 59 = .ok (.iinc 2 1, 3) := by decide +kernel
theorem dX2_newQuarrels_62 : decode cX2_newQuarrels 62 = .ok (.iinc 5 1, 3) := by decide +kernel
theorem dX2_newQuarrels_65 : decode cX2_newQuarrels 65 = .ok (.goto (-36), 3) := by decide +kernel
theorem dX2_newQuarrels_68 : decode cX2_newQuarrels 68 = .ok (.iinc 3 1, 3) := by decide +kernel
theorem dX2_newQuarrels_71 : decode cX2_newQuarrels 71 = .ok (.goto (-67), 3) := by decide +kernel
theorem dX2_newQuarrels_74 : decode cX2_newQuarrels 74 = .ok (.iload_n 2, 1) := by decide +kernel
theorem dX2_newQuarrels_75 : decode cX2_newQuarrels 75 = .ok (.ireturn, 1) := by decide +kernel
theorem dX3_init_0 : decode cX3_init 0 = .ok (.aload_n 0, 1) := by decide +kernel
theorem dX3_init_1 : decode cX3_init 1 = .ok (.invokespecial 3, 3) := by decide +kernel
theorem dX3_init_4 : decode cX3_init 4 = .ok (.aload_n 0, 1) := by decide +kernel
theorem dX3_init_5 : decode cX3_init 5 = .ok (.iconst 1, 1) := by decide +kernel
theorem dX3_init_6 : decode cX3_init 6 = .ok (.putfield 9, 3) := by decide +kernel
theorem dX3_init_9 : decode cX3_init 9 = .ok (.aload_n 0, 1) := by decide +kernel
theorem dX3_init_10 : decode cX3_init 10 = .ok (.iconst 1, 1) := by decide +kernel
theorem dX3_init_11 : decode cX3_init 11 = .ok (.putfield 15, 3) := by decide +kernel
theorem dX3_init_14 : decode cX3_init 14 = .ok (.aload_n 0, 1) := by decide +kernel
theorem dX3_init_15 : decode cX3_init 15 = .ok (.bipush 12, 2) := by decide +kernel
theorem dX3_init_17 : decode cX3_init 17 = .ok (.newarray .int, 2) := by decide +kernel
theorem dX3_init_19 : decode cX3_init 19 = .ok (.putfield 18, 3) := by decide +kernel
theorem dX3_init_22 : decode cX3_init 22 = .ok (.return_, 1) := by decide +kernel
theorem dX3_columns_0 : decode cX3_columns 0 = .ok (.aload_n 0, 1) := by decide +kernel
theorem dX3_columns_1 : decode cX3_columns 1 = .ok (.getfield 9, 3) := by decide +kernel
theorem dX3_columns_4 : decode cX3_columns 4 = .ok (.ireturn, 1) := by decide +kernel
theorem dX3_lines_0 : decode cX3_lines 0 = .ok (.aload_n 0, 1) := by decide +kernel
theorem dX3_lines_1 : decode cX3_lines 1 = .ok (.getfield 15, 3) := by decide +kernel
theorem dX3_lines_4 : decode cX3_lines 4 = .ok (.ireturn, 1) := by decide +kernel
theorem dX3_shape_0 : decode cX3_shape 0 = .ok (.iload_n 1, 1) := by decide +kernel
theorem dX3_shape_1 : decode cX3_shape 1 = .ok (.iconst 1, 1) := by decide +kernel
theorem dX3_shape_2 : decode cX3_shape 2 = .ok (.bipush 12, 2) := by decide +kernel
theorem dX3_shape_4 : decode cX3_shape 4 = .ok (.invokestatic 22, 3) := by decide +kernel
theorem dX3_shape_7 : decode cX3_shape 7 = .ok (.ifCond .eq 13, 3) := by decide +kernel
theorem dX3_shape_10 : decode cX3_shape 10 = .ok (.iload_n 2, 1) := by decide +kernel
theorem dX3_shape_11 : decode cX3_shape 11 = .ok (.iconst 1, 1) := by decide +kernel
theorem dX3_shape_12 : decode cX3_shape 12 = .ok (.bipush 12, 2) := by decide +kernel
theorem dX3_shape_14 : decode cX3_shape 14 = .ok (.invokestatic 22, 3) := by decide +kernel
theorem dX3_shape_17 : decode cX3_shape 17 = .ok (.ifCond .ne 4, 3) := by decide +kernel
theorem dX3_shape_20 : decode cX3_shape 20 = .ok (.return_, 1) := by decide +kernel
theorem dX3_shape_21 : decode cX3_shape 21 = .ok (.aload_n 0, 1) := by decide +kernel
theorem dX3_shape_22 : decode cX3_shape 22 = .ok (.iload_n 1, 1) := by decide +kernel
theorem dX3_shape_23 : decode cX3_shape 23 = .ok (.putfield 9, 3) := by decide +kernel
theorem dX3_shape_26 : decode cX3_shape 26 = .ok (.aload_n 0, 1) := by decide +kernel
theorem dX3_shape_27 : decode cX3_shape 27 = .ok (.iload_n 2, 1) := by decide +kernel
theorem dX3_shape_28 : decode cX3_shape 28 = .ok (.putfield 15, 3) := by decide +kernel
theorem dX3_shape_31 : decode cX3_shape 31 = .ok (.aload_n 0, 1) := by decide +kernel
theorem dX3_shape_32 : decode cX3_shape 32 = .ok (.getfield 18, 3) := by decide +kernel
theorem dX3_shape_35 : decode cX3_shape 35 = .ok (.bipush 15, 2) := by decide +kernel
theorem dX3_shape_37 : decode cX3_shape 37 = .ok (.invokestatic 26, 3) := by decide +kernel
theorem dX3_shape_40 : decode cX3_shape 40 = .ok (.return_, 1) := by decide +kernel
theorem dX3_put_0 : decode cX3_put 0 = .ok (.iload_n 1, 1) := by decide +kernel
theorem dX3_put_1 : decode cX3_put 1 = .ok (.iconst 0, 1) := by decide +kernel
theorem dX3_put_2 : decode cX3_put 2 = .ok (.aload_n 0, 1) := by decide +kernel
theorem dX3_put_3 : decode cX3_put 3 = .ok (.getfield 9, 3) := by decide +kernel
theorem dX3_put_6 : decode cX3_put 6 = .ok (.iconst 1, 1) := by decide +kernel
theorem dX3_put_7 : decode cX3_put 7 = .ok (.isub, 1) := by decide +kernel
theorem dX3_put_8 : decode cX3_put 8 = .ok (.invokestatic 22, 3) := by decide +kernel
theorem dX3_put_11 : decode cX3_put 11 = .ok (.ifCond .eq 29, 3) := by decide +kernel
theorem dX3_put_14 : decode cX3_put 14 = .ok (.aload_n 0, 1) := by decide +kernel
theorem dX3_put_15 : decode cX3_put 15 = .ok (.getfield 18, 3) := by decide +kernel
theorem dX3_put_18 : decode cX3_put 18 = .ok (.iload_n 1, 1) := by decide +kernel
theorem dX3_put_19 : decode cX3_put 19 = .ok (.iload_n 2, 1) := by decide +kernel
theorem dX3_put_20 : decode cX3_put 20 = .ok (.iconst 0, 1) := by decide +kernel
theorem dX3_put_21 : decode cX3_put 21 = .ok (.aload_n 0, 1) := by decide +kernel
theorem dX3_put_22 : decode cX3_put 22 = .ok (.getfield 15, 3) := by decide +kernel
theorem dX3_put_25 : decode cX3_put 25 = .ok (.iconst 1, 1) := by decide +kernel
theorem dX3_put_26 : decode cX3_put 26 = .ok (.isub, 1) := by decide +kernel
theorem dX3_put_27 : decode cX3_put 27 = .ok (.invokestatic 22, 3) := by decide +kernel
theorem dX3_put_30 : decode cX3_put 30 = .ok (.ifCond .eq 7, 3) := by decide +kernel
theorem dX3_put_33 : decode cX3_put 33 = .ok (.iload_n 2, 1) := by decide +kernel
theorem dX3_put_34 : decode cX3_put 34 = .ok (.goto 5, 3) := by decide +kernel
theorem dX3_put_37 : decode cX3_put 37 = .ok (.bipush 15, 2) := by decide +kernel
theorem dX3_put_39 : decode cX3_put 39 = .ok (.iastore, 1) := by decide +kernel
theorem dX3_put_40 : decode cX3_put 40 = .ok (.return_, 1) := by decide +kernel
theorem dX3_lineAt_0 : decode cX3_lineAt 0 = .ok (.iload_n 1, 1) := by decide +kernel
theorem dX3_lineAt_1 : decode cX3_lineAt 1 = .ok (.iconst 0, 1) := by decide +kernel
theorem dX3_lineAt_2 : decode cX3_lineAt 2 = .ok (.aload_n 0, 1) := by decide +kernel
theorem dX3_lineAt_3 : decode cX3_lineAt 3 = .ok (.getfield 9, 3) := by decide +kernel
theorem dX3_lineAt_6 : decode cX3_lineAt 6 = .ok (.iconst 1, 1) := by decide +kernel
theorem dX3_lineAt_7 : decode cX3_lineAt 7 = .ok (.isub, 1) := by decide +kernel
theorem dX3_lineAt_8 : decode cX3_lineAt 8 = .ok (.invokestatic 22, 3) := by decide +kernel
theorem dX3_lineAt_11 : decode cX3_lineAt 11 = .ok (.ifCond .eq 12, 3) := by decide +kernel
theorem dX3_lineAt_14 : decode cX3_lineAt 14 = .ok (.aload_n 0, 1) := by decide +kernel
theorem dX3_lineAt_15 : decode cX3_lineAt 15 = .ok (.getfield 18, 3) := by decide +kernel
theorem dX3_lineAt_18 : decode cX3_lineAt 18 = .ok (.iload_n 1, 1) := by decide +kernel
theorem dX3_lineAt_19 : decode cX3_lineAt 19 = .ok (.iaload, 1) := by decide +kernel
theorem dX3_lineAt_20 : decode cX3_lineAt 20 = .ok (.goto 5, 3) := by decide +kernel
theorem dX3_lineAt_23 : decode cX3_lineAt 23 = .ok (.bipush 15, 2) := by decide +kernel
theorem dX3_lineAt_25 : decode cX3_lineAt 25 = .ok (.ireturn, 1) := by decide +kernel
theorem dX3_markedAt_0 : decode cX3_markedAt 0 = .ok (.aload_n 0, 1) := by decide +kernel
theorem dX3_markedAt_1 : decode cX3_markedAt 1 = .ok (.iload_n 1, 1) := by decide +kernel
theorem dX3_markedAt_2 : decode cX3_markedAt 2 = .ok (.invokevirtual 32, 3) := by decide +kernel
theorem dX3_markedAt_5 : decode cX3_markedAt 5 = .ok (.bipush 15, 2) := by decide +kernel
theorem dX3_markedAt_7 : decode cX3_markedAt 7 = .ok (.if_icmp .eq 7, 3) := by decide +kernel
theorem dX3_markedAt_10 : decode cX3_markedAt 10 = .ok (.iconst 1, 1) := by decide +kernel
theorem dX3_markedAt_11 : decode cX3_markedAt 11 = .ok (.goto 4, 3) := by decide +kernel
theorem dX3_markedAt_14 : decode cX3_markedAt 14 = .ok (.iconst 0, 1) := by decide +kernel
theorem dX3_markedAt_15 : decode cX3_markedAt 15 = .ok (.ireturn, 1) := by decide +kernel
theorem dX3_hasMark_0 : decode cX3_hasMark 0 = .ok (.iload_n 2, 1) := by decide +kernel
theorem dX3_hasMark_1 : decode cX3_hasMark 1 = .ok (.bipush 15, 2) := by decide +kernel
theorem dX3_hasMark_3 : decode cX3_hasMark 3 = .ok (.if_icmp .eq 16, 3) := by decide +kernel
theorem dX3_hasMark_6 : decode cX3_hasMark 6 = .ok (.aload_n 0, 1) := by decide +kernel
theorem dX3_hasMark_7 : decode cX3_hasMark 7 = .ok (.iload_n 1, 1) := by decide +kernel
theorem dX3_hasMark_8 : decode cX3_hasMark 8 = .ok (.invokevirtual 32, 3) := by decide +kernel
theorem dX3_hasMark_11 : decode cX3_hasMark 11 = .ok (.iload_n 2, 1) := by decide +kernel
theorem dX3_hasMark_12 : decode cX3_hasMark 12 = .ok (.if_icmp .ne 7, 3) := by decide +kernel
theorem dX3_hasMark_15 : decode cX3_hasMark 15 = .ok (.iconst 1, 1) := by decide +kernel
theorem dX3_hasMark_16 : decode cX3_hasMark 16 = .ok (.goto 4, 3) := by decide +kernel
theorem dX3_hasMark_19 : decode cX3_hasMark 19 = .ok (.iconst 0, 1) := by decide +kernel
theorem dX3_hasMark_20 : decode cX3_hasMark 20 = .ok (.ireturn, 1) := by decide +kernel
theorem dX3_step_0 : decode cX3_step 0 = .ok (.aload_n 0, 1) := by decide +kernel
theorem dX3_step_1 : decode cX3_step 1 = .ok (.iload_n 2, 1) := by decide +kernel
theorem dX3_step_2 : decode cX3_step 2 = .ok (.invokevirtual 32, 3) := by decide +kernel
theorem dX3_step_5 : decode cX3_step 5 = .ok (.aload_n 0, 1) := by decide +kernel
theorem dX3_step_6 : decode cX3_step 6 = .ok (.iload_n 1, 1) := by decide +kernel
theorem dX3_step_7 : decode cX3_step 7 = .ok (.invokevirtual 32, 3) := by decide +kernel
theorem dX3_step_10 : decode cX3_step 10 = .ok (.isub, 1) := by decide +kernel
theorem dX3_step_11 : decode cX3_step 11 = .ok (.istore 4, 2) := by decide +kernel
theorem dX3_step_13 : decode cX3_step 13 = .ok (.iload_n 3, 1) := by decide +kernel
theorem dX3_step_14 : decode cX3_step 14 = .ok (.ifCond .ne 8, 3) := by decide +kernel
theorem dX3_step_17 : decode cX3_step 17 = .ok (.iload 4, 2) := by decide +kernel
theorem dX3_step_19 : decode cX3_step 19 = .ok (.goto 12, 3) := by decide +kernel
theorem dX3_step_22 : decode cX3_step 22 = .ok (.iload 4, 2) := by decide +kernel
theorem dX3_step_24 : decode cX3_step 24 = .ok (.aload_n 0, 1) := by decide +kernel
theorem dX3_step_25 : decode cX3_step 25 = .ok (.getfield 15, 3) := by decide +kernel
theorem dX3_step_28 : decode cX3_step 28 = .ok (.invokestatic 36, 3) := by decide +kernel
theorem dX3_step_31 : decode cX3_step 31 = .ok (.ireturn, 1) := by decide +kernel
theorem dX3_markCount_0 : decode cX3_markCount 0 = .ok (.iconst 0, 1) := by decide +kernel
theorem dX3_markCount_1 : decode cX3_markCount 1 = .ok (.istore_n 1, 1) := by decide +kernel
theorem dX3_markCount_2 : decode cX3_markCount 2 = .ok (.iconst 0, 1) := by decide +kernel
theorem dX3_markCount_3 : decode cX3_markCount 3 = .ok (.istore_n 2, 1) := by decide +kernel
theorem dX3_markCount_4 : decode cX3_markCount 4 = .ok (.iload_n 2, 1) := by decide +kernel
theorem dX3_markCount_5 : decode cX3_markCount 5 = .ok (.aload_n 0, 1) := by decide +kernel
theorem dX3_markCount_6 : decode cX3_markCount 6 = .ok (.getfield 9, 3) := by decide +kernel
theorem dX3_markCount_9 : decode cX3_markCount 9 = .ok (.if_icmp .ge 20, 3) := by decide +kernel
theorem dX3_markCount_12 : decode cX3_markCount 12 = .ok (.aload_n 0, 1) := by decide +kernel
theorem dX3_markCount_13 : decode cX3_markCount 13 = .ok (.iload_n 2, 1) := by decide +kernel
theorem dX3_markCount_14 : decode cX3_markCount 14 = .ok (.invokevirtual 40, 3) := by decide +kernel
theorem dX3_markCount_17 : decode cX3_markCount 17 = .ok (.ifCond .eq 6, 3) := by decide +kernel
theorem dX3_markCount_20 : decode cX3_markCount 20 = .ok (.iinc 1 1, 3) := by decide +kernel
theorem dX3_markCount_23 : decode cX3_markCount 23 = .ok (.iinc 2 1, 3) := by decide +kernel
theorem dX3_markCount_26 : decode cX3_markCount 26 = .ok (.goto (-22), 3) := by decide +kernel
theorem dX3_markCount_29 : decode cX3_markCount 29 = .ok (.iload_n 1, 1) := by decide +kernel
theorem dX3_markCount_30 : decode cX3_markCount 30 = .ok (.ireturn, 1) := by decide +kernel
theorem dX3_packed_0 : decode cX3_packed 0 = .ok (.lconst 0, 1) := by decide +kernel
theorem dX3_packed_1 : decode cX3_packed 1 = .ok (.lstore_n 1, 1) := by decide +kernel
theorem dX3_packed_2 : decode cX3_packed 2 = .ok (.iconst 0, 1) := by decide +kernel
theorem dX3_packed_3 : decode cX3_packed 3 = .ok (.istore_n 3, 1) := by decide +kernel
theorem dX3_packed_4 : decode cX3_packed 4 = .ok (.iload_n 3, 1) := by decide +kernel
theorem dX3_packed_5 : decode cX3_packed 5 = .ok (.aload_n 0, 1) := by decide +kernel
theorem dX3_packed_6 : decode cX3_packed 6 = .ok (.getfield 9, 3) := by decide +kernel
theorem dX3_packed_9 : decode cX3_packed 9 = .ok (.if_icmp .ge 20, 3) := by decide +kernel
theorem dX3_packed_12 : decode cX3_packed 12 = .ok (.lload_n 1, 1) := by decide +kernel
theorem dX3_packed_13 : decode cX3_packed 13 = .ok (.iconst 4, 1) := by decide +kernel
theorem dX3_packed_14 : decode cX3_packed 14 = .ok (.lshl, 1) := by decide +kernel
theorem dX3_packed_15 : decode cX3_packed 15 = .ok (.aload_n 0, 1) := by decide +kernel
theorem dX3_packed_16 : decode cX3_packed 16 = .ok (.iload_n 3, 1) := by decide +kernel
theorem dX3_packed_17 : decode cX3_packed 17 = .ok (.invokevirtual 32, 3) := by decide +kernel
theorem dX3_packed_20 : decode cX3_packed 20 = .ok (.i2l, 1) := by decide +kernel
theorem dX3_packed_21 : decode cX3_packed 21 = .ok (.lor, 1) := by decide +kernel
theorem dX3_packed_22 : decode cX3_packed 22 = .ok (.lstore_n 1, 1) := by decide +kernel
theorem dX3_packed_23 : decode cX3_packed 23 = .ok (.iinc 3 1, 3) := by decide +kernel
theorem dX3_packed_26 : decode cX3_packed 26 = .ok (.goto (-22), 3) := by decide +kernel
theorem dX3_packed_29 : decode cX3_packed 29 = .ok (.lload_n 1, 1) := by decide +kernel
theorem dX3_packed_30 : decode cX3_packed 30 = .ok (.lreturn, 1) := by decide +kernel
theorem dX3_isSquare_0 : decode cX3_isSquare 0 = .ok (.iconst 0, 1) := by decide +kernel
theorem dX3_isSquare_1 : decode cX3_isSquare 1 = .ok (.istore_n 1, 1) := by decide +kernel
theorem dX3_isSquare_2 : decode cX3_isSquare 2 = .ok (.iconst 0, 1) := by decide +kernel
theorem dX3_isSquare_3 : decode cX3_isSquare 3 = .ok (.istore_n 2, 1) := by decide +kernel
theorem dX3_isSquare_4 : decode cX3_isSquare 4 = .ok (.iload_n 2, 1) := by decide +kernel
theorem dX3_isSquare_5 : decode cX3_isSquare 5 = .ok (.aload_n 0, 1) := by decide +kernel
theorem dX3_isSquare_6 : decode cX3_isSquare 6 = .ok (.getfield 9, 3) := by decide +kernel
theorem dX3_isSquare_9 : decode cX3_isSquare 9 = .ok (.if_icmp .ge 19, 3) := by decide +kernel
theorem dX3_isSquare_12 : decode cX3_isSquare 12 = .ok (.iload_n 1, 1) := by decide +kernel
theorem dX3_isSquare_13 : decode cX3_isSquare 13 = .ok (.iconst 1, 1) := by decide +kernel
theorem dX3_isSquare_14 : decode cX3_isSquare 14 = .ok (.aload_n 0, 1) := by decide +kernel
theorem dX3_isSquare_15 : decode cX3_isSquare 15 = .ok (.iload_n 2, 1) := by decide +kernel
theorem dX3_isSquare_16 : decode cX3_isSquare 16 = .ok (.invokevirtual 32, 3) := by decide +kernel
theorem dX3_isSquare_19 : decode cX3_isSquare 19 = .ok (.ishl, 1) := by decide +kernel
theorem dX3_isSquare_20 : decode cX3_isSquare 20 = .ok (.ior, 1) := by decide +kernel
theorem dX3_isSquare_21 : decode cX3_isSquare 21 = .ok (.istore_n 1, 1) := by decide +kernel
theorem dX3_isSquare_22 : decode cX3_isSquare 22 = .ok (.iinc 2 1, 3) := by decide +kernel
theorem dX3_isSquare_25 : decode cX3_isSquare 25 = .ok (.goto (-21), 3) := by decide +kernel
theorem dX3_isSquare_28 : decode cX3_isSquare 28 = .ok (.aload_n 0, 1) := by decide +kernel
theorem dX3_isSquare_29 : decode cX3_isSquare 29 = .ok (.getfield 9, 3) := by decide +kernel
theorem dX3_isSquare_32 : decode cX3_isSquare 32 = .ok (.aload_n 0, 1) := by decide +kernel
theorem dX3_isSquare_33 : decode cX3_isSquare 33 = .ok (.getfield 15, 3) := by decide +kernel
theorem dX3_isSquare_36 : decode cX3_isSquare 36 = .ok (.if_icmp .ne 19, 3) := by decide +kernel
theorem dX3_isSquare_39 : decode cX3_isSquare 39 = .ok (.iload_n 1, 1) := by decide +kernel
theorem dX3_isSquare_40 : decode cX3_isSquare 40 = .ok (.iconst 1, 1) := by decide +kernel
theorem dX3_isSquare_41 : decode cX3_isSquare 41 = .ok (.aload_n 0, 1) := by decide +kernel
theorem dX3_isSquare_42 : decode cX3_isSquare 42 = .ok (.getfield 9, 3) := by decide +kernel
theorem dX3_isSquare_45 : decode cX3_isSquare 45 = .ok (.ishl, 1) := by decide +kernel
theorem dX3_isSquare_46 : decode cX3_isSquare 46 = .ok (.iconst 1, 1) := by decide +kernel
theorem dX3_isSquare_47 : decode cX3_isSquare 47 = .ok (.isub, 1) := by decide +kernel
theorem dX3_isSquare_48 : decode cX3_isSquare 48 = .ok (.if_icmp .ne 7, 3) := by decide +kernel
theorem dX3_isSquare_51 : decode cX3_isSquare 51 = .ok (.iconst 1, 1) := by decide +kernel
theorem dX3_isSquare_52 : decode cX3_isSquare 52 = .ok (.goto 4, 3) := by decide +kernel
theorem dX3_isSquare_55 : decode cX3_isSquare 55 = .ok (.iconst 0, 1) := by decide +kernel
theorem dX3_isSquare_56 : decode cX3_isSquare 56 = .ok (.ireturn, 1) := by decide +kernel
theorem dX3_copyFrom_0 : decode cX3_copyFrom 0 = .ok (.aload_n 0, 1) := by decide +kernel
theorem dX3_copyFrom_1 : decode cX3_copyFrom 1 = .ok (.aload_n 1, 1) := by decide +kernel
theorem dX3_copyFrom_2 : decode cX3_copyFrom 2 = .ok (.getfield 9, 3) := by decide +kernel
theorem dX3_copyFrom_5 : decode cX3_copyFrom 5 = .ok (.aload_n 1, 1) := by decide +kernel
theorem dX3_copyFrom_6 : decode cX3_copyFrom 6 = .ok (.getfield 15, 3) := by decide +kernel
theorem dX3_copyFrom_9 : decode cX3_copyFrom 9 = .ok (.invokevirtual 44, 3) := by decide +kernel
theorem dX3_copyFrom_12 : decode cX3_copyFrom 12 = .ok (.iconst 0, 1) := by decide +kernel
theorem dX3_copyFrom_13 : decode cX3_copyFrom 13 = .ok (.istore_n 2, 1) := by decide +kernel
theorem dX3_copyFrom_14 : decode cX3_copyFrom 14 = .ok (.iload_n 2, 1) := by decide +kernel
theorem dX3_copyFrom_15 : decode cX3_copyFrom 15 = .ok (.aload_n 0, 1) := by decide +kernel
theorem dX3_copyFrom_16 : decode cX3_copyFrom 16 = .ok (.getfield 9, 3) := by decide +kernel
theorem dX3_copyFrom_19 : decode cX3_copyFrom 19 = .ok (.if_icmp .ge 19, 3) := by decide +kernel
theorem dX3_copyFrom_22 : decode cX3_copyFrom 22 = .ok (.aload_n 0, 1) := by decide +kernel
theorem dX3_copyFrom_23 : decode cX3_copyFrom 23 = .ok (.iload_n 2, 1) := by decide +kernel
theorem dX3_copyFrom_24 : decode cX3_copyFrom 24 = .ok (.aload_n 1, 1) := by decide +kernel
theorem dX3_copyFrom_25 : decode cX3_copyFrom 25 = .ok (.iload_n 2, 1) := by decide +kernel
theorem dX3_copyFrom_26 : decode cX3_copyFrom 26 = .ok (.invokevirtual 32, 3) := by decide +kernel
theorem dX3_copyFrom_29 : decode cX3_copyFrom 29 = .ok (.invokevirtual 48, 3) := by decide +kernel
theorem dX3_copyFrom_32 : decode cX3_copyFrom 32 = .ok (.iinc 2 1, 3) := by decide +kernel
theorem dX3_copyFrom_35 : decode cX3_copyFrom 35 = .ok (.goto (-21), 3) := by decide +kernel
theorem dX3_copyFrom_38 : decode cX3_copyFrom 38 = .ok (.return_, 1) := by decide +kernel
theorem dX4_init_0 : decode cX4_init 0 = .ok (.aload_n 0, 1) := by decide +kernel
theorem dX4_init_1 : decode cX4_init 1 = .ok (.invokespecial 3, 3) := by decide +kernel
theorem dX4_init_4 : decode cX4_init 4 = .ok (.aload_n 0, 1) := by decide +kernel
theorem dX4_init_5 : decode cX4_init 5 = .ok (.bipush 12, 2) := by decide +kernel
theorem dX4_init_7 : decode cX4_init 7 = .ok (.newarray .int, 2) := by decide +kernel
theorem dX4_init_9 : decode cX4_init 9 = .ok (.putfield 9, 3) := by decide +kernel
theorem dX4_init_12 : decode cX4_init 12 = .ok (.aload_n 0, 1) := by decide +kernel
theorem dX4_init_13 : decode cX4_init 13 = .ok (.bipush 12, 2) := by decide +kernel
theorem dX4_init_15 : decode cX4_init 15 = .ok (.newarray .int, 2) := by decide +kernel
theorem dX4_init_17 : decode cX4_init 17 = .ok (.putfield 15, 3) := by decide +kernel
theorem dX4_init_20 : decode cX4_init 20 = .ok (.aload_n 0, 1) := by decide +kernel
theorem dX4_init_21 : decode cX4_init 21 = .ok (.bipush 12, 2) := by decide +kernel
theorem dX4_init_23 : decode cX4_init 23 = .ok (.newarray .int, 2) := by decide +kernel
theorem dX4_init_25 : decode cX4_init 25 = .ok (.putfield 18, 3) := by decide +kernel
theorem dX4_init_28 : decode cX4_init 28 = .ok (.aload_n 0, 1) := by decide +kernel
theorem dX4_init_29 : decode cX4_init 29 = .ok (.iconst 1, 1) := by decide +kernel
theorem dX4_init_30 : decode cX4_init 30 = .ok (.putfield 21, 3) := by decide +kernel
theorem dX4_init_33 : decode cX4_init 33 = .ok (.aload_n 0, 1) := by decide +kernel
theorem dX4_init_34 : decode cX4_init 34 = .ok (.iconst 1, 1) := by decide +kernel
theorem dX4_init_35 : decode cX4_init 35 = .ok (.putfield 25, 3) := by decide +kernel
theorem dX4_init_38 : decode cX4_init 38 = .ok (.return_, 1) := by decide +kernel
theorem dX4_amongRows_0 : decode cX4_amongRows 0 = .ok (.iload_n 1, 1) := by decide +kernel
theorem dX4_amongRows_1 : decode cX4_amongRows 1 = .ok (.iconst 1, 1) := by decide +kernel
theorem dX4_amongRows_2 : decode cX4_amongRows 2 = .ok (.bipush 12, 2) := by decide +kernel
theorem dX4_amongRows_4 : decode cX4_amongRows 4 = .ok (.invokestatic 28, 3) := by decide +kernel
theorem dX4_amongRows_7 : decode cX4_amongRows 7 = .ok (.ifCond .eq 13, 3) := by decide +kernel
theorem dX4_amongRows_10 : decode cX4_amongRows 10 = .ok (.iload_n 2, 1) := by decide +kernel
theorem dX4_amongRows_11 : decode cX4_amongRows 11 = .ok (.iconst 1, 1) := by decide +kernel
theorem dX4_amongRows_12 : decode cX4_amongRows 12 = .ok (.bipush 12, 2) := by decide +kernel
theorem dX4_amongRows_14 : decode cX4_amongRows 14 = .ok (.invokestatic 28, 3) := by decide +kernel
theorem dX4_amongRows_17 : decode cX4_amongRows 17 = .ok (.ifCond .ne 4, 3) := by decide +kernel
theorem dX4_amongRows_20 : decode cX4_amongRows 20 = .ok (.return_, 1) := by decide +kernel
theorem dX4_amongRows_21 : decode cX4_amongRows 21 = .ok (.aload_n 0, 1) := by decide +kernel
theorem dX4_amongRows_22 : decode cX4_amongRows 22 = .ok (.iload_n 1, 1) := by decide +kernel
theorem dX4_amongRows_23 : decode cX4_amongRows 23 = .ok (.putfield 21, 3) := by decide +kernel
theorem dX4_amongRows_26 : decode cX4_amongRows 26 = .ok (.aload_n 0, 1) := by decide +kernel
theorem dX4_amongRows_27 : decode cX4_amongRows 27 = .ok (.iload_n 2, 1) := by decide +kernel
theorem dX4_amongRows_28 : decode cX4_amongRows 28 = .ok (.putfield 25, 3) := by decide +kernel
theorem dX4_amongRows_31 : decode cX4_amongRows 31 = .ok (.aload_n 0, 1) := by decide +kernel
theorem dX4_amongRows_32 : decode cX4_amongRows 32 = .ok (.iload_n 3, 1) := by decide +kernel
theorem dX4_amongRows_33 : decode cX4_amongRows 33 = .ok (.putfield 32, 3) := by decide +kernel
theorem dX4_amongRows_36 : decode cX4_amongRows 36 = .ok (.aload_n 0, 1) := by decide +kernel
theorem dX4_amongRows_37 : decode cX4_amongRows 37 = .ok (.iconst 0, 1) := by decide +kernel
theorem dX4_amongRows_38 : decode cX4_amongRows 38 = .ok (.putfield 35, 3) := by decide +kernel
theorem dX4_amongRows_41 : decode cX4_amongRows 41 = .ok (.aload_n 0, 1) := by decide +kernel
theorem dX4_amongRows_42 : decode cX4_amongRows 42 = .ok (.getfield 18, 3) := by decide +kernel
theorem dX4_amongRows_45 : decode cX4_amongRows 45 = .ok (.iconst 1, 1) := by decide +kernel
theorem dX4_amongRows_46 : decode cX4_amongRows 46 = .ok (.iload_n 2, 1) := by decide +kernel
theorem dX4_amongRows_47 : decode cX4_amongRows 47 = .ok (.ishl, 1) := by decide +kernel
theorem dX4_amongRows_48 : decode cX4_amongRows 48 = .ok (.iconst 1, 1) := by decide +kernel
theorem dX4_amongRows_49 : decode cX4_amongRows 49 = .ok (.isub, 1) := by decide +kernel
theorem dX4_amongRows_50 : decode cX4_amongRows 50 = .ok (.invokestatic 39, 3) := by decide +kernel
theorem dX4_amongRows_53 : decode cX4_amongRows 53 = .ok (.return_, 1) := by decide +kernel
theorem dX4_amongSquares_0 : decode cX4_amongSquares 0 = .ok (.aload_n 0, 1) := by decide +kernel
theorem dX4_amongSquares_1 : decode cX4_amongSquares 1 = .ok (.iload_n 1, 1) := by decide +kernel
theorem dX4_amongSquares_2 : decode cX4_amongSquares 2 = .ok (.iload_n 1, 1) := by decide +kernel
theorem dX4_amongSquares_3 : decode cX4_amongSquares 3 = .ok (.iconst 0, 1) := by decide +kernel
theorem dX4_amongSquares_4 : decode cX4_amongSquares 4 = .ok (.invokevirtual 45, 3) := by decide +kernel
theorem dX4_amongSquares_7 : decode cX4_amongSquares 7 = .ok (.aload_n 0, 1) := by decide +kernel
theorem dX4_amongSquares_8 : decode cX4_amongSquares 8 = .ok (.iconst 1, 1) := by decide +kernel
theorem dX4_amongSquares_9 : decode cX4_amongSquares 9 = .ok (.putfield 35, 3) := by decide +kernel
theorem dX4_amongSquares_12 : decode cX4_amongSquares 12 = .ok (.return_, 1) := by decide +kernel
theorem dX4_keepMarksOf_0 : decode cX4_keepMarksOf 0 = .ok (.iconst 0, 1) := by decide +kernel
theorem dX4_keepMarksOf_1 : decode cX4_keepMarksOf 1 = .ok (.istore_n 2, 1) := by decide +kernel
theorem dX4_keepMarksOf_2 : decode cX4_keepMarksOf 2 = .ok (.iload_n 2, 1) := by decide +kernel
theorem dX4_keepMarksOf_3 : decode cX4_keepMarksOf 3 = .ok (.aload_n 0, 1) := by decide +kernel
theorem dX4_keepMarksOf_4 : decode cX4_keepMarksOf 4 = .ok (.getfield 21, 3) := by decide +kernel
theorem dX4_keepMarksOf_7 : decode cX4_keepMarksOf 7 = .ok (.if_icmp .ge 36, 3) := by decide +kernel
theorem dX4_keepMarksOf_10 : decode cX4_keepMarksOf 10 = .ok (.iload_n 2, 1) := by decide +kernel
theorem dX4_keepMarksOf_11 : decode cX4_keepMarksOf 11 = .ok (.bipush 12, 2) := by decide +kernel
theorem dX4_keepMarksOf_13 : decode cX4_keepMarksOf 13 = .ok (.if_icmp .ge 30, 3) := by decide +kernel
theorem dX4_keepMarksOf_16 : decode cX4_keepMarksOf 16 = .ok (.aload_n 1, 1) := by decide +kernel
theorem dX4_keepMarksOf_17 : decode cX4_keepMarksOf 17 = .ok (.iload_n 2, 1) := by decide +kernel
theorem dX4_keepMarksOf_18 : decode cX4_keepMarksOf 18 = .ok (.invokevirtual 49, 3) := by decide +kernel
theorem dX4_keepMarksOf_21 : decode cX4_keepMarksOf 21 = .ok (.ifCond .eq 16, 3) := by decide +kernel
theorem dX4_keepMarksOf_24 : decode cX4_keepMarksOf 24 = .ok (.aload_n 0, 1) := by decide +kernel
theorem dX4_keepMarksOf_25 : decode cX4_keepMarksOf 25 = .ok (.getfield 18, 3) := by decide +kernel
theorem dX4_keepMarksOf_28 : decode cX4_keepMarksOf 28 = .ok (.iload_n 2, 1) := by decide +kernel
theorem dX4_keepMarksOf_29 : decode cX4_keepMarksOf 29 = .ok (.iconst 1, 1) := by decide +kernel
theorem dX4_keepMarksOf_30 : decode cX4_keepMarksOf 30 = .ok (.aload_n 1, 1) := by decide +kernel
theorem dX4_keepMarksOf_31 : decode cX4_keepMarksOf 31 = .ok (.iload_n 2, 1) := by decide +kernel
theorem dX4_keepMarksOf_32 : decode cX4_keepMarksOf 32 = .ok (.invokevirtual 55, 3) := by decide +kernel
theorem dX4_keepMarksOf_35 : decode cX4_keepMarksOf 35 = .ok (.ishl, 1) := by decide +kernel
theorem dX4_keepMarksOf_36 : decode cX4_keepMarksOf 36 = .ok (.iastore, 1) := by decide +kernel
theorem dX4_keepMarksOf_37 : decode cX4_keepMarksOf 37 = .ok (.iinc 2 1, 3) := by decide +kernel
theorem dX4_keepMarksOf_40 : decode cX4_keepMarksOf 40 = .ok (.goto (-38), 3) := by decide +kernel
theorem dX4_keepMarksOf_43 : decode cX4_keepMarksOf 43 = .ok (.return_, 1) := by decide +kernel
theorem dX4_countAll_0 : decode cX4_countAll 0 = .ok (.aload_n 0, 1) := by decide +kernel
theorem dX4_countAll_1 : decode cX4_countAll 1 = .ok (.iconst (-1), 1) := by decide +kernel
theorem dX4_countAll_2 : decode cX4_countAll 2 = .ok (.invokevirtual 59, 3) := by decide +kernel
theorem dX4_countAll_5 : decode cX4_countAll 5 = .ok (.aload_n 0, 1) := by decide +kernel
theorem dX4_countAll_6 : decode cX4_countAll 6 = .ok (.iconst 0, 1) := by decide +kernel
theorem dX4_countAll_7 : decode cX4_countAll 7 = .ok (.iconst 0, 1) := by decide +kernel
theorem dX4_countAll_8 : decode cX4_countAll 8 = .ok (.invokevirtual 63, 3) := by decide +kernel
theorem dX4_countAll_11 : decode cX4_countAll 11 = .ok (.pop, 1) := by decide +kernel
theorem dX4_countAll_12 : decode cX4_countAll 12 = .ok (.aload_n 0, 1) := by decide +kernel
theorem dX4_countAll_13 : decode cX4_countAll 13 = .ok (.getfield 67, 3) := by decide +kernel
theorem dX4_countAll_16 : decode cX4_countAll 16 = .ok (.ireturn, 1) := by decide +kernel
theorem dX4_reach_0 : decode cX4_reach 0 = .ok (.aload_n 0, 1) := by decide +kernel
theorem dX4_reach_1 : decode cX4_reach 1 = .ok (.iload_n 1, 1) := by decide +kernel
theorem dX4_reach_2 : decode cX4_reach 2 = .ok (.invokevirtual 59, 3) := by decide +kernel
theorem dX4_reach_5 : decode cX4_reach 5 = .ok (.aload_n 0, 1) := by decide +kernel
theorem dX4_reach_6 : decode cX4_reach 6 = .ok (.iconst 0, 1) := by decide +kernel
theorem dX4_reach_7 : decode cX4_reach 7 = .ok (.iconst 0, 1) := by decide +kernel
theorem dX4_reach_8 : decode cX4_reach 8 = .ok (.invokevirtual 63, 3) := by decide +kernel
theorem dX4_reach_11 : decode cX4_reach 11 = .ok (.ireturn, 1) := by decide +kernel
theorem dX4_giveTo_0 : decode cX4_giveTo 0 = .ok (.aload_n 1, 1) := by decide +kernel
theorem dX4_giveTo_1 : decode cX4_giveTo 1 = .ok (.aload_n 0, 1) := by decide +kernel
theorem dX4_giveTo_2 : decode cX4_giveTo 2 = .ok (.getfield 21, 3) := by decide +kernel
theorem dX4_giveTo_5 : decode cX4_giveTo 5 = .ok (.aload_n 0, 1) := by decide +kernel
theorem dX4_giveTo_6 : decode cX4_giveTo 6 = .ok (.getfield 25, 3) := by decide +kernel
theorem dX4_giveTo_9 : decode cX4_giveTo 9 = .ok (.invokevirtual 70, 3) := by decide +kernel
theorem dX4_giveTo_12 : decode cX4_giveTo 12 = .ok (.iconst 0, 1) := by decide +kernel
theorem dX4_giveTo_13 : decode cX4_giveTo 13 = .ok (.istore_n 2, 1) := by decide +kernel
theorem dX4_giveTo_14 : decode cX4_giveTo 14 = .ok (.iload_n 2, 1) := by decide +kernel
theorem dX4_giveTo_15 : decode cX4_giveTo 15 = .ok (.aload_n 0, 1) := by decide +kernel
theorem dX4_giveTo_16 : decode cX4_giveTo 16 = .ok (.getfield 21, 3) := by decide +kernel
theorem dX4_giveTo_19 : decode cX4_giveTo 19 = .ok (.if_icmp .ge 26, 3) := by decide +kernel
theorem dX4_giveTo_22 : decode cX4_giveTo 22 = .ok (.iload_n 2, 1) := by decide +kernel
theorem dX4_giveTo_23 : decode cX4_giveTo 23 = .ok (.bipush 12, 2) := by decide +kernel
theorem dX4_giveTo_25 : decode cX4_giveTo 25 = .ok (.if_icmp .ge 20, 3) := by decide +kernel
theorem dX4_giveTo_28 : decode cX4_giveTo 28 = .ok (.aload_n 1, 1) := by decide +kernel
theorem dX4_giveTo_29 : decode cX4_giveTo 29 = .ok (.iload_n 2, 1) := by decide +kernel
theorem dX4_giveTo_30 : decode cX4_giveTo 30 = .ok (.aload_n 0, 1) := by decide +kernel
theorem dX4_giveTo_31 : decode cX4_giveTo 31 = .ok (.getfield 9, 3) := by decide +kernel
theorem dX4_giveTo_34 : decode cX4_giveTo 34 = .ok (.iload_n 2, 1) := by decide +kernel
theorem dX4_giveTo_35 : decode cX4_giveTo 35 = .ok (.iaload, 1) := by decide +kernel
theorem dX4_giveTo_36 : decode cX4_giveTo 36 = .ok (.invokevirtual 74, 3) := by decide +kernel
theorem dX4_giveTo_39 : decode cX4_giveTo 39 = .ok (.iinc 2 1, 3) := by decide +kernel
theorem dX4_giveTo_42 : decode cX4_giveTo 42 = .ok (.goto (-28), 3) := by decide +kernel
theorem dX4_giveTo_45 : decode cX4_giveTo 45 = .ok (.return_, 1) := by decide +kernel
theorem dX4_begin_0 : decode cX4_begin 0 = .ok (.aload_n 0, 1) := by decide +kernel
theorem dX4_begin_1 : decode cX4_begin 1 = .ok (.iload_n 1, 1) := by decide +kernel
theorem dX4_begin_2 : decode cX4_begin 2 = .ok (.putfield 77, 3) := by decide +kernel
theorem dX4_begin_5 : decode cX4_begin 5 = .ok (.aload_n 0, 1) := by decide +kernel
theorem dX4_begin_6 : decode cX4_begin 6 = .ok (.iconst 0, 1) := by decide +kernel
theorem dX4_begin_7 : decode cX4_begin 7 = .ok (.putfield 67, 3) := by decide +kernel
theorem dX4_begin_10 : decode cX4_begin 10 = .ok (.aload_n 0, 1) := by decide +kernel
theorem dX4_begin_11 : decode cX4_begin 11 = .ok (.getfield 15, 3) := by decide +kernel
theorem dX4_begin_14 : decode cX4_begin 14 = .ok (.iconst 0, 1) := by decide +kernel
theorem dX4_begin_15 : decode cX4_begin 15 = .ok (.invokestatic 39, 3) := by decide +kernel
theorem dX4_begin_18 : decode cX4_begin 18 = .ok (.return_, 1) := by decide +kernel
theorem dX4_walk_0 : decode cX4_walk 0 = .ok (.iload_n 1, 1) := by decide +kernel
theorem dX4_walk_1 : decode cX4_walk 1 = .ok (.iconst 0, 1) := by decide +kernel
theorem dX4_walk_2 : decode cX4_walk 2 = .ok (.aload_n 0, 1) := by decide +kernel
theorem dX4_walk_3 : decode cX4_walk 3 = .ok (.getfield 21, 3) := by decide +kernel
theorem dX4_walk_6 : decode cX4_walk 6 = .ok (.iconst 1, 1) := by decide +kernel
theorem dX4_walk_7 : decode cX4_walk 7 = .ok (.isub, 1) := by decide +kernel
theorem dX4_walk_8 : decode cX4_walk 8 = .ok (.invokestatic 28, 3) := by decide +kernel
theorem dX4_walk_11 : decode cX4_walk 11 = .ok (.ifCond .eq 9, 3) := by decide +kernel
theorem dX4_walk_14 : decode cX4_walk 14 = .ok (.iload_n 1, 1) := by decide +kernel
theorem dX4_walk_15 : decode cX4_walk 15 = .ok (.bipush 12, 2) := by decide +kernel
theorem dX4_walk_17 : decode cX4_walk 17 = .ok (.if_icmp .lt 5, 3) := by decide +kernel
theorem dX4_walk_20 : decode cX4_walk 20 = .ok (.iconst 0, 1) := by decide +kernel
theorem dX4_walk_21 : decode cX4_walk 21 = .ok (.ireturn, 1) := by decide +kernel
theorem dX4_walk_22 : decode cX4_walk 22 = .ok (.aload_n 0, 1) := by decide +kernel
theorem dX4_walk_23 : decode cX4_walk 23 = .ok (.iload_n 1, 1) := by decide +kernel
theorem dX4_walk_24 : decode cX4_walk 24 = .ok (.iload_n 2, 1) := by decide +kernel
theorem dX4_walk_25 : decode cX4_walk 25 = .ok (.invokevirtual 80, 3) := by decide +kernel
theorem dX4_walk_28 : decode cX4_walk 28 = .ok (.istore_n 3, 1) := by decide +kernel
theorem dX4_walk_29 : decode cX4_walk 29 = .ok (.iload_n 1, 1) := by decide +kernel
theorem dX4_walk_30 : decode cX4_walk 30 = .ok (.aload_n 0, 1) := by decide +kernel
theorem dX4_walk_31 : decode cX4_walk 31 = .ok (.getfield 21, 3) := by decide +kernel
theorem dX4_walk_34 : decode cX4_walk 34 = .ok (.iconst 1, 1) := by decide +kernel
theorem dX4_walk_35 : decode cX4_walk 35 = .ok (.isub, 1) := by decide +kernel
theorem dX4_walk_36 : decode cX4_walk 36 = .ok (.if_icmp .ne 10, 3) := by decide +kernel
theorem dX4_walk_39 : decode cX4_walk 39 = .ok (.aload_n 0, 1) := by decide +kernel
theorem dX4_walk_40 : decode cX4_walk 40 = .ok (.iload_n 1, 1) := by decide +kernel
theorem dX4_walk_41 : decode cX4_walk 41 = .ok (.iload_n 3, 1) := by decide +kernel
theorem dX4_walk_42 : decode cX4_walk 42 = .ok (.invokevirtual 84, 3) := by decide +kernel
theorem dX4_walk_45 : decode cX4_walk 45 = .ok (.ireturn, 1) := by decide +kernel
theorem dX4_walk_46 : decode cX4_walk 46 = .ok (.iconst 0, 1) := by decide +kernel
theorem dX4_walk_47 : decode cX4_walk 47 = .ok (.istore 4, 2) := by decide +kernel
theorem dX4_walk_49 : decode cX4_walk 49 = .ok (.iload 4, 2) := by decide +kernel
theorem dX4_walk_51 : decode cX4_walk 51 = .ok (.aload_n 0, 1) := by decide +kernel
theorem dX4_walk_52 : decode cX4_walk 52 = .ok (.getfield 25, 3) := by decide +kernel
theorem dX4_walk_55 : decode cX4_walk 55 = .ok (.if_icmp .ge 65, 3) := by decide +kernel
theorem dX4_walk_58 : decode cX4_walk 58 = .ok (.iload_n 3, 1) := by decide +kernel
theorem dX4_walk_59 : decode cX4_walk 59 = .ok (.iload 4, 2) := by decide +kernel
theorem dX4_walk_61 : decode cX4_walk 61 = .ok (.ishr, 1) := by decide +kernel
theorem dX4_walk_62 : decode cX4_walk 62 = .ok (.iconst 1, 1) := by decide +kernel
theorem dX4_walk_63 : decode cX4_walk 63 = .ok (.iand, 1) := by decide +kernel
theorem dX4_walk_64 : decode cX4_walk 64 = .ok (.ifCond .eq 50, 3) := by decide +kernel
theorem dX4_walk_67 : decode cX4_walk 67 = .ok (.aload_n 0, 1) := by decide +kernel
theorem dX4_walk_68 : decode cX4_walk 68 = .ok (.getfield 9, 3) := by decide +kernel
theorem dX4_walk_71 : decode cX4_walk 71 = .ok (.iload_n 1, 1) := by decide +kernel
theorem dX4_walk_72 : decode cX4_walk 72 = .ok (.iload 4, 2) := by decide +kernel
theorem dX4_walk_74 : decode cX4_walk 74 = .ok (.iastore, 1) := by decide +kernel
theorem dX4_walk_75 : decode cX4_walk 75 = .ok (.aload_n 0, 1) := by decide +kernel
theorem dX4_walk_76 : decode cX4_walk 76 = .ok (.iload_n 1, 1) := by decide +kernel
theorem dX4_walk_77 : decode cX4_walk 77 = .ok (.invokevirtual 87, 3) := by decide +kernel
theorem dX4_walk_80 : decode cX4_walk 80 = .ok (.aload_n 0, 1) := by decide +kernel
theorem dX4_walk_81 : decode cX4_walk 81 = .ok (.iload_n 1, 1) := by decide +kernel
theorem dX4_walk_82 : decode cX4_walk 82 = .ok (.iconst 1, 1) := by decide +kernel
theorem dX4_walk_83 : decode cX4_walk 83 = .ok (.iadd, 1) := by decide +kernel
theorem dX4_walk_84 : decode cX4_walk 84 = .ok (.aload_n 0, 1) := by decide +kernel
theorem dX4_walk_85 : decode cX4_walk 85 = .ok (.getfield 35, 3) := by decide +kernel
theorem dX4_walk_88 : decode cX4_walk 88 = .ok (.ifCond .eq 12, 3) := by decide +kernel
theorem dX4_walk_91 : decode cX4_walk 91 = .ok (.iload_n 2, 1) := by decide +kernel
theorem dX4_walk_92 : decode cX4_walk 92 = .ok (.iconst 1, 1) := by decide +kernel
theorem dX4_walk_93 : decode cX4_walk 93 = .ok (.iload 4, 2) := by decide +kernel
theorem dX4_walk_95 : decode cX4_walk 95 = .ok (.ishl, 1) := by decide +kernel
theorem dX4_walk_96 : decode cX4_walk 96 = .ok (.ior, 1) := by decide +kernel
theorem dX4_walk_97 : decode cX4_walk 97 = .ok (.goto 4, 3) := by decide +kernel
theorem dX4_walk_100 : decode cX4_walk 100 = .ok (.iconst 0, 1) := by decide +kernel
theorem dX4_walk_101 : decode cX4_walk 101 = .ok (.invokevirtual 63, 3) := by decide +kernel
theorem dX4_walk_104 : decode cX4_walk 104 = .ok (.ifCond .eq 5, 3) := by decide +kernel
theorem dX4_walk_107 : decode cX4_walk 107 = .ok (.iconst 1, 1) := by decide +kernel
theorem dX4_walk_108 : decode cX4_walk 108 = .ok (.ireturn, 1) := by decide +kernel
theorem dX4_walk_109 : decode cX4_walk 109 = .ok (.aload_n 0, 1) := by decide +kernel
theorem dX4_walk_110 : decode cX4_walk 110 = .ok (.iload_n 1, 1) := by decide +kernel
theorem dX4_walk_111 : decode cX4_walk 111 = .ok (.invokevirtual 87, 3) := by decide +kernel
theorem dX4_walk_114 : decode cX4_walk 114 = .ok (.iinc 4 1, 3) := by decide +kernel
theorem dX4_walk_117 : decode cX4_walk 117 = .ok (.goto (-68), 3) := by decide +kernel
theorem dX4_walk_120 : decode cX4_walk 120 = .ok (.iconst 0, 1) := by decide +kernel
theorem dX4_walk_121 : decode cX4_walk 121 = .ok (.ireturn, 1) := by decide +kernel
theorem dX4_freeLines_0 : decode cX4_freeLines 0 = .ok (.aload_n 0, 1) := by decide +kernel
theorem dX4_freeLines_1 : decode cX4_freeLines 1 = .ok (.getfield 18, 3) := by decide +kernel
theorem dX4_freeLines_4 : decode cX4_freeLines 4 = .ok (.iload_n 1, 1) := by decide +kernel
theorem dX4_freeLines_5 : decode cX4_freeLines 5 = .ok (.iaload, 1) := by decide +kernel
theorem dX4_freeLines_6 : decode cX4_freeLines 6 = .ok (.iload_n 2, 1) := by decide +kernel
theorem dX4_freeLines_7 : decode cX4_freeLines 7 = .ok (.iconst (-1), 1) := by decide +kernel
theorem dX4_freeLines_8 : decode cX4_freeLines 8 = .ok (.ixor, 1) := by decide +kernel
theorem dX4_freeLines_9 : decode cX4_freeLines 9 = .ok (.iand, 1) := by decide +kernel
theorem dX4_freeLines_10 : decode cX4_freeLines 10 = .ok (.istore_n 3, 1) := by decide +kernel
theorem dX4_freeLines_11 : decode cX4_freeLines 11 = .ok (.iconst 1, 1) := by decide +kernel
theorem dX4_freeLines_12 : decode cX4_freeLines 12 = .ok (.istore 4, 2) := by decide +kernel
theorem dX4_freeLines_14 : decode cX4_freeLines 14 = .ok (.iload 4, 2) := by decide +kernel
theorem dX4_freeLines_16 : decode cX4_freeLines 16 = .ok (.iload_n 1, 1) := by decide +kernel
theorem dX4_freeLines_17 : decode cX4_freeLines 17 = .ok (.if_icmp .gt 38, 3) := by decide +kernel
theorem dX4_freeLines_20 : decode cX4_freeLines 20 = .ok (.iload_n 3, 1) := by decide +kernel
theorem dX4_freeLines_21 : decode cX4_freeLines 21 = .ok (.ifCond .eq 34, 3) := by decide +kernel
theorem dX4_freeLines_24 : decode cX4_freeLines 24 = .ok (.iload_n 3, 1) := by decide +kernel
theorem dX4_freeLines_25 : decode cX4_freeLines 25 = .ok (.aload_n 0, 1) := by decide +kernel
theorem dX4_freeLines_26 : decode cX4_freeLines 26 = .ok (.getfield 15, 3) := by decide +kernel
theorem dX4_freeLines_29 : decode cX4_freeLines 29 = .ok (.iload 4, 2) := by decide +kernel
theorem dX4_freeLines_31 : decode cX4_freeLines 31 = .ok (.iaload, 1) := by decide +kernel
theorem dX4_freeLines_32 : decode cX4_freeLines 32 = .ok (.bipush 12, 2) := by decide +kernel
theorem dX4_freeLines_34 : decode cX4_freeLines 34 = .ok (.aload_n 0, 1) := by decide +kernel
theorem dX4_freeLines_35 : decode cX4_freeLines 35 = .ok (.getfield 9, 3) := by decide +kernel
theorem dX4_freeLines_38 : decode cX4_freeLines 38 = .ok (.iload_n 1, 1) := by decide +kernel
theorem dX4_freeLines_39 : decode cX4_freeLines 39 = .ok (.iload 4, 2) := by decide +kernel
theorem dX4_freeLines_41 : decode cX4_freeLines 41 = .ok (.isub, 1) := by decide +kernel
theorem dX4_freeLines_42 : decode cX4_freeLines 42 = .ok (.iaload, 1) := by decide +kernel
theorem dX4_freeLines_43 : decode cX4_freeLines 43 = .ok (.isub, 1) := by decide +kernel
theorem dX4_freeLines_44 : decode cX4_freeLines 44 = .ok (.iushr, 1) := by decide +kernel
theorem dX4_freeLines_45 : decode cX4_freeLines 45 = .ok (.iconst (-1), 1) := by decide +kernel
theorem dX4_freeLines_46 : decode cX4_freeLines 46 = .ok (.ixor, 1) := by decide +kernel
theorem dX4_freeLines_47 : decode cX4_freeLines 47 = .ok (.iand, 1) := by decide +kernel
theorem dX4_freeLines_48 : decode cX4_freeLines 48 = .ok (.istore_n 3, 1) := by decide +kernel
theorem dX4_freeLines_49 : decode cX4_freeLines 49 = .ok (.iinc 4 1, 3) := by decide +kernel
theorem dX4_freeLines_52 : decode cX4_freeLines 52 = .ok (.goto (-38), 3) := by decide +kernel
theorem dX4_freeLines_55 : decode cX4_freeLines 55 = .ok (.iload_n 3, 1) := by decide +kernel
theorem dX4_freeLines_56 : decode cX4_freeLines 56 = .ok (.ireturn, 1) := by decide +kernel
theorem dX4_flipSteps_0 : decode cX4_flipSteps 0 = .ok (.iconst 1, 1) := by decide +kernel
theorem dX4_flipSteps_1 : decode cX4_flipSteps 1 = .ok (.istore_n 2, 1) := by decide +kernel
theorem dX4_flipSteps_2 : decode cX4_flipSteps 2 = .ok (.iload_n 2, 1) := by decide +kernel
theorem dX4_flipSteps_3 : decode cX4_flipSteps 3 = .ok (.iload_n 1, 1) := by decide +kernel
theorem dX4_flipSteps_4 : decode cX4_flipSteps 4 = .ok (.if_icmp .gt 37, 3) := by decide +kernel
theorem dX4_flipSteps_7 : decode cX4_flipSteps 7 = .ok (.aload_n 0, 1) := by decide +kernel
theorem dX4_flipSteps_8 : decode cX4_flipSteps 8 = .ok (.getfield 15, 3) := by decide +kernel
theorem dX4_flipSteps_11 : decode cX4_flipSteps 11 = .ok (.iload_n 2, 1) := by decide +kernel
theorem dX4_flipSteps_12 : decode cX4_flipSteps 12 = .ok (.dup2, 1) := by decide +kernel
theorem dX4_flipSteps_13 : decode cX4_flipSteps 13 = .ok (.iaload, 1) := by decide +kernel
theorem dX4_flipSteps_14 : decode cX4_flipSteps 14 = .ok (.aload_n 0, 1) := by decide +kernel
theorem dX4_flipSteps_15 : decode cX4_flipSteps 15 = .ok (.aload_n 0, 1) := by decide +kernel
theorem dX4_flipSteps_16 : decode cX4_flipSteps 16 = .ok (.getfield 9, 3) := by decide +kernel
theorem dX4_flipSteps_19 : decode cX4_flipSteps 19 = .ok (.iload_n 1, 1) := by decide +kernel
theorem dX4_flipSteps_20 : decode cX4_flipSteps 20 = .ok (.iaload, 1) := by decide +kernel
theorem dX4_flipSteps_21 : decode cX4_flipSteps 21 = .ok (.aload_n 0, 1) := by decide +kernel
theorem dX4_flipSteps_22 : decode cX4_flipSteps 22 = .ok (.getfield 9, 3) := by decide +kernel
theorem dX4_flipSteps_25 : decode cX4_flipSteps 25 = .ok (.iload_n 1, 1) := by decide +kernel
theorem dX4_flipSteps_26 : decode cX4_flipSteps 26 = .ok (.iload_n 2, 1) := by decide +kernel
theorem dX4_flipSteps_27 : decode cX4_flipSteps 27 = .ok (.isub, 1) := by decide +kernel
theorem dX4_flipSteps_28 : decode cX4_flipSteps 28 = .ok (.iaload, 1) := by decide +kernel
theorem dX4_flipSteps_29 : decode cX4_flipSteps 29 = .ok (.isub, 1) := by decide +kernel
theorem dX4_flipSteps_30 : decode cX4_flipSteps 30 = .ok (.invokevirtual 90, 3) := by decide +kernel
theorem dX4_flipSteps_33 : decode cX4_flipSteps 33 = .ok (.ixor, 1) := by decide +kernel
theorem dX4_flipSteps_34 : decode cX4_flipSteps 34 = .ok (.iastore, 1) := by decide +kernel
theorem dX4_flipSteps_35 : decode cX4_flipSteps 35 = .ok (.iinc 2 1, 3) := by decide +kernel
theorem dX4_flipSteps_38 : decode cX4_flipSteps 38 = .ok (.goto (-36), 3) := by decide +kernel
theorem dX4_flipSteps_41 : decode cX4_flipSteps 41 = .ok (.return_, 1) := by decide +kernel
theorem dX4_stepBits_0 : decode cX4_stepBits 0 = .ok (.aload_n 0, 1) := by decide +kernel
theorem dX4_stepBits_1 : decode cX4_stepBits 1 = .ok (.getfield 32, 3) := by decide +kernel
theorem dX4_stepBits_4 : decode cX4_stepBits 4 = .ok (.ifCond .ne 10, 3) := by decide +kernel
theorem dX4_stepBits_7 : decode cX4_stepBits 7 = .ok (.iconst 1, 1) := by decide +kernel
theorem dX4_stepBits_8 : decode cX4_stepBits 8 = .ok (.bipush 12, 2) := by decide +kernel
theorem dX4_stepBits_10 : decode cX4_stepBits 10 = .ok (.iload_n 1, 1) := by decide +kernel
theorem dX4_stepBits_11 : decode cX4_stepBits 11 = .ok (.iadd, 1) := by decide +kernel
theorem dX4_stepBits_12 : decode cX4_stepBits 12 = .ok (.ishl, 1) := by decide +kernel
theorem dX4_stepBits_13 : decode cX4_stepBits 13 = .ok (.ireturn, 1) := by decide +kernel
theorem dX4_stepBits_14 : decode cX4_stepBits 14 = .ok (.iload_n 1, 1) := by decide +kernel
theorem dX4_stepBits_15 : decode cX4_stepBits 15 = .ok (.aload_n 0, 1) := by decide +kernel
theorem dX4_stepBits_16 : decode cX4_stepBits 16 = .ok (.getfield 25, 3) := by decide +kernel
theorem dX4_stepBits_19 : decode cX4_stepBits 19 = .ok (.invokestatic 93, 3) := by decide +kernel
theorem dX4_stepBits_22 : decode cX4_stepBits 22 = .ok (.istore_n 2, 1) := by decide +kernel
theorem dX4_stepBits_23 : decode cX4_stepBits 23 = .ok (.iconst 1, 1) := by decide +kernel
theorem dX4_stepBits_24 : decode cX4_stepBits 24 = .ok (.bipush 12, 2) := by decide +kernel
theorem dX4_stepBits_26 : decode cX4_stepBits 26 = .ok (.iload_n 2, 1) := by decide +kernel
theorem dX4_stepBits_27 : decode cX4_stepBits 27 = .ok (.iadd, 1) := by decide +kernel
theorem dX4_stepBits_28 : decode cX4_stepBits 28 = .ok (.ishl, 1) := by decide +kernel
theorem dX4_stepBits_29 : decode cX4_stepBits 29 = .ok (.iconst 1, 1) := by decide +kernel
theorem dX4_stepBits_30 : decode cX4_stepBits 30 = .ok (.bipush 12, 2) := by decide +kernel
theorem dX4_stepBits_32 : decode cX4_stepBits 32 = .ok (.iload_n 2, 1) := by decide +kernel
theorem dX4_stepBits_33 : decode cX4_stepBits 33 = .ok (.iadd, 1) := by decide +kernel
theorem dX4_stepBits_34 : decode cX4_stepBits 34 = .ok (.aload_n 0, 1) := by decide +kernel
theorem dX4_stepBits_35 : decode cX4_stepBits 35 = .ok (.getfield 25, 3) := by decide +kernel
theorem dX4_stepBits_38 : decode cX4_stepBits 38 = .ok (.isub, 1) := by decide +kernel
theorem dX4_stepBits_39 : decode cX4_stepBits 39 = .ok (.ishl, 1) := by decide +kernel
theorem dX4_stepBits_40 : decode cX4_stepBits 40 = .ok (.ior, 1) := by decide +kernel
theorem dX4_stepBits_41 : decode cX4_stepBits 41 = .ok (.ireturn, 1) := by decide +kernel
theorem dX4_endIn_0 : decode cX4_endIn 0 = .ok (.iload_n 2, 1) := by decide +kernel
theorem dX4_endIn_1 : decode cX4_endIn 1 = .ok (.invokestatic 96, 3) := by decide +kernel
theorem dX4_endIn_4 : decode cX4_endIn 4 = .ok (.istore_n 3, 1) := by decide +kernel
theorem dX4_endIn_5 : decode cX4_endIn 5 = .ok (.aload_n 0, 1) := by decide +kernel
theorem dX4_endIn_6 : decode cX4_endIn 6 = .ok (.getfield 77, 3) := by decide +kernel
theorem dX4_endIn_9 : decode cX4_endIn 9 = .ok (.ifCond .lt 16, 3) := by decide +kernel
theorem dX4_endIn_12 : decode cX4_endIn 12 = .ok (.aload_n 0, 1) := by decide +kernel
theorem dX4_endIn_13 : decode cX4_endIn 13 = .ok (.getfield 77, 3) := by decide +kernel
theorem dX4_endIn_16 : decode cX4_endIn 16 = .ok (.aload_n 0, 1) := by decide +kernel
theorem dX4_endIn_17 : decode cX4_endIn 17 = .ok (.getfield 67, 3) := by decide +kernel
theorem dX4_endIn_20 : decode cX4_endIn 20 = .ok (.isub, 1) := by decide +kernel
theorem dX4_endIn_21 : decode cX4_endIn 21 = .ok (.iload_n 3, 1) := by decide +kernel
theorem dX4_endIn_22 : decode cX4_endIn 22 = .ok (.if_icmp .lt 15, 3) := by decide +kernel
theorem dX4_endIn_25 : decode cX4_endIn 25 = .ok (.aload_n 0, 1) := by decide +kernel
theorem dX4_endIn_26 : decode cX4_endIn 26 = .ok (.dup, 1) := by decide +kernel
theorem dX4_endIn_27 : decode cX4_endIn 27 = .ok (.getfield 67, 3) := by decide +kernel
theorem dX4_endIn_30 : decode cX4_endIn 30 = .ok (.iload_n 3, 1) := by decide +kernel
theorem dX4_endIn_31 : decode cX4_endIn 31 = .ok (.iadd, 1) := by decide +kernel
theorem dX4_endIn_32 : decode cX4_endIn 32 = .ok (.putfield 67, 3) := by decide +kernel
theorem dX4_endIn_35 : decode cX4_endIn 35 = .ok (.iconst 0, 1) := by decide +kernel
theorem dX4_endIn_36 : decode cX4_endIn 36 = .ok (.ireturn, 1) := by decide +kernel
theorem dX4_endIn_37 : decode cX4_endIn 37 = .ok (.iconst 0, 1) := by decide +kernel
theorem dX4_endIn_38 : decode cX4_endIn 38 = .ok (.istore 4, 2) := by decide +kernel
theorem dX4_endIn_40 : decode cX4_endIn 40 = .ok (.iload 4, 2) := by decide +kernel
theorem dX4_endIn_42 : decode cX4_endIn 42 = .ok (.aload_n 0, 1) := by decide +kernel
theorem dX4_endIn_43 : decode cX4_endIn 43 = .ok (.getfield 25, 3) := by decide +kernel
theorem dX4_endIn_46 : decode cX4_endIn 46 = .ok (.if_icmp .ge 49, 3) := by decide +kernel
theorem dX4_endIn_49 : decode cX4_endIn 49 = .ok (.iload_n 2, 1) := by decide +kernel
theorem dX4_endIn_50 : decode cX4_endIn 50 = .ok (.iload 4, 2) := by decide +kernel
theorem dX4_endIn_52 : decode cX4_endIn 52 = .ok (.ishr, 1) := by decide +kernel
theorem dX4_endIn_53 : decode cX4_endIn 53 = .ok (.iconst 1, 1) := by decide +kernel
theorem dX4_endIn_54 : decode cX4_endIn 54 = .ok (.iand, 1) := by decide +kernel
theorem dX4_endIn_55 : decode cX4_endIn 55 = .ok (.ifCond .eq 34, 3) := by decide +kernel
theorem dX4_endIn_58 : decode cX4_endIn 58 = .ok (.aload_n 0, 1) := by decide +kernel
theorem dX4_endIn_59 : decode cX4_endIn 59 = .ok (.getfield 67, 3) := by decide +kernel
theorem dX4_endIn_62 : decode cX4_endIn 62 = .ok (.aload_n 0, 1) := by decide +kernel
theorem dX4_endIn_63 : decode cX4_endIn 63 = .ok (.getfield 77, 3) := by decide +kernel
theorem dX4_endIn_66 : decode cX4_endIn 66 = .ok (.if_icmp .ne 13, 3) := by decide +kernel
theorem dX4_endIn_69 : decode cX4_endIn 69 = .ok (.aload_n 0, 1) := by decide +kernel
theorem dX4_endIn_70 : decode cX4_endIn 70 = .ok (.getfield 9, 3) := by decide +kernel
theorem dX4_endIn_73 : decode cX4_endIn 73 = .ok (.iload_n 1, 1) := by decide +kernel
theorem dX4_endIn_74 : decode cX4_endIn 74 = .ok (.iload 4, 2) := by decide +kernel
theorem dX4_endIn_76 : decode cX4_endIn 76 = .ok (.iastore, 1) := by decide +kernel
theorem dX4_endIn_77 : decode cX4_endIn 77 = .ok (.iconst 1, 1) := by decide +kernel
theorem dX4_endIn_78 : decode cX4_endIn 78 = .ok (.ireturn, 1) := by decide +kernel
theorem dX4_endIn_79 : decode cX4_endIn 79 = .ok (.aload_n 0, 1) := by decide +kernel
theorem dX4_endIn_80 : decode cX4_endIn 80 = .ok (.dup, 1) := by decide +kernel
theorem dX4_endIn_81 : decode cX4_endIn 81 = .ok (.getfield 67, 3) := by decide +kernel
theorem dX4_endIn_84 : decode cX4_endIn 84 = .ok (.iconst 1, 1) := by decide +kernel
theorem dX4_endIn_85 : decode cX4_endIn 85 = .ok (.iadd, 1) := by decide +kernel
theorem dX4_endIn_86 : decode cX4_endIn 86 = .ok (.putfield 67, 3) := by decide +kernel
theorem dX4_endIn_89 : decode cX4_endIn 89 = .ok (.iinc 4 1, 3) := by decide +kernel
theorem dX4_endIn_92 : decode cX4_endIn 92 = .ok (.goto (-52), 3) := by decide +kernel
theorem dX4_endIn_95 : decode cX4_endIn 95 = .ok (.iconst 0, 1) := by decide +kernel
theorem dX4_endIn_96 : decode cX4_endIn 96 = .ok (.ireturn, 1) := by decide +kernel
theorem dX5_init_0 : decode cX5_init 0 = .ok (.aload_n 0, 1) := by decide +kernel
theorem dX5_init_1 : decode cX5_init 1 = .ok (.invokespecial 3, 3) := by decide +kernel
theorem dX5_init_4 : decode cX5_init 4 = .ok (.aload_n 0, 1) := by decide +kernel
theorem dX5_init_5 : decode cX5_init 5 = .ok (.bipush 60, 2) := by decide +kernel
theorem dX5_init_7 : decode cX5_init 7 = .ok (.newarray .int, 2) := by decide +kernel
theorem dX5_init_9 : decode cX5_init 9 = .ok (.putfield 11, 3) := by decide +kernel
theorem dX5_init_12 : decode cX5_init 12 = .ok (.aload_n 0, 1) := by decide +kernel
theorem dX5_init_13 : decode cX5_init 13 = .ok (.iconst 0, 1) := by decide +kernel
theorem dX5_init_14 : decode cX5_init 14 = .ok (.putfield 15, 3) := by decide +kernel
theorem dX5_init_17 : decode cX5_init 17 = .ok (.return_, 1) := by decide +kernel
theorem dX5_length_0 : decode cX5_length 0 = .ok (.aload_n 0, 1) := by decide +kernel
theorem dX5_length_1 : decode cX5_length 1 = .ok (.getfield 15, 3) := by decide +kernel
theorem dX5_length_4 : decode cX5_length 4 = .ok (.ireturn, 1) := by decide +kernel
theorem dX5_clear_0 : decode cX5_clear 0 = .ok (.aload_n 0, 1) := by decide +kernel
theorem dX5_clear_1 : decode cX5_clear 1 = .ok (.iconst 0, 1) := by decide +kernel
theorem dX5_clear_2 : decode cX5_clear 2 = .ok (.putfield 15, 3) := by decide +kernel
theorem dX5_clear_5 : decode cX5_clear 5 = .ok (.return_, 1) := by decide +kernel
theorem dX5_hasRoomFor_0 : decode cX5_hasRoomFor 0 = .ok (.iload_n 1, 1) := by decide +kernel
theorem dX5_hasRoomFor_1 : decode cX5_hasRoomFor 1 = .ok (.bipush 60, 2) := by decide +kernel
theorem dX5_hasRoomFor_3 : decode cX5_hasRoomFor 3 = .ok (.aload_n 0, 1) := by decide +kernel
theorem dX5_hasRoomFor_4 : decode cX5_hasRoomFor 4 = .ok (.getfield 15, 3) := by decide +kernel
theorem dX5_hasRoomFor_7 : decode cX5_hasRoomFor 7 = .ok (.isub, 1) := by decide +kernel
theorem dX5_hasRoomFor_8 : decode cX5_hasRoomFor 8 = .ok (.if_icmp .gt 7, 3) := by decide +kernel
theorem dX5_hasRoomFor_11 : decode cX5_hasRoomFor 11 = .ok (.iconst 1, 1) := by decide +kernel
theorem dX5_hasRoomFor_12 : decode cX5_hasRoomFor 12 = .ok (.goto 4, 3) := by decide +kernel
theorem dX5_hasRoomFor_15 : decode cX5_hasRoomFor 15 = .ok (.iconst 0, 1) := by decide +kernel
theorem dX5_hasRoomFor_16 : decode cX5_hasRoomFor 16 = .ok (.ireturn, 1) := by decide +kernel
theorem dX5_add_0 : decode cX5_add 0 = .ok (.aload_n 0, 1) := by decide +kernel
theorem dX5_add_1 : decode cX5_add 1 = .ok (.getfield 15, 3) := by decide +kernel
theorem dX5_add_4 : decode cX5_add 4 = .ok (.iconst 0, 1) := by decide +kernel
theorem dX5_add_5 : decode cX5_add 5 = .ok (.bipush 59, 2) := by decide +kernel
theorem dX5_add_7 : decode cX5_add 7 = .ok (.invokestatic 19, 3) := by decide +kernel
theorem dX5_add_10 : decode cX5_add 10 = .ok (.ifCond .eq 23, 3) := by decide +kernel
theorem dX5_add_13 : decode cX5_add 13 = .ok (.aload_n 0, 1) := by decide +kernel
theorem dX5_add_14 : decode cX5_add 14 = .ok (.getfield 11, 3) := by decide +kernel
theorem dX5_add_17 : decode cX5_add 17 = .ok (.aload_n 0, 1) := by decide +kernel
theorem dX5_add_18 : decode cX5_add 18 = .ok (.getfield 15, 3) := by decide +kernel
theorem dX5_add_21 : decode cX5_add 21 = .ok (.iload_n 1, 1) := by decide +kernel
theorem dX5_add_22 : decode cX5_add 22 = .ok (.iastore, 1) := by decide +kernel
theorem dX5_add_23 : decode cX5_add 23 = .ok (.aload_n 0, 1) := by decide +kernel
theorem dX5_add_24 : decode cX5_add 24 = .ok (.dup, 1) := by decide +kernel
theorem dX5_add_25 : decode cX5_add 25 = .ok (.getfield 15, 3) := by decide +kernel
theorem dX5_add_28 : decode cX5_add 28 = .ok (.iconst 1, 1) := by decide +kernel
theorem dX5_add_29 : decode cX5_add 29 = .ok (.iadd, 1) := by decide +kernel
theorem dX5_add_30 : decode cX5_add 30 = .ok (.putfield 15, 3) := by decide +kernel
theorem dX5_add_33 : decode cX5_add 33 = .ok (.return_, 1) := by decide +kernel
theorem dX5_byteAt_0 : decode cX5_byteAt 0 = .ok (.iload_n 1, 1) := by decide +kernel
theorem dX5_byteAt_1 : decode cX5_byteAt 1 = .ok (.ifCond .lt 26, 3) := by decide +kernel
theorem dX5_byteAt_4 : decode cX5_byteAt 4 = .ok (.iload_n 1, 1) := by decide +kernel
theorem dX5_byteAt_5 : decode cX5_byteAt 5 = .ok (.aload_n 0, 1) := by decide +kernel
theorem dX5_byteAt_6 : decode cX5_byteAt 6 = .ok (.getfield 15, 3) := by decide +kernel
theorem dX5_byteAt_9 : decode cX5_byteAt 9 = .ok (.if_icmp .ge 18, 3) := by decide +kernel
theorem dX5_byteAt_12 : decode cX5_byteAt 12 = .ok (.iload_n 1, 1) := by decide +kernel
theorem dX5_byteAt_13 : decode cX5_byteAt 13 = .ok (.bipush 60, 2) := by decide +kernel
theorem dX5_byteAt_15 : decode cX5_byteAt 15 = .ok (.if_icmp .ge 12, 3) := by decide +kernel
theorem dX5_byteAt_18 : decode cX5_byteAt 18 = .ok (.aload_n 0, 1) := by decide +kernel
theorem dX5_byteAt_19 : decode cX5_byteAt 19 = .ok (.getfield 11, 3) := by decide +kernel
theorem dX5_byteAt_22 : decode cX5_byteAt 22 = .ok (.iload_n 1, 1) := by decide +kernel
theorem dX5_byteAt_23 : decode cX5_byteAt 23 = .ok (.iaload, 1) := by decide +kernel
theorem dX5_byteAt_24 : decode cX5_byteAt 24 = .ok (.goto 4, 3) := by decide +kernel
theorem dX5_byteAt_27 : decode cX5_byteAt 27 = .ok (.iconst 0, 1) := by decide +kernel
theorem dX5_byteAt_28 : decode cX5_byteAt 28 = .ok (.ireturn, 1) := by decide +kernel
theorem dX5_endsRow_0 : decode cX5_endsRow 0 = .ok (.aload_n 0, 1) := by decide +kernel
theorem dX5_endsRow_1 : decode cX5_endsRow 1 = .ok (.iload_n 1, 1) := by decide +kernel
theorem dX5_endsRow_2 : decode cX5_endsRow 2 = .ok (.invokevirtual 23, 3) := by decide +kernel
theorem dX5_endsRow_5 : decode cX5_endsRow 5 = .ok (.bipush 59, 2) := by decide +kernel
theorem dX5_endsRow_7 : decode cX5_endsRow 7 = .ok (.if_icmp .ne 7, 3) := by decide +kernel
theorem dX5_endsRow_10 : decode cX5_endsRow 10 = .ok (.iconst 1, 1) := by decide +kernel
theorem dX5_endsRow_11 : decode cX5_endsRow 11 = .ok (.goto 4, 3) := by decide +kernel
theorem dX5_endsRow_14 : decode cX5_endsRow 14 = .ok (.iconst 0, 1) := by decide +kernel
theorem dX5_endsRow_15 : decode cX5_endsRow 15 = .ok (.ireturn, 1) := by decide +kernel
theorem dX5_lineAt_0 : decode cX5_lineAt 0 = .ok (.aload_n 0, 1) := by decide +kernel
theorem dX5_lineAt_1 : decode cX5_lineAt 1 = .ok (.iload_n 1, 1) := by decide +kernel
theorem dX5_lineAt_2 : decode cX5_lineAt 2 = .ok (.invokevirtual 23, 3) := by decide +kernel
theorem dX5_lineAt_5 : decode cX5_lineAt 5 = .ok (.bipush 97, 2) := by decide +kernel
theorem dX5_lineAt_7 : decode cX5_lineAt 7 = .ok (.isub, 1) := by decide +kernel
theorem dX5_lineAt_8 : decode cX5_lineAt 8 = .ok (.istore_n 2, 1) := by decide +kernel
theorem dX5_lineAt_9 : decode cX5_lineAt 9 = .ok (.iload_n 2, 1) := by decide +kernel
theorem dX5_lineAt_10 : decode cX5_lineAt 10 = .ok (.iconst 0, 1) := by decide +kernel
theorem dX5_lineAt_11 : decode cX5_lineAt 11 = .ok (.bipush 11, 2) := by decide +kernel
theorem dX5_lineAt_13 : decode cX5_lineAt 13 = .ok (.invokestatic 19, 3) := by decide +kernel
theorem dX5_lineAt_16 : decode cX5_lineAt 16 = .ok (.ifCond .eq 7, 3) := by decide +kernel
theorem dX5_lineAt_19 : decode cX5_lineAt 19 = .ok (.iload_n 2, 1) := by decide +kernel
theorem dX5_lineAt_20 : decode cX5_lineAt 20 = .ok (.goto 5, 3) := by decide +kernel
theorem dX5_lineAt_23 : decode cX5_lineAt 23 = .ok (.bipush 15, 2) := by decide +kernel
theorem dX5_lineAt_25 : decode cX5_lineAt 25 = .ok (.ireturn, 1) := by decide +kernel
theorem dX5_isColumn_0 : decode cX5_isColumn 0 = .ok (.aload_n 0, 1) := by decide +kernel
theorem dX5_isColumn_1 : decode cX5_isColumn 1 = .ok (.iload_n 1, 1) := by decide +kernel
theorem dX5_isColumn_2 : decode cX5_isColumn 2 = .ok (.invokevirtual 23, 3) := by decide +kernel
theorem dX5_isColumn_5 : decode cX5_isColumn 5 = .ok (.bipush 46, 2) := by decide +kernel
theorem dX5_isColumn_7 : decode cX5_isColumn 7 = .ok (.if_icmp .eq 13, 3) := by decide +kernel
theorem dX5_isColumn_10 : decode cX5_isColumn 10 = .ok (.aload_n 0, 1) := by decide +kernel
theorem dX5_isColumn_11 : decode cX5_isColumn 11 = .ok (.iload_n 1, 1) := by decide +kernel
theorem dX5_isColumn_12 : decode cX5_isColumn 12 = .ok (.invokevirtual 27, 3) := by decide +kernel
theorem dX5_isColumn_15 : decode cX5_isColumn 15 = .ok (.bipush 15, 2) := by decide +kernel
theorem dX5_isColumn_17 : decode cX5_isColumn 17 = .ok (.if_icmp .eq 7, 3) := by decide +kernel
theorem dX5_isColumn_20 : decode cX5_isColumn 20 = .ok (.iconst 1, 1) := by decide +kernel
theorem dX5_isColumn_21 : decode cX5_isColumn 21 = .ok (.goto 4, 3) := by decide +kernel
theorem dX5_isColumn_24 : decode cX5_isColumn 24 = .ok (.iconst 0, 1) := by decide +kernel
theorem dX5_isColumn_25 : decode cX5_isColumn 25 = .ok (.ireturn, 1) := by decide +kernel
theorem dX5_firstFault_0 : decode cX5_firstFault 0 = .ok (.iconst 0, 1) := by decide +kernel
theorem dX5_firstFault_1 : decode cX5_firstFault 1 = .ok (.istore_n 1, 1) := by decide +kernel
theorem dX5_firstFault_2 : decode cX5_firstFault 2 = .ok (.iconst 0, 1) := by decide +kernel
theorem dX5_firstFault_3 : decode cX5_firstFault 3 = .ok (.istore_n 2, 1) := by decide +kernel
theorem dX5_firstFault_4 : decode cX5_firstFault 4 = .ok (.iconst 0, 1) := by decide +kernel
theorem dX5_firstFault_5 : decode cX5_firstFault 5 = .ok (.istore_n 3, 1) := by decide +kernel
theorem dX5_firstFault_6 : decode cX5_firstFault 6 = .ok (.iload_n 3, 1) := by decide +kernel
theorem dX5_firstFault_7 : decode cX5_firstFault 7 = .ok (.aload_n 0, 1) := by decide +kernel
theorem dX5_firstFault_8 : decode cX5_firstFault 8 = .ok (.getfield 15, 3) := by decide +kernel
theorem dX5_firstFault_11 : decode cX5_firstFault 11 = .ok (.if_icmp .ge 56, 3) := by decide +kernel
theorem dX5_firstFault_14 : decode cX5_firstFault 14 = .ok (.aload_n 0, 1) := by decide +kernel
theorem dX5_firstFault_15 : decode cX5_firstFault 15 = .ok (.iload_n 3, 1) := by decide +kernel
theorem dX5_firstFault_16 : decode cX5_firstFault 16 = .ok (.invokevirtual 30, 3) := by decide +kernel
theorem dX5_firstFault_19 : decode cX5_firstFault 19 = .ok (.ifCond .eq 17, 3) := by decide +kernel
theorem dX5_firstFault_22 : decode cX5_firstFault 22 = .ok (.iload_n 1, 1) := by decide +kernel
theorem dX5_firstFault_23 : decode cX5_firstFault 23 = .ok (.ifCond .ne 5, 3) := by decide +kernel
theorem dX5_firstFault_26 : decode cX5_firstFault 26 = .ok (.iload_n 3, 1) := by decide +kernel
theorem dX5_firstFault_27 : decode cX5_firstFault 27 = .ok (.ireturn, 1) := by decide +kernel
theorem dX5_firstFault_28 : decode cX5_firstFault 28 = .ok (.iinc 2 1, 3) := by decide +kernel
theorem dX5_firstFault_31 : decode cX5_firstFault 31 = .ok (.iconst 0, 1) := by decide +kernel
theorem dX5_firstFault_32 : decode cX5_firstFault 32 = .ok (.istore_n 1, 1) := by decide +kernel
theorem dX5_firstFault_33 : decode cX5_firstFault 33 = .ok (.goto 28, 3) := by decide +kernel
theorem dX5_firstFault_36 : decode cX5_firstFault 36 = .ok (.aload_n 0, 1) := by decide +kernel
theorem dX5_firstFault_37 : decode cX5_firstFault 37 = .ok (.iload_n 3, 1) := by decide +kernel
theorem dX5_firstFault_38 : decode cX5_firstFault 38 = .ok (.invokevirtual 34, 3) := by decide +kernel
theorem dX5_firstFault_41 : decode cX5_firstFault 41 = .ok (.ifCond .eq 15, 3) := by decide +kernel
theorem dX5_firstFault_44 : decode cX5_firstFault 44 = .ok (.iload_n 1, 1) := by decide +kernel
theorem dX5_firstFault_45 : decode cX5_firstFault 45 = .ok (.bipush 12, 2) := by decide +kernel
theorem dX5_firstFault_47 : decode cX5_firstFault 47 = .ok (.if_icmp .eq 9, 3) := by decide +kernel
theorem dX5_firstFault_50 : decode cX5_firstFault 50 = .ok (.iload_n 2, 1) := by decide +kernel
theorem dX5_firstFault_51 : decode cX5_firstFault 51 = .ok (.bipush 6, 2) := by decide +kernel
theorem dX5_firstFault_53 : decode cX5_firstFault 53 = .ok (.if_icmp .ne 5, 3) := by decide +kernel
theorem dX5_firstFault_56 : decode cX5_firstFault 56 = .ok (.iload_n 3, 1) := by decide +kernel
theorem dX5_firstFault_57 : decode cX5_firstFault 57 = .ok (.ireturn, 1) := by decide +kernel
theorem dX5_firstFault_58 : decode cX5_firstFault 58 = .ok (.iinc 1 1, 3) := by decide +kernel
theorem dX5_firstFault_61 : decode cX5_firstFault 61 = .ok (.iinc 3 1, 3) := by decide +kernel
theorem dX5_firstFault_64 : decode cX5_firstFault 64 = .ok (.goto (-58), 3) := by decide +kernel
theorem dX5_firstFault_67 : decode cX5_firstFault 67 = .ok (.iload_n 1, 1) := by decide +kernel
theorem dX5_firstFault_68 : decode cX5_firstFault 68 = .ok (.ifCond .le 10, 3) := by decide +kernel
theorem dX5_firstFault_71 : decode cX5_firstFault 71 = .ok (.aload_n 0, 1) := by decide +kernel
theorem dX5_firstFault_72 : decode cX5_firstFault 72 = .ok (.getfield 15, 3) := by decide +kernel
theorem dX5_firstFault_75 : decode cX5_firstFault 75 = .ok (.goto 5, 3) := by decide +kernel
theorem dX5_firstFault_78 : decode cX5_firstFault 78 = .ok (.bipush (-4), 2) := by decide +kernel
theorem dX5_firstFault_80 : decode cX5_firstFault 80 = .ok (.ireturn, 1) := by decide +kernel
theorem dX5_highestLine_0 : decode cX5_highestLine 0 = .ok (.iconst (-1), 1) := by decide +kernel
theorem dX5_highestLine_1 : decode cX5_highestLine 1 = .ok (.istore_n 1, 1) := by decide +kernel
theorem dX5_highestLine_2 : decode cX5_highestLine 2 = .ok (.iconst 0, 1) := by decide +kernel
theorem dX5_highestLine_3 : decode cX5_highestLine 3 = .ok (.istore_n 2, 1) := by decide +kernel
theorem dX5_highestLine_4 : decode cX5_highestLine 4 = .ok (.iload_n 2, 1) := by decide +kernel
theorem dX5_highestLine_5 : decode cX5_highestLine 5 = .ok (.aload_n 0, 1) := by decide +kernel
theorem dX5_highestLine_6 : decode cX5_highestLine 6 = .ok (.getfield 15, 3) := by decide +kernel
theorem dX5_highestLine_9 : decode cX5_highestLine 9 = .ok (.if_icmp .ge 28, 3) := by decide +kernel
theorem dX5_highestLine_12 : decode cX5_highestLine 12 = .ok (.aload_n 0, 1) := by decide +kernel
theorem dX5_highestLine_13 : decode cX5_highestLine 13 = .ok (.iload_n 2, 1) := by decide +kernel
theorem dX5_highestLine_14 : decode cX5_highestLine 14 = .ok (.invokevirtual 27, 3) := by decide +kernel
theorem dX5_highestLine_17 : decode cX5_highestLine 17 = .ok (.istore_n 3, 1) := by decide +kernel
theorem dX5_highestLine_18 : decode cX5_highestLine 18 = .ok (.iload_n 3, 1) := by decide +kernel
theorem dX5_highestLine_19 : decode cX5_highestLine 19 = .ok (.bipush 15, 2) := by decide +kernel
theorem dX5_highestLine_21 : decode cX5_highestLine 21 = .ok (.if_icmp .eq 10, 3) := by decide +kernel
theorem dX5_highestLine_24 : decode cX5_highestLine 24 = .ok (.iload_n 3, 1) := by decide +kernel
theorem dX5_highestLine_25 : decode cX5_highestLine 25 = .ok (.iload_n 1, 1) := by decide +kernel
theorem dX5_highestLine_26 : decode cX5_highestLine 26 = .ok (.if_icmp .le 5, 3) := by decide +kernel
theorem dX5_highestLine_29 : decode cX5_highestLine 29 = .ok (.iload_n 3, 1) := by decide +kernel
theorem dX5_highestLine_30 : decode cX5_highestLine 30 = .ok (.istore_n 1, 1) := by decide +kernel
theorem dX5_highestLine_31 : decode cX5_highestLine 31 = .ok (.iinc 2 1, 3) := by decide +kernel
theorem dX5_highestLine_34 : decode cX5_highestLine 34 = .ok (.goto (-30), 3) := by decide +kernel
theorem dX5_highestLine_37 : decode cX5_highestLine 37 = .ok (.iload_n 1, 1) := by decide +kernel
theorem dX5_highestLine_38 : decode cX5_highestLine 38 = .ok (.ireturn, 1) := by decide +kernel
theorem dX6_init_0 : decode cX6_init 0 = .ok (.aload_n 0, 1) := by decide +kernel
theorem dX6_init_1 : decode cX6_init 1 = .ok (.invokespecial 1, 3) := by decide +kernel
theorem dX6_init_4 : decode cX6_init 4 = .ok (.aload_n 0, 1) := by decide +kernel
theorem dX6_init_5 : decode cX6_init 5 = .ok (.bipush 6, 2) := by decide +kernel
theorem dX6_init_7 : decode cX6_init 7 = .ok (.anewarray 9, 3) := by decide +kernel
theorem dX6_init_10 : decode cX6_init 10 = .ok (.putfield 11, 3) := by decide +kernel
theorem dX6_init_13 : decode cX6_init 13 = .ok (.aload_n 0, 1) := by decide +kernel
theorem dX6_init_14 : decode cX6_init 14 = .ok (.new 9, 3) := by decide +kernel
theorem dX6_init_17 : decode cX6_init 17 = .ok (.dup, 1) := by decide +kernel
theorem dX6_init_18 : decode cX6_init 18 = .ok (.invokespecial 15, 3) := by decide +kernel
theorem dX6_init_21 : decode cX6_init 21 = .ok (.putfield 16, 3) := by decide +kernel
theorem dX6_init_24 : decode cX6_init 24 = .ok (.aload_n 0, 1) := by decide +kernel
theorem dX6_init_25 : decode cX6_init 25 = .ok (.new 20, 3) := by decide +kernel
theorem dX6_init_28 : decode cX6_init 28 = .ok (.dup, 1) := by decide +kernel
theorem dX6_init_29 : decode cX6_init 29 = .ok (.invokespecial 22, 3) := by decide +kernel
theorem dX6_init_32 : decode cX6_init 32 = .ok (.putfield 23, 3) := by decide +kernel
theorem dX6_init_35 : decode cX6_init 35 = .ok (.aload_n 0, 1) := by decide +kernel
theorem dX6_init_36 : decode cX6_init 36 = .ok (.new 27, 3) := by decide +kernel
theorem dX6_init_39 : decode cX6_init 39 = .ok (.dup, 1) := by decide +kernel
theorem dX6_init_40 : decode cX6_init 40 = .ok (.invokespecial 29, 3) := by decide +kernel
theorem dX6_init_43 : decode cX6_init 43 = .ok (.putfield 30, 3) := by decide +kernel
theorem dX6_init_46 : decode cX6_init 46 = .ok (.aload_n 0, 1) := by decide +kernel
theorem dX6_init_47 : decode cX6_init 47 = .ok (.new 34, 3) := by decide +kernel
theorem dX6_init_50 : decode cX6_init 50 = .ok (.dup, 1) := by decide +kernel
theorem dX6_init_51 : decode cX6_init 51 = .ok (.invokespecial 36, 3) := by decide +kernel
theorem dX6_init_54 : decode cX6_init 54 = .ok (.putfield 37, 3) := by decide +kernel
theorem dX6_init_57 : decode cX6_init 57 = .ok (.aload_n 0, 1) := by decide +kernel
theorem dX6_init_58 : decode cX6_init 58 = .ok (.new 41, 3) := by decide +kernel
theorem dX6_init_61 : decode cX6_init 61 = .ok (.dup, 1) := by decide +kernel
theorem dX6_init_62 : decode cX6_init 62 = .ok (.invokespecial 43, 3) := by decide +kernel
theorem dX6_init_65 : decode cX6_init 65 = .ok (.putfield 44, 3) := by decide +kernel
theorem dX6_init_68 : decode cX6_init 68 = .ok (.aload_n 0, 1) := by decide +kernel
theorem dX6_init_69 : decode cX6_init 69 = .ok (.new 48, 3) := by decide +kernel
theorem dX6_init_72 : decode cX6_init 72 = .ok (.dup, 1) := by decide +kernel
theorem dX6_init_73 : decode cX6_init 73 = .ok (.invokespecial 50, 3) := by decide +kernel
theorem dX6_init_76 : decode cX6_init 76 = .ok (.putfield 51, 3) := by decide +kernel
theorem dX6_init_79 : decode cX6_init 79 = .ok (.aload_n 0, 1) := by decide +kernel
theorem dX6_init_80 : decode cX6_init 80 = .ok (.bipush 8, 2) := by decide +kernel
theorem dX6_init_82 : decode cX6_init 82 = .ok (.newarray .long, 2) := by decide +kernel
theorem dX6_init_84 : decode cX6_init 84 = .ok (.putfield 55, 3) := by decide +kernel
theorem dX6_init_87 : decode cX6_init 87 = .ok (.iconst 0, 1) := by decide +kernel
theorem dX6_init_88 : decode cX6_init 88 = .ok (.istore_n 1, 1) := by decide +kernel
theorem dX6_init_89 : decode cX6_init 89 = .ok (.iload_n 1, 1) := by decide +kernel
theorem dX6_init_90 : decode cX6_init 90 = .ok (.bipush 6, 2) := by decide +kernel
theorem dX6_init_92 : decode cX6_init 92 = .ok (.if_icmp .ge 22, 3) := by decide +kernel
theorem dX6_init_95 : decode cX6_init 95 = .ok (.aload_n 0, 1) := by decide +kernel
theorem dX6_init_96 : decode cX6_init 96 = .ok (.getfield 11, 3) := by decide +kernel
theorem dX6_init_99 : decode cX6_init 99 = .ok (.iload_n 1, 1) := by decide +kernel
theorem dX6_init_100 : decode cX6_init 100 = .ok (.new 9, 3) := by decide +kernel
theorem dX6_init_103 : decode cX6_init 103 = .ok (.dup, 1) := by decide +kernel
theorem dX6_init_104 : decode cX6_init 104 = .ok (.invokespecial 15, 3) := by decide +kernel
theorem dX6_init_107 : decode cX6_init 107 = .ok (.aastore, 1) := by decide +kernel
theorem dX6_init_108 : decode cX6_init 108 = .ok (.iinc 1 1, 3) := by decide +kernel
theorem dX6_init_111 : decode cX6_init 111 = .ok (.goto (-22), 3) := by decide +kernel
theorem dX6_init_114 : decode cX6_init 114 = .ok (.return_, 1) := by decide +kernel
theorem dX6_row_0 : decode cX6_row 0 = .ok (.aload_n 0, 1) := by decide +kernel
theorem dX6_row_1 : decode cX6_row 1 = .ok (.iload_n 1, 1) := by decide +kernel
theorem dX6_row_2 : decode cX6_row 2 = .ok (.invokevirtual 59, 3) := by decide +kernel
theorem dX6_row_5 : decode cX6_row 5 = .ok (.astore 6, 2) := by decide +kernel
theorem dX6_row_7 : decode cX6_row 7 = .ok (.aload 6, 2) := by decide +kernel
theorem dX6_row_9 : decode cX6_row 9 = .ok (.ifnull 33, 3) := by decide +kernel
theorem dX6_row_12 : decode cX6_row 12 = .ok (.iload_n 2, 1) := by decide +kernel
theorem dX6_row_13 : decode cX6_row 13 = .ok (.iconst 1, 1) := by decide +kernel
theorem dX6_row_14 : decode cX6_row 14 = .ok (.bipush 12, 2) := by decide +kernel
theorem dX6_row_16 : decode cX6_row 16 = .ok (.invokestatic 63, 3) := by decide +kernel
theorem dX6_row_19 : decode cX6_row 19 = .ok (.ifCond .eq 23, 3) := by decide +kernel
theorem dX6_row_22 : decode cX6_row 22 = .ok (.iload_n 3, 1) := by decide +kernel
theorem dX6_row_23 : decode cX6_row 23 = .ok (.iconst 1, 1) := by decide +kernel
theorem dX6_row_24 : decode cX6_row 24 = .ok (.bipush 12, 2) := by decide +kernel
theorem dX6_row_26 : decode cX6_row 26 = .ok (.invokestatic 63, 3) := by decide +kernel
theorem dX6_row_29 : decode cX6_row 29 = .ok (.ifCond .eq 13, 3) := by decide +kernel
theorem dX6_row_32 : decode cX6_row 32 = .ok (.iload_n 2, 1) := by decide +kernel
theorem dX6_row_33 : decode cX6_row 33 = .ok (.iload_n 3, 1) := by decide +kernel
theorem dX6_row_34 : decode cX6_row 34 = .ok (.lload 4, 2) := by decide +kernel
theorem dX6_row_36 : decode cX6_row 36 = .ok (.invokestatic 67, 3) := by decide +kernel
theorem dX6_row_39 : decode cX6_row 39 = .ok (.ifCond .ne 5, 3) := by decide +kernel
theorem dX6_row_42 : decode cX6_row 42 = .ok (.iconst (-1), 1) := by decide +kernel
theorem dX6_row_43 : decode cX6_row 43 = .ok (.ireturn, 1) := by decide +kernel
theorem dX6_row_44 : decode cX6_row 44 = .ok (.aload 6, 2) := by decide +kernel
theorem dX6_row_46 : decode cX6_row 46 = .ok (.invokevirtual 71, 3) := by decide +kernel
theorem dX6_row_49 : decode cX6_row 49 = .ok (.istore 7, 2) := by decide +kernel
theorem dX6_row_51 : decode cX6_row 51 = .ok (.aload 6, 2) := by decide +kernel
theorem dX6_row_53 : decode cX6_row 53 = .ok (.iload_n 2, 1) := by decide +kernel
theorem dX6_row_54 : decode cX6_row 54 = .ok (.iload_n 3, 1) := by decide +kernel
theorem dX6_row_55 : decode cX6_row 55 = .ok (.invokevirtual 75, 3) := by decide +kernel
theorem dX6_row_58 : decode cX6_row 58 = .ok (.iconst 0, 1) := by decide +kernel
theorem dX6_row_59 : decode cX6_row 59 = .ok (.istore 8, 2) := by decide +kernel
theorem dX6_row_61 : decode cX6_row 61 = .ok (.iload 8, 2) := by decide +kernel
theorem dX6_row_63 : decode cX6_row 63 = .ok (.iload_n 2, 1) := by decide +kernel
theorem dX6_row_64 : decode cX6_row 64 = .ok (.if_icmp .ge 27, 3) := by decide +kernel
theorem dX6_row_67 : decode cX6_row 67 = .ok (.aload 6, 2) := by decide +kernel
theorem dX6_row_69 : decode cX6_row 69 = .ok (.iload 8, 2) := by decide +kernel
theorem dX6_row_71 : decode cX6_row 71 = .ok (.lload 4, 2) := by decide +kernel
theorem dX6_row_73 : decode cX6_row 73 = .ok (.iload_n 2, 1) := by decide +kernel
theorem dX6_row_74 : decode cX6_row 74 = .ok (.iconst 1, 1) := by decide +kernel
theorem dX6_row_75 : decode cX6_row 75 = .ok (.isub, 1) := by decide +kernel
theorem dX6_row_76 : decode cX6_row 76 = .ok (.iload 8, 2) := by decide +kernel
theorem dX6_row_78 : decode cX6_row 78 = .ok (.isub, 1) := by decide +kernel
theorem dX6_row_79 : decode cX6_row 79 = .ok (.invokestatic 79, 3) := by decide +kernel
theorem dX6_row_82 : decode cX6_row 82 = .ok (.invokevirtual 83, 3) := by decide +kernel
theorem dX6_row_85 : decode cX6_row 85 = .ok (.iinc 8 1, 3) := by decide +kernel
theorem dX6_row_88 : decode cX6_row 88 = .ok (.goto (-27), 3) := by decide +kernel
theorem dX6_row_91 : decode cX6_row 91 = .ok (.iload 7, 2) := by decide +kernel
theorem dX6_row_93 : decode cX6_row 93 = .ok (.ireturn, 1) := by decide +kernel
theorem dX6_write_0 : decode cX6_write 0 = .ok (.iload_n 1, 1) := by decide +kernel
theorem dX6_write_1 : decode cX6_write 1 = .ok (.iconst 1, 1) := by decide +kernel
theorem dX6_write_2 : decode cX6_write 2 = .ok (.bipush 8, 2) := by decide +kernel
theorem dX6_write_4 : decode cX6_write 4 = .ok (.invokestatic 63, 3) := by decide +kernel
theorem dX6_write_7 : decode cX6_write 7 = .ok (.ifCond .ne 5, 3) := by decide +kernel
theorem dX6_write_10 : decode cX6_write 10 = .ok (.iconst (-1), 1) := by decide +kernel
theorem dX6_write_11 : decode cX6_write 11 = .ok (.ireturn, 1) := by decide +kernel
theorem dX6_write_12 : decode cX6_write 12 = .ok (.aload_n 0, 1) := by decide +kernel
theorem dX6_write_13 : decode cX6_write 13 = .ok (.getfield 23, 3) := by decide +kernel
theorem dX6_write_16 : decode cX6_write 16 = .ok (.iload_n 1, 1) := by decide +kernel
theorem dX6_write_17 : decode cX6_write 17 = .ok (.invokevirtual 86, 3) := by decide +kernel
theorem dX6_write_20 : decode cX6_write 20 = .ok (.ifCond .ne 6, 3) := by decide +kernel
theorem dX6_write_23 : decode cX6_write 23 = .ok (.bipush (-3), 2) := by decide +kernel
theorem dX6_write_25 : decode cX6_write 25 = .ok (.ireturn, 1) := by decide +kernel
theorem dX6_write_26 : decode cX6_write 26 = .ok (.iload_n 1, 1) := by decide +kernel
theorem dX6_write_27 : decode cX6_write 27 = .ok (.iconst 1, 1) := by decide +kernel
theorem dX6_write_28 : decode cX6_write 28 = .ok (.isub, 1) := by decide +kernel
theorem dX6_write_29 : decode cX6_write 29 = .ok (.istore 4, 2) := by decide +kernel
theorem dX6_write_31 : decode cX6_write 31 = .ok (.iload 4, 2) := by decide +kernel
theorem dX6_write_33 : decode cX6_write 33 = .ok (.ifCond .lt 28, 3) := by decide +kernel
theorem dX6_write_36 : decode cX6_write 36 = .ok (.aload_n 0, 1) := by decide +kernel
theorem dX6_write_37 : decode cX6_write 37 = .ok (.getfield 23, 3) := by decide +kernel
theorem dX6_write_40 : decode cX6_write 40 = .ok (.lload_n 2, 1) := by decide +kernel
theorem dX6_write_41 : decode cX6_write 41 = .ok (.bipush 8, 2) := by decide +kernel
theorem dX6_write_43 : decode cX6_write 43 = .ok (.iload 4, 2) := by decide +kernel
theorem dX6_write_45 : decode cX6_write 45 = .ok (.imul, 1) := by decide +kernel
theorem dX6_write_46 : decode cX6_write 46 = .ok (.lushr, 1) := by decide +kernel
theorem dX6_write_47 : decode cX6_write 47 = .ok (.l2i, 1) := by decide +kernel
theorem dX6_write_48 : decode cX6_write 48 = .ok (.sipush 255, 3) := by decide +kernel
theorem dX6_write_51 : decode cX6_write 51 = .ok (.iand, 1) := by decide +kernel
theorem dX6_write_52 : decode cX6_write 52 = .ok (.invokevirtual 90, 3) := by decide +kernel
theorem dX6_write_55 : decode cX6_write 55 = .ok (.iinc 4 (-1), 3) := by decide +kernel
theorem dX6_write_58 : decode cX6_write 58 = .ok (.goto (-27), 3) := by decide +kernel
theorem dX6_write_61 : decode cX6_write 61 = .ok (.aload_n 0, 1) := by decide +kernel
theorem dX6_write_62 : decode cX6_write 62 = .ok (.getfield 23, 3) := by decide +kernel
theorem dX6_write_65 : decode cX6_write 65 = .ok (.invokevirtual 94, 3) := by decide +kernel
theorem dX6_write_68 : decode cX6_write 68 = .ok (.ireturn, 1) := by decide +kernel
theorem dX6_wipe_0 : decode cX6_wipe 0 = .ok (.aload_n 0, 1) := by decide +kernel
theorem dX6_wipe_1 : decode cX6_wipe 1 = .ok (.getfield 23, 3) := by decide +kernel
theorem dX6_wipe_4 : decode cX6_wipe 4 = .ok (.invokevirtual 94, 3) := by decide +kernel
theorem dX6_wipe_7 : decode cX6_wipe 7 = .ok (.istore_n 1, 1) := by decide +kernel
theorem dX6_wipe_8 : decode cX6_wipe 8 = .ok (.aload_n 0, 1) := by decide +kernel
theorem dX6_wipe_9 : decode cX6_wipe 9 = .ok (.getfield 23, 3) := by decide +kernel
theorem dX6_wipe_12 : decode cX6_wipe 12 = .ok (.invokevirtual 97, 3) := by decide +kernel
theorem dX6_wipe_15 : decode cX6_wipe 15 = .ok (.iload_n 1, 1) := by decide +kernel
theorem dX6_wipe_16 : decode cX6_wipe 16 = .ok (.ireturn, 1) := by decide +kernel
theorem dX6_fault_0 : decode cX6_fault 0 = .ok (.aload_n 0, 1) := by decide +kernel
theorem dX6_fault_1 : decode cX6_fault 1 = .ok (.getfield 23, 3) := by decide +kernel
theorem dX6_fault_4 : decode cX6_fault 4 = .ok (.invokevirtual 100, 3) := by decide +kernel
theorem dX6_fault_7 : decode cX6_fault 7 = .ok (.ireturn, 1) := by decide +kernel
theorem dX6_lay_0 : decode cX6_lay 0 = .ok (.iload_n 1, 1) := by decide +kernel
theorem dX6_lay_1 : decode cX6_lay 1 = .ok (.iconst 1, 1) := by decide +kernel
theorem dX6_lay_2 : decode cX6_lay 2 = .ok (.bipush 12, 2) := by decide +kernel
theorem dX6_lay_4 : decode cX6_lay 4 = .ok (.invokestatic 63, 3) := by decide +kernel
theorem dX6_lay_7 : decode cX6_lay 7 = .ok (.ifCond .ne 5, 3) := by decide +kernel
theorem dX6_lay_10 : decode cX6_lay 10 = .ok (.iconst (-1), 1) := by decide +kernel
theorem dX6_lay_11 : decode cX6_lay 11 = .ok (.ireturn, 1) := by decide +kernel
theorem dX6_lay_12 : decode cX6_lay 12 = .ok (.aload_n 0, 1) := by decide +kernel
theorem dX6_lay_13 : decode cX6_lay 13 = .ok (.getfield 23, 3) := by decide +kernel
theorem dX6_lay_16 : decode cX6_lay 16 = .ok (.invokevirtual 100, 3) := by decide +kernel
theorem dX6_lay_19 : decode cX6_lay 19 = .ok (.bipush (-4), 2) := by decide +kernel
theorem dX6_lay_21 : decode cX6_lay 21 = .ok (.if_icmp .ne 14, 3) := by decide +kernel
theorem dX6_lay_24 : decode cX6_lay 24 = .ok (.aload_n 0, 1) := by decide +kernel
theorem dX6_lay_25 : decode cX6_lay 25 = .ok (.getfield 23, 3) := by decide +kernel
theorem dX6_lay_28 : decode cX6_lay 28 = .ok (.invokevirtual 103, 3) := by decide +kernel
theorem dX6_lay_31 : decode cX6_lay 31 = .ok (.iload_n 1, 1) := by decide +kernel
theorem dX6_lay_32 : decode cX6_lay 32 = .ok (.if_icmp .lt 6, 3) := by decide +kernel
theorem dX6_lay_35 : decode cX6_lay 35 = .ok (.bipush (-2), 2) := by decide +kernel
theorem dX6_lay_37 : decode cX6_lay 37 = .ok (.ireturn, 1) := by decide +kernel
theorem dX6_lay_38 : decode cX6_lay 38 = .ok (.iconst 0, 1) := by decide +kernel
theorem dX6_lay_39 : decode cX6_lay 39 = .ok (.istore_n 2, 1) := by decide +kernel
theorem dX6_lay_40 : decode cX6_lay 40 = .ok (.iconst 0, 1) := by decide +kernel
theorem dX6_lay_41 : decode cX6_lay 41 = .ok (.istore_n 3, 1) := by decide +kernel
theorem dX6_lay_42 : decode cX6_lay 42 = .ok (.iconst 0, 1) := by decide +kernel
theorem dX6_lay_43 : decode cX6_lay 43 = .ok (.istore 4, 2) := by decide +kernel
theorem dX6_lay_45 : decode cX6_lay 45 = .ok (.iload 4, 2) := by decide +kernel
theorem dX6_lay_47 : decode cX6_lay 47 = .ok (.aload_n 0, 1) := by decide +kernel
theorem dX6_lay_48 : decode cX6_lay 48 = .ok (.getfield 23, 3) := by decide +kernel
theorem dX6_lay_51 : decode cX6_lay 51 = .ok (.invokevirtual 94, 3) := by decide +kernel
theorem dX6_lay_54 : decode cX6_lay 54 = .ok (.if_icmp .ge 38, 3) := by decide +kernel
theorem dX6_lay_57 : decode cX6_lay 57 = .ok (.aload_n 0, 1) := by decide +kernel
theorem dX6_lay_58 : decode cX6_lay 58 = .ok (.getfield 23, 3) := by decide +kernel
theorem dX6_lay_61 : decode cX6_lay 61 = .ok (.iload 4, 2) := by decide +kernel
theorem dX6_lay_63 : decode cX6_lay 63 = .ok (.invokevirtual 106, 3) := by decide +kernel
theorem dX6_lay_66 : decode cX6_lay 66 = .ok (.ifCond .eq 20, 3) := by decide +kernel
theorem dX6_lay_69 : decode cX6_lay 69 = .ok (.aload_n 0, 1) := by decide +kernel
theorem dX6_lay_70 : decode cX6_lay 70 = .ok (.iload_n 3, 1) := by decide +kernel
theorem dX6_lay_71 : decode cX6_lay 71 = .ok (.iload_n 1, 1) := by decide +kernel
theorem dX6_lay_72 : decode cX6_lay 72 = .ok (.iload_n 2, 1) := by decide +kernel
theorem dX6_lay_73 : decode cX6_lay 73 = .ok (.iload 4, 2) := by decide +kernel
theorem dX6_lay_75 : decode cX6_lay 75 = .ok (.invokevirtual 109, 3) := by decide +kernel
theorem dX6_lay_78 : decode cX6_lay 78 = .ok (.iinc 3 1, 3) := by decide +kernel
theorem dX6_lay_81 : decode cX6_lay 81 = .ok (.iload 4, 2) := by decide +kernel
theorem dX6_lay_83 : decode cX6_lay 83 = .ok (.iconst 1, 1) := by decide +kernel
theorem dX6_lay_84 : decode cX6_lay 84 = .ok (.iadd, 1) := by decide +kernel
theorem dX6_lay_85 : decode cX6_lay 85 = .ok (.istore_n 2, 1) := by decide +kernel
theorem dX6_lay_86 : decode cX6_lay 86 = .ok (.iinc 4 1, 3) := by decide +kernel
theorem dX6_lay_89 : decode cX6_lay 89 = .ok (.goto (-44), 3) := by decide +kernel
theorem dX6_lay_92 : decode cX6_lay 92 = .ok (.iload_n 3, 1) := by decide +kernel
theorem dX6_lay_93 : decode cX6_lay 93 = .ok (.ireturn, 1) := by decide +kernel
theorem dX6_told_0 : decode cX6_told 0 = .ok (.aload_n 0, 1) := by decide +kernel
theorem dX6_told_1 : decode cX6_told 1 = .ok (.iload_n 1, 1) := by decide +kernel
theorem dX6_told_2 : decode cX6_told 2 = .ok (.invokevirtual 59, 3) := by decide +kernel
theorem dX6_told_5 : decode cX6_told 5 = .ok (.astore_n 3, 1) := by decide +kernel
theorem dX6_told_6 : decode cX6_told 6 = .ok (.aload_n 3, 1) := by decide +kernel
theorem dX6_told_7 : decode cX6_told 7 = .ok (.ifnull 13, 3) := by decide +kernel
theorem dX6_told_10 : decode cX6_told 10 = .ok (.iload_n 2, 1) := by decide +kernel
theorem dX6_told_11 : decode cX6_told 11 = .ok (.iconst 0, 1) := by decide +kernel
theorem dX6_told_12 : decode cX6_told 12 = .ok (.bipush 13, 2) := by decide +kernel
theorem dX6_told_14 : decode cX6_told 14 = .ok (.invokestatic 63, 3) := by decide +kernel
theorem dX6_told_17 : decode cX6_told 17 = .ok (.ifCond .ne 5, 3) := by decide +kernel
theorem dX6_told_20 : decode cX6_told 20 = .ok (.iconst (-1), 1) := by decide +kernel
theorem dX6_told_21 : decode cX6_told 21 = .ok (.ireturn, 1) := by decide +kernel
theorem dX6_told_22 : decode cX6_told 22 = .ok (.iload_n 2, 1) := by decide +kernel
theorem dX6_told_23 : decode cX6_told 23 = .ok (.ifCond .ne 8, 3) := by decide +kernel
theorem dX6_told_26 : decode cX6_told 26 = .ok (.aload_n 3, 1) := by decide +kernel
theorem dX6_told_27 : decode cX6_told 27 = .ok (.invokevirtual 71, 3) := by decide +kernel
theorem dX6_told_30 : decode cX6_told 30 = .ok (.ireturn, 1) := by decide +kernel
theorem dX6_told_31 : decode cX6_told 31 = .ok (.iload_n 2, 1) := by decide +kernel
theorem dX6_told_32 : decode cX6_told 32 = .ok (.iconst 1, 1) := by decide +kernel
theorem dX6_told_33 : decode cX6_told 33 = .ok (.if_icmp .ne 8, 3) := by decide +kernel
theorem dX6_told_36 : decode cX6_told 36 = .ok (.aload_n 3, 1) := by decide +kernel
theorem dX6_told_37 : decode cX6_told 37 = .ok (.invokevirtual 113, 3) := by decide +kernel
theorem dX6_told_40 : decode cX6_told 40 = .ok (.ireturn, 1) := by decide +kernel
theorem dX6_told_41 : decode cX6_told 41 = .ok (.iload_n 2, 1) := by decide +kernel
theorem dX6_told_42 : decode cX6_told 42 = .ok (.iconst 2, 1) := by decide +kernel
theorem dX6_told_43 : decode cX6_told 43 = .ok (.isub, 1) := by decide +kernel
theorem dX6_told_44 : decode cX6_told 44 = .ok (.istore 4, 2) := by decide +kernel
theorem dX6_told_46 : decode cX6_told 46 = .ok (.aload_n 3, 1) := by decide +kernel
theorem dX6_told_47 : decode cX6_told 47 = .ok (.iload 4, 2) := by decide +kernel
theorem dX6_told_49 : decode cX6_told 49 = .ok (.invokevirtual 116, 3) := by decide +kernel
theorem dX6_told_52 : decode cX6_told 52 = .ok (.ifCond .eq 12, 3) := by decide +kernel
theorem dX6_told_55 : decode cX6_told 55 = .ok (.aload_n 3, 1) := by decide +kernel
theorem dX6_told_56 : decode cX6_told 56 = .ok (.iload 4, 2) := by decide +kernel
theorem dX6_told_58 : decode cX6_told 58 = .ok (.invokevirtual 119, 3) := by decide +kernel
theorem dX6_told_61 : decode cX6_told 61 = .ok (.goto 5, 3) := by decide +kernel
theorem dX6_told_64 : decode cX6_told 64 = .ok (.bipush (-4), 2) := by decide +kernel
theorem dX6_told_66 : decode cX6_told 66 = .ok (.ireturn, 1) := by decide +kernel
theorem dX6_marks_0 : decode cX6_marks 0 = .ok (.aload_n 0, 1) := by decide +kernel
theorem dX6_marks_1 : decode cX6_marks 1 = .ok (.iload_n 1, 1) := by decide +kernel
theorem dX6_marks_2 : decode cX6_marks 2 = .ok (.invokevirtual 59, 3) := by decide +kernel
theorem dX6_marks_5 : decode cX6_marks 5 = .ok (.astore_n 2, 1) := by decide +kernel
theorem dX6_marks_6 : decode cX6_marks 6 = .ok (.aload_n 2, 1) := by decide +kernel
theorem dX6_marks_7 : decode cX6_marks 7 = .ok (.ifnonnull 9, 3) := by decide +kernel
theorem dX6_marks_10 : decode cX6_marks 10 = .ok (.ldc2_w 123, 3) := by decide +kernel
theorem dX6_marks_13 : decode cX6_marks 13 = .ok (.goto 7, 3) := by decide +kernel
theorem dX6_marks_16 : decode cX6_marks 16 = .ok (.aload_n 2, 1) := by decide +kernel
theorem dX6_marks_17 : decode cX6_marks 17 = .ok (.invokevirtual 125, 3) := by decide +kernel
theorem dX6_marks_20 : decode cX6_marks 20 = .ok (.lreturn, 1) := by decide +kernel
theorem dX6_difference_0 : decode cX6_difference 0 = .ok (.aload_n 0, 1) := by decide +kernel
theorem dX6_difference_1 : decode cX6_difference 1 = .ok (.iload_n 1, 1) := by decide +kernel
theorem dX6_difference_2 : decode cX6_difference 2 = .ok (.invokevirtual 59, 3) := by decide +kernel
theorem dX6_difference_5 : decode cX6_difference 5 = .ok (.astore 5, 2) := by decide +kernel
theorem dX6_difference_7 : decode cX6_difference 7 = .ok (.aload 5, 2) := by decide +kernel
theorem dX6_difference_9 : decode cX6_difference 9 = .ok (.ifnull 31, 3) := by decide +kernel
theorem dX6_difference_12 : decode cX6_difference 12 = .ok (.iload_n 2, 1) := by decide +kernel
theorem dX6_difference_13 : decode cX6_difference 13 = .ok (.iconst 0, 1) := by decide +kernel
theorem dX6_difference_14 : decode cX6_difference 14 = .ok (.bipush 11, 2) := by decide +kernel
theorem dX6_difference_16 : decode cX6_difference 16 = .ok (.invokestatic 63, 3) := by decide +kernel
theorem dX6_difference_19 : decode cX6_difference 19 = .ok (.ifCond .eq 21, 3) := by decide +kernel
theorem dX6_difference_22 : decode cX6_difference 22 = .ok (.iload_n 3, 1) := by decide +kernel
theorem dX6_difference_23 : decode cX6_difference 23 = .ok (.iconst 1, 1) := by decide +kernel
theorem dX6_difference_24 : decode cX6_difference 24 = .ok (.bipush 11, 2) := by decide +kernel
theorem dX6_difference_26 : decode cX6_difference 26 = .ok (.invokestatic 63, 3) := by decide +kernel
theorem dX6_difference_29 : decode cX6_difference 29 = .ok (.ifCond .eq 11, 3) := by decide +kernel
theorem dX6_difference_32 : decode cX6_difference 32 = .ok (.iload 4, 2) := by decide +kernel
theorem dX6_difference_34 : decode cX6_difference 34 = .ok (.invokestatic 129, 3) := by decide +kernel
theorem dX6_difference_37 : decode cX6_difference 37 = .ok (.ifCond .ne 6, 3) := by decide +kernel
theorem dX6_difference_40 : decode cX6_difference 40 = .ok (.bipush (-100), 2) := by decide +kernel
theorem dX6_difference_42 : decode cX6_difference 42 = .ok (.ireturn, 1) := by decide +kernel
theorem dX6_difference_43 : decode cX6_difference 43 = .ok (.aload 5, 2) := by decide +kernel
theorem dX6_difference_45 : decode cX6_difference 45 = .ok (.iload_n 2, 1) := by decide +kernel
theorem dX6_difference_46 : decode cX6_difference 46 = .ok (.invokevirtual 116, 3) := by decide +kernel
theorem dX6_difference_49 : decode cX6_difference 49 = .ok (.ifCond .eq 28, 3) := by decide +kernel
theorem dX6_difference_52 : decode cX6_difference 52 = .ok (.aload 5, 2) := by decide +kernel
theorem dX6_difference_54 : decode cX6_difference 54 = .ok (.iload_n 2, 1) := by decide +kernel
theorem dX6_difference_55 : decode cX6_difference 55 = .ok (.iload_n 3, 1) := by decide +kernel
theorem dX6_difference_56 : decode cX6_difference 56 = .ok (.iadd, 1) := by decide +kernel
theorem dX6_difference_57 : decode cX6_difference 57 = .ok (.invokevirtual 116, 3) := by decide +kernel
theorem dX6_difference_60 : decode cX6_difference 60 = .ok (.ifCond .eq 17, 3) := by decide +kernel
theorem dX6_difference_63 : decode cX6_difference 63 = .ok (.aload 5, 2) := by decide +kernel
theorem dX6_difference_65 : decode cX6_difference 65 = .ok (.iload_n 2, 1) := by decide +kernel
theorem dX6_difference_66 : decode cX6_difference 66 = .ok (.iload_n 2, 1) := by decide +kernel
theorem dX6_difference_67 : decode cX6_difference 67 = .ok (.iload_n 3, 1) := by decide +kernel
theorem dX6_difference_68 : decode cX6_difference 68 = .ok (.iadd, 1) := by decide +kernel
theorem dX6_difference_69 : decode cX6_difference 69 = .ok (.iload 4, 2) := by decide +kernel
theorem dX6_difference_71 : decode cX6_difference 71 = .ok (.invokevirtual 132, 3) := by decide +kernel
theorem dX6_difference_74 : decode cX6_difference 74 = .ok (.goto 5, 3) := by decide +kernel
theorem dX6_difference_77 : decode cX6_difference 77 = .ok (.bipush (-50), 2) := by decide +kernel
theorem dX6_difference_79 : decode cX6_difference 79 = .ok (.ireturn, 1) := by decide +kernel
theorem dX6_quarrels_0 : decode cX6_quarrels 0 = .ok (.aload_n 0, 1) := by decide +kernel
theorem dX6_quarrels_1 : decode cX6_quarrels 1 = .ok (.iload_n 1, 1) := by decide +kernel
theorem dX6_quarrels_2 : decode cX6_quarrels 2 = .ok (.invokevirtual 59, 3) := by decide +kernel
theorem dX6_quarrels_5 : decode cX6_quarrels 5 = .ok (.astore 4, 2) := by decide +kernel
theorem dX6_quarrels_7 : decode cX6_quarrels 7 = .ok (.aload 4, 2) := by decide +kernel
theorem dX6_quarrels_9 : decode cX6_quarrels 9 = .ok (.ifnull 19, 3) := by decide +kernel
theorem dX6_quarrels_12 : decode cX6_quarrels 12 = .ok (.iload_n 2, 1) := by decide +kernel
theorem dX6_quarrels_13 : decode cX6_quarrels 13 = .ok (.invokestatic 129, 3) := by decide +kernel
theorem dX6_quarrels_16 : decode cX6_quarrels 16 = .ok (.ifCond .eq 12, 3) := by decide +kernel
theorem dX6_quarrels_19 : decode cX6_quarrels 19 = .ok (.iload_n 3, 1) := by decide +kernel
theorem dX6_quarrels_20 : decode cX6_quarrels 20 = .ok (.iconst 0, 1) := by decide +kernel
theorem dX6_quarrels_21 : decode cX6_quarrels 21 = .ok (.iconst 2, 1) := by decide +kernel
theorem dX6_quarrels_22 : decode cX6_quarrels 22 = .ok (.invokestatic 63, 3) := by decide +kernel
theorem dX6_quarrels_25 : decode cX6_quarrels 25 = .ok (.ifCond .ne 5, 3) := by decide +kernel
theorem dX6_quarrels_28 : decode cX6_quarrels 28 = .ok (.iconst (-1), 1) := by decide +kernel
theorem dX6_quarrels_29 : decode cX6_quarrels 29 = .ok (.ireturn, 1) := by decide +kernel
theorem dX6_quarrels_30 : decode cX6_quarrels 30 = .ok (.iload_n 3, 1) := by decide +kernel
theorem dX6_quarrels_31 : decode cX6_quarrels 31 = .ok (.ifCond .ne 10, 3) := by decide +kernel
theorem dX6_quarrels_34 : decode cX6_quarrels 34 = .ok (.aload 4, 2) := by decide +kernel
theorem dX6_quarrels_36 : decode cX6_quarrels 36 = .ok (.iload_n 2, 1) := by decide +kernel
theorem dX6_quarrels_37 : decode cX6_quarrels 37 = .ok (.invokestatic 136, 3) := by decide +kernel
theorem dX6_quarrels_40 : decode cX6_quarrels 40 = .ok (.ireturn, 1) := by decide +kernel
theorem dX6_quarrels_41 : decode cX6_quarrels 41 = .ok (.aload 4, 2) := by decide +kernel
theorem dX6_quarrels_43 : decode cX6_quarrels 43 = .ok (.iload_n 2, 1) := by decide +kernel
theorem dX6_quarrels_44 : decode cX6_quarrels 44 = .ok (.invokestatic 140, 3) := by decide +kernel
theorem dX6_quarrels_47 : decode cX6_quarrels 47 = .ok (.istore 5, 2) := by decide +kernel
theorem dX6_quarrels_49 : decode cX6_quarrels 49 = .ok (.iload_n 3, 1) := by decide +kernel
theorem dX6_quarrels_50 : decode cX6_quarrels 50 = .ok (.iconst 1, 1) := by decide +kernel
theorem dX6_quarrels_51 : decode cX6_quarrels 51 = .ok (.if_icmp .ne 6, 3) := by decide +kernel
theorem dX6_quarrels_54 : decode cX6_quarrels 54 = .ok (.iload 5, 2) := by decide +kernel
theorem dX6_quarrels_56 : decode cX6_quarrels 56 = .ok (.ireturn, 1) := by decide +kernel
theorem dX6_quarrels_57 : decode cX6_quarrels 57 = .ok (.iload 5, 2) := by decide +kernel
theorem dX6_quarrels_59 : decode cX6_quarrels 59 = .ok (.ifCond .ne 7, 3) := by decide +kernel
theorem dX6_quarrels_62 : decode cX6_quarrels 62 = .ok (.iconst 1, 1) := by decide +kernel
theorem dX6_quarrels_63 : decode cX6_quarrels 63 = .ok (.goto 4, 3) := by decide +kernel
theorem dX6_quarrels_66 : decode cX6_quarrels 66 = .ok (.iconst 0, 1) := by decide +kernel
theorem dX6_quarrels_67 : decode cX6_quarrels 67 = .ok (.ireturn, 1) := by decide +kernel
theorem dX6_hits_0 : decode cX6_hits 0 = .ok (.aload_n 0, 1) := by decide +kernel
theorem dX6_hits_1 : decode cX6_hits 1 = .ok (.iload_n 1, 1) := by decide +kernel
theorem dX6_hits_2 : decode cX6_hits 2 = .ok (.invokevirtual 59, 3) := by decide +kernel
theorem dX6_hits_5 : decode cX6_hits 5 = .ok (.astore 6, 2) := by decide +kernel
theorem dX6_hits_7 : decode cX6_hits 7 = .ok (.aload_n 0, 1) := by decide +kernel
theorem dX6_hits_8 : decode cX6_hits 8 = .ok (.iload_n 2, 1) := by decide +kernel
theorem dX6_hits_9 : decode cX6_hits 9 = .ok (.invokevirtual 59, 3) := by decide +kernel
theorem dX6_hits_12 : decode cX6_hits 12 = .ok (.astore 7, 2) := by decide +kernel
theorem dX6_hits_14 : decode cX6_hits 14 = .ok (.aload 6, 2) := by decide +kernel
theorem dX6_hits_16 : decode cX6_hits 16 = .ok (.ifnull 23, 3) := by decide +kernel
theorem dX6_hits_19 : decode cX6_hits 19 = .ok (.aload 7, 2) := by decide +kernel
theorem dX6_hits_21 : decode cX6_hits 21 = .ok (.ifnull 18, 3) := by decide +kernel
theorem dX6_hits_24 : decode cX6_hits 24 = .ok (.iload_n 3, 1) := by decide +kernel
theorem dX6_hits_25 : decode cX6_hits 25 = .ok (.invokestatic 143, 3) := by decide +kernel
theorem dX6_hits_28 : decode cX6_hits 28 = .ok (.ifCond .eq 11, 3) := by decide +kernel
theorem dX6_hits_31 : decode cX6_hits 31 = .ok (.iload 4, 2) := by decide +kernel
theorem dX6_hits_33 : decode cX6_hits 33 = .ok (.invokestatic 143, 3) := by decide +kernel
theorem dX6_hits_36 : decode cX6_hits 36 = .ok (.ifCond .ne 5, 3) := by decide +kernel
theorem dX6_hits_39 : decode cX6_hits 39 = .ok (.iconst (-1), 1) := by decide +kernel
end
section
theorem dX6_hits_40 : decode cX6_hits 40 = .ok (.ireturn, 1) := by decide +kernel
theorem dX6_hits_41 : decode cX6_hits 41 = .ok (.iload 5, 2) := by decide +kernel
theorem dX6_hits_43 : decode cX6_hits 43 = .ok (.ifCond .eq 16, 3) := by decide +kernel
theorem dX6_hits_46 : decode cX6_hits 46 = .ok (.aload 6, 2) := by decide +kernel
theorem dX6_hits_48 : decode cX6_hits 48 = .ok (.aload 7, 2) := by decide +kernel
theorem dX6_hits_50 : decode cX6_hits 50 = .ok (.iload_n 3, 1) := by decide +kernel
theorem dX6_hits_51 : decode cX6_hits 51 = .ok (.iload 4, 2) := by decide +kernel
theorem dX6_hits_53 : decode cX6_hits 53 = .ok (.invokestatic 146, 3) := by decide +kernel
theorem dX6_hits_56 : decode cX6_hits 56 = .ok (.goto 13, 3) := by decide +kernel
theorem dX6_hits_59 : decode cX6_hits 59 = .ok (.aload 6, 2) := by decide +kernel
theorem dX6_hits_61 : decode cX6_hits 61 = .ok (.aload 7, 2) := by decide +kernel
theorem dX6_hits_63 : decode cX6_hits 63 = .ok (.iload_n 3, 1) := by decide +kernel
theorem dX6_hits_64 : decode cX6_hits 64 = .ok (.iload 4, 2) := by decide +kernel
theorem dX6_hits_66 : decode cX6_hits 66 = .ok (.invokestatic 150, 3) := by decide +kernel
theorem dX6_hits_69 : decode cX6_hits 69 = .ok (.ireturn, 1) := by decide +kernel
theorem dX6_most_0 : decode cX6_most 0 = .ok (.aload_n 0, 1) := by decide +kernel
theorem dX6_most_1 : decode cX6_most 1 = .ok (.iload_n 1, 1) := by decide +kernel
theorem dX6_most_2 : decode cX6_most 2 = .ok (.invokevirtual 59, 3) := by decide +kernel
theorem dX6_most_5 : decode cX6_most 5 = .ok (.astore 4, 2) := by decide +kernel
theorem dX6_most_7 : decode cX6_most 7 = .ok (.aload_n 0, 1) := by decide +kernel
theorem dX6_most_8 : decode cX6_most 8 = .ok (.iload_n 2, 1) := by decide +kernel
theorem dX6_most_9 : decode cX6_most 9 = .ok (.invokevirtual 59, 3) := by decide +kernel
theorem dX6_most_12 : decode cX6_most 12 = .ok (.astore 5, 2) := by decide +kernel
theorem dX6_most_14 : decode cX6_most 14 = .ok (.aload 4, 2) := by decide +kernel
theorem dX6_most_16 : decode cX6_most 16 = .ok (.ifnull 17, 3) := by decide +kernel
theorem dX6_most_19 : decode cX6_most 19 = .ok (.aload 5, 2) := by decide +kernel
theorem dX6_most_21 : decode cX6_most 21 = .ok (.ifnull 12, 3) := by decide +kernel
theorem dX6_most_24 : decode cX6_most 24 = .ok (.iload_n 3, 1) := by decide +kernel
theorem dX6_most_25 : decode cX6_most 25 = .ok (.iconst 0, 1) := by decide +kernel
theorem dX6_most_26 : decode cX6_most 26 = .ok (.iconst 3, 1) := by decide +kernel
theorem dX6_most_27 : decode cX6_most 27 = .ok (.invokestatic 63, 3) := by decide +kernel
theorem dX6_most_30 : decode cX6_most 30 = .ok (.ifCond .ne 6, 3) := by decide +kernel
theorem dX6_most_33 : decode cX6_most 33 = .ok (.bipush (-100), 2) := by decide +kernel
theorem dX6_most_35 : decode cX6_most 35 = .ok (.ireturn, 1) := by decide +kernel
theorem dX6_most_36 : decode cX6_most 36 = .ok (.aload_n 0, 1) := by decide +kernel
theorem dX6_most_37 : decode cX6_most 37 = .ok (.getfield 30, 3) := by decide +kernel
theorem dX6_most_40 : decode cX6_most 40 = .ok (.aload 4, 2) := by decide +kernel
theorem dX6_most_42 : decode cX6_most 42 = .ok (.aload 5, 2) := by decide +kernel
theorem dX6_most_44 : decode cX6_most 44 = .ok (.iload_n 1, 1) := by decide +kernel
theorem dX6_most_45 : decode cX6_most 45 = .ok (.iload_n 2, 1) := by decide +kernel
theorem dX6_most_46 : decode cX6_most 46 = .ok (.if_icmp .ne 7, 3) := by decide +kernel
theorem dX6_most_49 : decode cX6_most 49 = .ok (.iconst 1, 1) := by decide +kernel
theorem dX6_most_50 : decode cX6_most 50 = .ok (.goto 4, 3) := by decide +kernel
theorem dX6_most_53 : decode cX6_most 53 = .ok (.iconst 0, 1) := by decide +kernel
theorem dX6_most_54 : decode cX6_most 54 = .ok (.invokevirtual 153, 3) := by decide +kernel
theorem dX6_most_57 : decode cX6_most 57 = .ok (.iload_n 3, 1) := by decide +kernel
theorem dX6_most_58 : decode cX6_most 58 = .ok (.tableswitch 50 0 2 #[26, 34, 42], 26) := by decide +kernel
theorem dX6_most_84 : decode cX6_most 84 = .ok (.aload_n 0, 1) := by decide +kernel
theorem dX6_most_85 : decode cX6_most 85 = .ok (.getfield 30, 3) := by decide +kernel
theorem dX6_most_88 : decode cX6_most 88 = .ok (.invokevirtual 157, 3) := by decide +kernel
theorem dX6_most_91 : decode cX6_most 91 = .ok (.ireturn, 1) := by decide +kernel
theorem dX6_most_92 : decode cX6_most 92 = .ok (.aload_n 0, 1) := by decide +kernel
theorem dX6_most_93 : decode cX6_most 93 = .ok (.getfield 30, 3) := by decide +kernel
theorem dX6_most_96 : decode cX6_most 96 = .ok (.invokevirtual 160, 3) := by decide +kernel
theorem dX6_most_99 : decode cX6_most 99 = .ok (.ireturn, 1) := by decide +kernel
theorem dX6_most_100 : decode cX6_most 100 = .ok (.aload_n 0, 1) := by decide +kernel
theorem dX6_most_101 : decode cX6_most 101 = .ok (.getfield 30, 3) := by decide +kernel
theorem dX6_most_104 : decode cX6_most 104 = .ok (.invokevirtual 163, 3) := by decide +kernel
theorem dX6_most_107 : decode cX6_most 107 = .ok (.ireturn, 1) := by decide +kernel
theorem dX6_most_108 : decode cX6_most 108 = .ok (.aload_n 0, 1) := by decide +kernel
theorem dX6_most_109 : decode cX6_most 109 = .ok (.getfield 30, 3) := by decide +kernel
theorem dX6_most_112 : decode cX6_most 112 = .ok (.invokevirtual 166, 3) := by decide +kernel
theorem dX6_most_115 : decode cX6_most 115 = .ok (.ireturn, 1) := by decide +kernel
theorem dX6_squares_0 : decode cX6_squares 0 = .ok (.iload_n 1, 1) := by decide +kernel
theorem dX6_squares_1 : decode cX6_squares 1 = .ok (.iconst 1, 1) := by decide +kernel
theorem dX6_squares_2 : decode cX6_squares 2 = .ok (.bipush 8, 2) := by decide +kernel
theorem dX6_squares_4 : decode cX6_squares 4 = .ok (.invokestatic 63, 3) := by decide +kernel
theorem dX6_squares_7 : decode cX6_squares 7 = .ok (.ifCond .eq 16, 3) := by decide +kernel
theorem dX6_squares_10 : decode cX6_squares 10 = .ok (.iload_n 2, 1) := by decide +kernel
theorem dX6_squares_11 : decode cX6_squares 11 = .ok (.iconst (-1), 1) := by decide +kernel
theorem dX6_squares_12 : decode cX6_squares 12 = .ok (.if_icmp .lt 11, 3) := by decide +kernel
theorem dX6_squares_15 : decode cX6_squares 15 = .ok (.aload_n 0, 1) := by decide +kernel
theorem dX6_squares_16 : decode cX6_squares 16 = .ok (.iload_n 3, 1) := by decide +kernel
theorem dX6_squares_17 : decode cX6_squares 17 = .ok (.invokevirtual 59, 3) := by decide +kernel
theorem dX6_squares_20 : decode cX6_squares 20 = .ok (.ifnonnull 5, 3) := by decide +kernel
theorem dX6_squares_23 : decode cX6_squares 23 = .ok (.iconst (-1), 1) := by decide +kernel
theorem dX6_squares_24 : decode cX6_squares 24 = .ok (.ireturn, 1) := by decide +kernel
theorem dX6_squares_25 : decode cX6_squares 25 = .ok (.aload_n 0, 1) := by decide +kernel
theorem dX6_squares_26 : decode cX6_squares 26 = .ok (.getfield 37, 3) := by decide +kernel
theorem dX6_squares_29 : decode cX6_squares 29 = .ok (.iload_n 1, 1) := by decide +kernel
theorem dX6_squares_30 : decode cX6_squares 30 = .ok (.invokevirtual 169, 3) := by decide +kernel
theorem dX6_squares_33 : decode cX6_squares 33 = .ok (.aload_n 0, 1) := by decide +kernel
theorem dX6_squares_34 : decode cX6_squares 34 = .ok (.iload_n 2, 1) := by decide +kernel
theorem dX6_squares_35 : decode cX6_squares 35 = .ok (.iload_n 3, 1) := by decide +kernel
theorem dX6_squares_36 : decode cX6_squares 36 = .ok (.invokevirtual 172, 3) := by decide +kernel
theorem dX6_squares_39 : decode cX6_squares 39 = .ok (.ireturn, 1) := by decide +kernel
theorem dX6_holding_0 : decode cX6_holding 0 = .ok (.aload_n 0, 1) := by decide +kernel
theorem dX6_holding_1 : decode cX6_holding 1 = .ok (.iload_n 1, 1) := by decide +kernel
theorem dX6_holding_2 : decode cX6_holding 2 = .ok (.invokevirtual 59, 3) := by decide +kernel
theorem dX6_holding_5 : decode cX6_holding 5 = .ok (.astore 4, 2) := by decide +kernel
theorem dX6_holding_7 : decode cX6_holding 7 = .ok (.aload 4, 2) := by decide +kernel
theorem dX6_holding_9 : decode cX6_holding 9 = .ok (.ifnull 16, 3) := by decide +kernel
theorem dX6_holding_12 : decode cX6_holding 12 = .ok (.iload_n 2, 1) := by decide +kernel
theorem dX6_holding_13 : decode cX6_holding 13 = .ok (.iconst (-1), 1) := by decide +kernel
theorem dX6_holding_14 : decode cX6_holding 14 = .ok (.if_icmp .lt 11, 3) := by decide +kernel
theorem dX6_holding_17 : decode cX6_holding 17 = .ok (.aload_n 0, 1) := by decide +kernel
theorem dX6_holding_18 : decode cX6_holding 18 = .ok (.iload_n 3, 1) := by decide +kernel
theorem dX6_holding_19 : decode cX6_holding 19 = .ok (.invokevirtual 59, 3) := by decide +kernel
theorem dX6_holding_22 : decode cX6_holding 22 = .ok (.ifnonnull 5, 3) := by decide +kernel
theorem dX6_holding_25 : decode cX6_holding 25 = .ok (.iconst (-1), 1) := by decide +kernel
theorem dX6_holding_26 : decode cX6_holding 26 = .ok (.ireturn, 1) := by decide +kernel
theorem dX6_holding_27 : decode cX6_holding 27 = .ok (.aload 4, 2) := by decide +kernel
theorem dX6_holding_29 : decode cX6_holding 29 = .ok (.invokevirtual 71, 3) := by decide +kernel
theorem dX6_holding_32 : decode cX6_holding 32 = .ok (.bipush 8, 2) := by decide +kernel
theorem dX6_holding_34 : decode cX6_holding 34 = .ok (.if_icmp .gt 16, 3) := by decide +kernel
theorem dX6_holding_37 : decode cX6_holding 37 = .ok (.aload 4, 2) := by decide +kernel
theorem dX6_holding_39 : decode cX6_holding 39 = .ok (.invokevirtual 71, 3) := by decide +kernel
theorem dX6_holding_42 : decode cX6_holding 42 = .ok (.aload 4, 2) := by decide +kernel
theorem dX6_holding_44 : decode cX6_holding 44 = .ok (.invokevirtual 113, 3) := by decide +kernel
theorem dX6_holding_47 : decode cX6_holding 47 = .ok (.if_icmp .eq 6, 3) := by decide +kernel
theorem dX6_holding_50 : decode cX6_holding 50 = .ok (.bipush (-2), 2) := by decide +kernel
theorem dX6_holding_52 : decode cX6_holding 52 = .ok (.ireturn, 1) := by decide +kernel
theorem dX6_holding_53 : decode cX6_holding 53 = .ok (.aload_n 0, 1) := by decide +kernel
theorem dX6_holding_54 : decode cX6_holding 54 = .ok (.getfield 37, 3) := by decide +kernel
theorem dX6_holding_57 : decode cX6_holding 57 = .ok (.aload 4, 2) := by decide +kernel
theorem dX6_holding_59 : decode cX6_holding 59 = .ok (.invokevirtual 71, 3) := by decide +kernel
theorem dX6_holding_62 : decode cX6_holding 62 = .ok (.invokevirtual 169, 3) := by decide +kernel
theorem dX6_holding_65 : decode cX6_holding 65 = .ok (.aload_n 0, 1) := by decide +kernel
theorem dX6_holding_66 : decode cX6_holding 66 = .ok (.getfield 37, 3) := by decide +kernel
theorem dX6_holding_69 : decode cX6_holding 69 = .ok (.aload 4, 2) := by decide +kernel
theorem dX6_holding_71 : decode cX6_holding 71 = .ok (.invokevirtual 176, 3) := by decide +kernel
theorem dX6_holding_74 : decode cX6_holding 74 = .ok (.aload_n 0, 1) := by decide +kernel
theorem dX6_holding_75 : decode cX6_holding 75 = .ok (.iload_n 2, 1) := by decide +kernel
theorem dX6_holding_76 : decode cX6_holding 76 = .ok (.iload_n 3, 1) := by decide +kernel
theorem dX6_holding_77 : decode cX6_holding 77 = .ok (.invokevirtual 172, 3) := by decide +kernel
theorem dX6_holding_80 : decode cX6_holding 80 = .ok (.ireturn, 1) := by decide +kernel
theorem dX6_nearly_0 : decode cX6_nearly 0 = .ok (.iload_n 1, 1) := by decide +kernel
theorem dX6_nearly_1 : decode cX6_nearly 1 = .ok (.iconst 1, 1) := by decide +kernel
theorem dX6_nearly_2 : decode cX6_nearly 2 = .ok (.bipush 6, 2) := by decide +kernel
theorem dX6_nearly_4 : decode cX6_nearly 4 = .ok (.invokestatic 63, 3) := by decide +kernel
theorem dX6_nearly_7 : decode cX6_nearly 7 = .ok (.ifCond .eq 7, 3) := by decide +kernel
theorem dX6_nearly_10 : decode cX6_nearly 10 = .ok (.iload_n 2, 1) := by decide +kernel
theorem dX6_nearly_11 : decode cX6_nearly 11 = .ok (.ifCond .ge 5, 3) := by decide +kernel
theorem dX6_nearly_14 : decode cX6_nearly 14 = .ok (.iconst (-1), 1) := by decide +kernel
theorem dX6_nearly_15 : decode cX6_nearly 15 = .ok (.ireturn, 1) := by decide +kernel
theorem dX6_nearly_16 : decode cX6_nearly 16 = .ok (.aload_n 0, 1) := by decide +kernel
theorem dX6_nearly_17 : decode cX6_nearly 17 = .ok (.getfield 44, 3) := by decide +kernel
theorem dX6_nearly_20 : decode cX6_nearly 20 = .ok (.iload_n 1, 1) := by decide +kernel
theorem dX6_nearly_21 : decode cX6_nearly 21 = .ok (.iload_n 2, 1) := by decide +kernel
theorem dX6_nearly_22 : decode cX6_nearly 22 = .ok (.invokevirtual 180, 3) := by decide +kernel
theorem dX6_nearly_25 : decode cX6_nearly 25 = .ok (.ireturn, 1) := by decide +kernel
theorem dX6_rows_0 : decode cX6_rows 0 = .ok (.iload_n 1, 1) := by decide +kernel
theorem dX6_rows_1 : decode cX6_rows 1 = .ok (.iconst 1, 1) := by decide +kernel
theorem dX6_rows_2 : decode cX6_rows 2 = .ok (.bipush 8, 2) := by decide +kernel
theorem dX6_rows_4 : decode cX6_rows 4 = .ok (.invokestatic 63, 3) := by decide +kernel
theorem dX6_rows_7 : decode cX6_rows 7 = .ok (.ifCond .eq 20, 3) := by decide +kernel
theorem dX6_rows_10 : decode cX6_rows 10 = .ok (.iload_n 2, 1) := by decide +kernel
theorem dX6_rows_11 : decode cX6_rows 11 = .ok (.iconst 1, 1) := by decide +kernel
theorem dX6_rows_12 : decode cX6_rows 12 = .ok (.bipush 6, 2) := by decide +kernel
theorem dX6_rows_14 : decode cX6_rows 14 = .ok (.invokestatic 63, 3) := by decide +kernel
theorem dX6_rows_17 : decode cX6_rows 17 = .ok (.ifCond .eq 10, 3) := by decide +kernel
theorem dX6_rows_20 : decode cX6_rows 20 = .ok (.iload_n 3, 1) := by decide +kernel
theorem dX6_rows_21 : decode cX6_rows 21 = .ok (.invokestatic 129, 3) := by decide +kernel
theorem dX6_rows_24 : decode cX6_rows 24 = .ok (.ifCond .ne 5, 3) := by decide +kernel
theorem dX6_rows_27 : decode cX6_rows 27 = .ok (.iconst (-1), 1) := by decide +kernel
theorem dX6_rows_28 : decode cX6_rows 28 = .ok (.ireturn, 1) := by decide +kernel
theorem dX6_rows_29 : decode cX6_rows 29 = .ok (.iload 4, 2) := by decide +kernel
theorem dX6_rows_31 : decode cX6_rows 31 = .ok (.iconst (-1), 1) := by decide +kernel
theorem dX6_rows_32 : decode cX6_rows 32 = .ok (.if_icmp .lt 12, 3) := by decide +kernel
theorem dX6_rows_35 : decode cX6_rows 35 = .ok (.aload_n 0, 1) := by decide +kernel
theorem dX6_rows_36 : decode cX6_rows 36 = .ok (.iload 5, 2) := by decide +kernel
theorem dX6_rows_38 : decode cX6_rows 38 = .ok (.invokevirtual 59, 3) := by decide +kernel
theorem dX6_rows_41 : decode cX6_rows 41 = .ok (.ifnonnull 5, 3) := by decide +kernel
theorem dX6_rows_44 : decode cX6_rows 44 = .ok (.iconst (-1), 1) := by decide +kernel
theorem dX6_rows_45 : decode cX6_rows 45 = .ok (.ireturn, 1) := by decide +kernel
theorem dX6_rows_46 : decode cX6_rows 46 = .ok (.aload_n 0, 1) := by decide +kernel
theorem dX6_rows_47 : decode cX6_rows 47 = .ok (.getfield 37, 3) := by decide +kernel
theorem dX6_rows_50 : decode cX6_rows 50 = .ok (.iload_n 1, 1) := by decide +kernel
theorem dX6_rows_51 : decode cX6_rows 51 = .ok (.iload_n 2, 1) := by decide +kernel
theorem dX6_rows_52 : decode cX6_rows 52 = .ok (.iload_n 3, 1) := by decide +kernel
theorem dX6_rows_53 : decode cX6_rows 53 = .ok (.invokevirtual 183, 3) := by decide +kernel
theorem dX6_rows_56 : decode cX6_rows 56 = .ok (.aload_n 0, 1) := by decide +kernel
theorem dX6_rows_57 : decode cX6_rows 57 = .ok (.iload 4, 2) := by decide +kernel
theorem dX6_rows_59 : decode cX6_rows 59 = .ok (.iload 5, 2) := by decide +kernel
theorem dX6_rows_61 : decode cX6_rows 61 = .ok (.invokevirtual 172, 3) := by decide +kernel
theorem dX6_rows_64 : decode cX6_rows 64 = .ok (.ireturn, 1) := by decide +kernel
theorem dX6_longest_0 : decode cX6_longest 0 = .ok (.iload_n 1, 1) := by decide +kernel
theorem dX6_longest_1 : decode cX6_longest 1 = .ok (.iconst 1, 1) := by decide +kernel
theorem dX6_longest_2 : decode cX6_longest 2 = .ok (.iconst 4, 1) := by decide +kernel
theorem dX6_longest_3 : decode cX6_longest 3 = .ok (.invokestatic 63, 3) := by decide +kernel
theorem dX6_longest_6 : decode cX6_longest 6 = .ok (.ifCond .eq 10, 3) := by decide +kernel
theorem dX6_longest_9 : decode cX6_longest 9 = .ok (.iload_n 2, 1) := by decide +kernel
theorem dX6_longest_10 : decode cX6_longest 10 = .ok (.invokestatic 129, 3) := by decide +kernel
theorem dX6_longest_13 : decode cX6_longest 13 = .ok (.ifCond .ne 5, 3) := by decide +kernel
theorem dX6_longest_16 : decode cX6_longest 16 = .ok (.iconst (-1), 1) := by decide +kernel
theorem dX6_longest_17 : decode cX6_longest 17 = .ok (.ireturn, 1) := by decide +kernel
theorem dX6_longest_18 : decode cX6_longest 18 = .ok (.iconst 0, 1) := by decide +kernel
theorem dX6_longest_19 : decode cX6_longest 19 = .ok (.istore_n 3, 1) := by decide +kernel
theorem dX6_longest_20 : decode cX6_longest 20 = .ok (.iconst 1, 1) := by decide +kernel
theorem dX6_longest_21 : decode cX6_longest 21 = .ok (.istore 4, 2) := by decide +kernel
theorem dX6_longest_23 : decode cX6_longest 23 = .ok (.iload 4, 2) := by decide +kernel
theorem dX6_longest_25 : decode cX6_longest 25 = .ok (.bipush 12, 2) := by decide +kernel
theorem dX6_longest_27 : decode cX6_longest 27 = .ok (.if_icmp .gt 37, 3) := by decide +kernel
theorem dX6_longest_30 : decode cX6_longest 30 = .ok (.aload_n 0, 1) := by decide +kernel
theorem dX6_longest_31 : decode cX6_longest 31 = .ok (.getfield 37, 3) := by decide +kernel
theorem dX6_longest_34 : decode cX6_longest 34 = .ok (.iload 4, 2) := by decide +kernel
theorem dX6_longest_36 : decode cX6_longest 36 = .ok (.iload_n 1, 1) := by decide +kernel
theorem dX6_longest_37 : decode cX6_longest 37 = .ok (.iload_n 2, 1) := by decide +kernel
theorem dX6_longest_38 : decode cX6_longest 38 = .ok (.invokevirtual 183, 3) := by decide +kernel
theorem dX6_longest_41 : decode cX6_longest 41 = .ok (.aload_n 0, 1) := by decide +kernel
theorem dX6_longest_42 : decode cX6_longest 42 = .ok (.getfield 37, 3) := by decide +kernel
theorem dX6_longest_45 : decode cX6_longest 45 = .ok (.iconst 0, 1) := by decide +kernel
theorem dX6_longest_46 : decode cX6_longest 46 = .ok (.invokevirtual 187, 3) := by decide +kernel
theorem dX6_longest_49 : decode cX6_longest 49 = .ok (.ifCond .ne 6, 3) := by decide +kernel
theorem dX6_longest_52 : decode cX6_longest 52 = .ok (.goto 12, 3) := by decide +kernel
theorem dX6_longest_55 : decode cX6_longest 55 = .ok (.iload 4, 2) := by decide +kernel
theorem dX6_longest_57 : decode cX6_longest 57 = .ok (.istore_n 3, 1) := by decide +kernel
theorem dX6_longest_58 : decode cX6_longest 58 = .ok (.iinc 4 1, 3) := by decide +kernel
theorem dX6_longest_61 : decode cX6_longest 61 = .ok (.goto (-38), 3) := by decide +kernel
theorem dX6_longest_64 : decode cX6_longest 64 = .ok (.iload_n 3, 1) := by decide +kernel
theorem dX6_longest_65 : decode cX6_longest 65 = .ok (.ireturn, 1) := by decide +kernel
theorem dX6_powers_0 : decode cX6_powers 0 = .ok (.aload_n 0, 1) := by decide +kernel
theorem dX6_powers_1 : decode cX6_powers 1 = .ok (.iload 4, 2) := by decide +kernel
theorem dX6_powers_3 : decode cX6_powers 3 = .ok (.invokevirtual 59, 3) := by decide +kernel
theorem dX6_powers_6 : decode cX6_powers 6 = .ok (.astore 5, 2) := by decide +kernel
theorem dX6_powers_8 : decode cX6_powers 8 = .ok (.iload_n 1, 1) := by decide +kernel
theorem dX6_powers_9 : decode cX6_powers 9 = .ok (.invokestatic 190, 3) := by decide +kernel
theorem dX6_powers_12 : decode cX6_powers 12 = .ok (.ifCond .eq 30, 3) := by decide +kernel
theorem dX6_powers_15 : decode cX6_powers 15 = .ok (.iload_n 2, 1) := by decide +kernel
theorem dX6_powers_16 : decode cX6_powers 16 = .ok (.iconst 2, 1) := by decide +kernel
theorem dX6_powers_17 : decode cX6_powers 17 = .ok (.iload_n 1, 1) := by decide +kernel
theorem dX6_powers_18 : decode cX6_powers 18 = .ok (.iconst 1, 1) := by decide +kernel
theorem dX6_powers_19 : decode cX6_powers 19 = .ok (.isub, 1) := by decide +kernel
theorem dX6_powers_20 : decode cX6_powers 20 = .ok (.invokestatic 63, 3) := by decide +kernel
theorem dX6_powers_23 : decode cX6_powers 23 = .ok (.ifCond .eq 19, 3) := by decide +kernel
theorem dX6_powers_26 : decode cX6_powers 26 = .ok (.iload_n 3, 1) := by decide +kernel
theorem dX6_powers_27 : decode cX6_powers 27 = .ok (.iconst 0, 1) := by decide +kernel
theorem dX6_powers_28 : decode cX6_powers 28 = .ok (.iload_n 1, 1) := by decide +kernel
theorem dX6_powers_29 : decode cX6_powers 29 = .ok (.iconst 2, 1) := by decide +kernel
theorem dX6_powers_30 : decode cX6_powers 30 = .ok (.isub, 1) := by decide +kernel
theorem dX6_powers_31 : decode cX6_powers 31 = .ok (.invokestatic 63, 3) := by decide +kernel
theorem dX6_powers_34 : decode cX6_powers 34 = .ok (.ifCond .eq 8, 3) := by decide +kernel
theorem dX6_powers_37 : decode cX6_powers 37 = .ok (.aload 5, 2) := by decide +kernel
theorem dX6_powers_39 : decode cX6_powers 39 = .ok (.ifnonnull 5, 3) := by decide +kernel
theorem dX6_powers_42 : decode cX6_powers 42 = .ok (.iconst (-1), 1) := by decide +kernel
theorem dX6_powers_43 : decode cX6_powers 43 = .ok (.ireturn, 1) := by decide +kernel
theorem dX6_powers_44 : decode cX6_powers 44 = .ok (.iload_n 1, 1) := by decide +kernel
theorem dX6_powers_45 : decode cX6_powers 45 = .ok (.iconst 1, 1) := by decide +kernel
theorem dX6_powers_46 : decode cX6_powers 46 = .ok (.isub, 1) := by decide +kernel
theorem dX6_powers_47 : decode cX6_powers 47 = .ok (.istore 6, 2) := by decide +kernel
theorem dX6_powers_49 : decode cX6_powers 49 = .ok (.aload_n 0, 1) := by decide +kernel
theorem dX6_powers_50 : decode cX6_powers 50 = .ok (.getfield 16, 3) := by decide +kernel
theorem dX6_powers_53 : decode cX6_powers 53 = .ok (.iload 6, 2) := by decide +kernel
theorem dX6_powers_55 : decode cX6_powers 55 = .ok (.iload 6, 2) := by decide +kernel
theorem dX6_powers_57 : decode cX6_powers 57 = .ok (.invokevirtual 75, 3) := by decide +kernel
theorem dX6_powers_60 : decode cX6_powers 60 = .ok (.iload_n 2, 1) := by decide +kernel
theorem dX6_powers_61 : decode cX6_powers 61 = .ok (.iload_n 3, 1) := by decide +kernel
theorem dX6_powers_62 : decode cX6_powers 62 = .ok (.iload_n 1, 1) := by decide +kernel
theorem dX6_powers_63 : decode cX6_powers 63 = .ok (.invokestatic 193, 3) := by decide +kernel
theorem dX6_powers_66 : decode cX6_powers 66 = .ok (.istore 7, 2) := by decide +kernel
theorem dX6_powers_68 : decode cX6_powers 68 = .ok (.iconst 0, 1) := by decide +kernel
theorem dX6_powers_69 : decode cX6_powers 69 = .ok (.istore 8, 2) := by decide +kernel
theorem dX6_powers_71 : decode cX6_powers 71 = .ok (.iload 8, 2) := by decide +kernel
theorem dX6_powers_73 : decode cX6_powers 73 = .ok (.iload 6, 2) := by decide +kernel
theorem dX6_powers_75 : decode cX6_powers 75 = .ok (.if_icmp .ge 32, 3) := by decide +kernel
theorem dX6_powers_78 : decode cX6_powers 78 = .ok (.aload_n 0, 1) := by decide +kernel
theorem dX6_powers_79 : decode cX6_powers 79 = .ok (.getfield 16, 3) := by decide +kernel
theorem dX6_powers_82 : decode cX6_powers 82 = .ok (.iload 8, 2) := by decide +kernel
theorem dX6_powers_84 : decode cX6_powers 84 = .ok (.iload 7, 2) := by decide +kernel
theorem dX6_powers_86 : decode cX6_powers 86 = .ok (.iconst 1, 1) := by decide +kernel
theorem dX6_powers_87 : decode cX6_powers 87 = .ok (.isub, 1) := by decide +kernel
theorem dX6_powers_88 : decode cX6_powers 88 = .ok (.invokevirtual 83, 3) := by decide +kernel
theorem dX6_powers_91 : decode cX6_powers 91 = .ok (.iload 7, 2) := by decide +kernel
theorem dX6_powers_93 : decode cX6_powers 93 = .ok (.iload_n 2, 1) := by decide +kernel
theorem dX6_powers_94 : decode cX6_powers 94 = .ok (.imul, 1) := by decide +kernel
theorem dX6_powers_95 : decode cX6_powers 95 = .ok (.iload_n 1, 1) := by decide +kernel
theorem dX6_powers_96 : decode cX6_powers 96 = .ok (.invokestatic 196, 3) := by decide +kernel
theorem dX6_powers_99 : decode cX6_powers 99 = .ok (.istore 7, 2) := by decide +kernel
theorem dX6_powers_101 : decode cX6_powers 101 = .ok (.iinc 8 1, 3) := by decide +kernel
theorem dX6_powers_104 : decode cX6_powers 104 = .ok (.goto (-33), 3) := by decide +kernel
theorem dX6_powers_107 : decode cX6_powers 107 = .ok (.aload_n 0, 1) := by decide +kernel
theorem dX6_powers_108 : decode cX6_powers 108 = .ok (.aload 5, 2) := by decide +kernel
theorem dX6_powers_110 : decode cX6_powers 110 = .ok (.invokevirtual 199, 3) := by decide +kernel
theorem dX6_powers_113 : decode cX6_powers 113 = .ok (.ireturn, 1) := by decide +kernel
theorem dX6_sums_0 : decode cX6_sums 0 = .ok (.aload_n 0, 1) := by decide +kernel
theorem dX6_sums_1 : decode cX6_sums 1 = .ok (.iload 4, 2) := by decide +kernel
theorem dX6_sums_3 : decode cX6_sums 3 = .ok (.invokevirtual 59, 3) := by decide +kernel
theorem dX6_sums_6 : decode cX6_sums 6 = .ok (.astore 5, 2) := by decide +kernel
theorem dX6_sums_8 : decode cX6_sums 8 = .ok (.iload_n 1, 1) := by decide +kernel
theorem dX6_sums_9 : decode cX6_sums 9 = .ok (.invokestatic 190, 3) := by decide +kernel
theorem dX6_sums_12 : decode cX6_sums 12 = .ok (.ifCond .eq 35, 3) := by decide +kernel
theorem dX6_sums_15 : decode cX6_sums 15 = .ok (.iload_n 1, 1) := by decide +kernel
theorem dX6_sums_16 : decode cX6_sums 16 = .ok (.iconst 5, 1) := by decide +kernel
theorem dX6_sums_17 : decode cX6_sums 17 = .ok (.if_icmp .lt 30, 3) := by decide +kernel
theorem dX6_sums_20 : decode cX6_sums 20 = .ok (.iload_n 2, 1) := by decide +kernel
theorem dX6_sums_21 : decode cX6_sums 21 = .ok (.iconst 2, 1) := by decide +kernel
theorem dX6_sums_22 : decode cX6_sums 22 = .ok (.iload_n 1, 1) := by decide +kernel
theorem dX6_sums_23 : decode cX6_sums 23 = .ok (.iconst 1, 1) := by decide +kernel
theorem dX6_sums_24 : decode cX6_sums 24 = .ok (.isub, 1) := by decide +kernel
theorem dX6_sums_25 : decode cX6_sums 25 = .ok (.invokestatic 63, 3) := by decide +kernel
theorem dX6_sums_28 : decode cX6_sums 28 = .ok (.ifCond .eq 19, 3) := by decide +kernel
theorem dX6_sums_31 : decode cX6_sums 31 = .ok (.iload_n 3, 1) := by decide +kernel
theorem dX6_sums_32 : decode cX6_sums 32 = .ok (.iconst 2, 1) := by decide +kernel
theorem dX6_sums_33 : decode cX6_sums 33 = .ok (.iload_n 1, 1) := by decide +kernel
theorem dX6_sums_34 : decode cX6_sums 34 = .ok (.iconst 1, 1) := by decide +kernel
theorem dX6_sums_35 : decode cX6_sums 35 = .ok (.isub, 1) := by decide +kernel
theorem dX6_sums_36 : decode cX6_sums 36 = .ok (.invokestatic 63, 3) := by decide +kernel
theorem dX6_sums_39 : decode cX6_sums 39 = .ok (.ifCond .eq 8, 3) := by decide +kernel
theorem dX6_sums_42 : decode cX6_sums 42 = .ok (.aload 5, 2) := by decide +kernel
theorem dX6_sums_44 : decode cX6_sums 44 = .ok (.ifnonnull 5, 3) := by decide +kernel
theorem dX6_sums_47 : decode cX6_sums 47 = .ok (.iconst (-1), 1) := by decide +kernel
theorem dX6_sums_48 : decode cX6_sums 48 = .ok (.ireturn, 1) := by decide +kernel
theorem dX6_sums_49 : decode cX6_sums 49 = .ok (.iload_n 1, 1) := by decide +kernel
theorem dX6_sums_50 : decode cX6_sums 50 = .ok (.iconst 2, 1) := by decide +kernel
theorem dX6_sums_51 : decode cX6_sums 51 = .ok (.isub, 1) := by decide +kernel
theorem dX6_sums_52 : decode cX6_sums 52 = .ok (.istore 6, 2) := by decide +kernel
theorem dX6_sums_54 : decode cX6_sums 54 = .ok (.aload_n 0, 1) := by decide +kernel
theorem dX6_sums_55 : decode cX6_sums 55 = .ok (.getfield 16, 3) := by decide +kernel
theorem dX6_sums_58 : decode cX6_sums 58 = .ok (.iload 6, 2) := by decide +kernel
theorem dX6_sums_60 : decode cX6_sums 60 = .ok (.iload 6, 2) := by decide +kernel
theorem dX6_sums_62 : decode cX6_sums 62 = .ok (.invokevirtual 75, 3) := by decide +kernel
theorem dX6_sums_65 : decode cX6_sums 65 = .ok (.iload_n 2, 1) := by decide +kernel
theorem dX6_sums_66 : decode cX6_sums 66 = .ok (.istore 7, 2) := by decide +kernel
theorem dX6_sums_68 : decode cX6_sums 68 = .ok (.iconst 0, 1) := by decide +kernel
theorem dX6_sums_69 : decode cX6_sums 69 = .ok (.istore 8, 2) := by decide +kernel
theorem dX6_sums_71 : decode cX6_sums 71 = .ok (.iload 8, 2) := by decide +kernel
theorem dX6_sums_73 : decode cX6_sums 73 = .ok (.iload 6, 2) := by decide +kernel
theorem dX6_sums_75 : decode cX6_sums 75 = .ok (.if_icmp .ge 35, 3) := by decide +kernel
theorem dX6_sums_78 : decode cX6_sums 78 = .ok (.aload_n 0, 1) := by decide +kernel
theorem dX6_sums_79 : decode cX6_sums 79 = .ok (.getfield 16, 3) := by decide +kernel
theorem dX6_sums_82 : decode cX6_sums 82 = .ok (.iload 8, 2) := by decide +kernel
theorem dX6_sums_84 : decode cX6_sums 84 = .ok (.iload 7, 2) := by decide +kernel
theorem dX6_sums_86 : decode cX6_sums 86 = .ok (.iload_n 3, 1) := by decide +kernel
theorem dX6_sums_87 : decode cX6_sums 87 = .ok (.iload_n 1, 1) := by decide +kernel
theorem dX6_sums_88 : decode cX6_sums 88 = .ok (.invokestatic 203, 3) := by decide +kernel
theorem dX6_sums_91 : decode cX6_sums 91 = .ok (.invokevirtual 83, 3) := by decide +kernel
theorem dX6_sums_94 : decode cX6_sums 94 = .ok (.iload 7, 2) := by decide +kernel
theorem dX6_sums_96 : decode cX6_sums 96 = .ok (.iload_n 2, 1) := by decide +kernel
theorem dX6_sums_97 : decode cX6_sums 97 = .ok (.imul, 1) := by decide +kernel
theorem dX6_sums_98 : decode cX6_sums 98 = .ok (.iload_n 1, 1) := by decide +kernel
theorem dX6_sums_99 : decode cX6_sums 99 = .ok (.invokestatic 196, 3) := by decide +kernel
theorem dX6_sums_102 : decode cX6_sums 102 = .ok (.istore 7, 2) := by decide +kernel
theorem dX6_sums_104 : decode cX6_sums 104 = .ok (.iinc 8 1, 3) := by decide +kernel
theorem dX6_sums_107 : decode cX6_sums 107 = .ok (.goto (-36), 3) := by decide +kernel
theorem dX6_sums_110 : decode cX6_sums 110 = .ok (.aload_n 0, 1) := by decide +kernel
theorem dX6_sums_111 : decode cX6_sums 111 = .ok (.aload 5, 2) := by decide +kernel
theorem dX6_sums_113 : decode cX6_sums 113 = .ok (.invokevirtual 199, 3) := by decide +kernel
theorem dX6_sums_116 : decode cX6_sums 116 = .ok (.ireturn, 1) := by decide +kernel
theorem dX6_turn_0 : decode cX6_turn 0 = .ok (.aload_n 0, 1) := by decide +kernel
theorem dX6_turn_1 : decode cX6_turn 1 = .ok (.iload_n 1, 1) := by decide +kernel
theorem dX6_turn_2 : decode cX6_turn 2 = .ok (.invokevirtual 59, 3) := by decide +kernel
theorem dX6_turn_5 : decode cX6_turn 5 = .ok (.astore_n 3, 1) := by decide +kernel
theorem dX6_turn_6 : decode cX6_turn 6 = .ok (.aload_n 3, 1) := by decide +kernel
theorem dX6_turn_7 : decode cX6_turn 7 = .ok (.ifnull 13, 3) := by decide +kernel
theorem dX6_turn_10 : decode cX6_turn 10 = .ok (.iload_n 2, 1) := by decide +kernel
theorem dX6_turn_11 : decode cX6_turn 11 = .ok (.iconst 0, 1) := by decide +kernel
theorem dX6_turn_12 : decode cX6_turn 12 = .ok (.bipush 7, 2) := by decide +kernel
theorem dX6_turn_14 : decode cX6_turn 14 = .ok (.invokestatic 63, 3) := by decide +kernel
theorem dX6_turn_17 : decode cX6_turn 17 = .ok (.ifCond .ne 5, 3) := by decide +kernel
theorem dX6_turn_20 : decode cX6_turn 20 = .ok (.iconst (-1), 1) := by decide +kernel
theorem dX6_turn_21 : decode cX6_turn 21 = .ok (.ireturn, 1) := by decide +kernel
theorem dX6_turn_22 : decode cX6_turn 22 = .ok (.aload_n 3, 1) := by decide +kernel
theorem dX6_turn_23 : decode cX6_turn 23 = .ok (.invokevirtual 206, 3) := by decide +kernel
theorem dX6_turn_26 : decode cX6_turn 26 = .ok (.ifCond .ne 6, 3) := by decide +kernel
theorem dX6_turn_29 : decode cX6_turn 29 = .ok (.bipush (-2), 2) := by decide +kernel
theorem dX6_turn_31 : decode cX6_turn 31 = .ok (.ireturn, 1) := by decide +kernel
theorem dX6_turn_32 : decode cX6_turn 32 = .ok (.aload_n 0, 1) := by decide +kernel
theorem dX6_turn_33 : decode cX6_turn 33 = .ok (.getfield 16, 3) := by decide +kernel
theorem dX6_turn_36 : decode cX6_turn 36 = .ok (.aload_n 3, 1) := by decide +kernel
theorem dX6_turn_37 : decode cX6_turn 37 = .ok (.iload_n 2, 1) := by decide +kernel
theorem dX6_turn_38 : decode cX6_turn 38 = .ok (.invokestatic 210, 3) := by decide +kernel
theorem dX6_turn_41 : decode cX6_turn 41 = .ok (.aload_n 3, 1) := by decide +kernel
theorem dX6_turn_42 : decode cX6_turn 42 = .ok (.aload_n 0, 1) := by decide +kernel
theorem dX6_turn_43 : decode cX6_turn 43 = .ok (.getfield 16, 3) := by decide +kernel
theorem dX6_turn_46 : decode cX6_turn 46 = .ok (.invokevirtual 214, 3) := by decide +kernel
theorem dX6_turn_49 : decode cX6_turn 49 = .ok (.aload_n 3, 1) := by decide +kernel
theorem dX6_turn_50 : decode cX6_turn 50 = .ok (.invokevirtual 71, 3) := by decide +kernel
theorem dX6_turn_53 : decode cX6_turn 53 = .ok (.ireturn, 1) := by decide +kernel
theorem dX6_like_0 : decode cX6_like 0 = .ok (.aload_n 0, 1) := by decide +kernel
theorem dX6_like_1 : decode cX6_like 1 = .ok (.iload_n 1, 1) := by decide +kernel
theorem dX6_like_2 : decode cX6_like 2 = .ok (.invokevirtual 59, 3) := by decide +kernel
theorem dX6_like_5 : decode cX6_like 5 = .ok (.astore_n 2, 1) := by decide +kernel
theorem dX6_like_6 : decode cX6_like 6 = .ok (.aload_n 2, 1) := by decide +kernel
theorem dX6_like_7 : decode cX6_like 7 = .ok (.ifnonnull 5, 3) := by decide +kernel
theorem dX6_like_10 : decode cX6_like 10 = .ok (.iconst (-1), 1) := by decide +kernel
theorem dX6_like_11 : decode cX6_like 11 = .ok (.ireturn, 1) := by decide +kernel
theorem dX6_like_12 : decode cX6_like 12 = .ok (.aload_n 2, 1) := by decide +kernel
theorem dX6_like_13 : decode cX6_like 13 = .ok (.invokevirtual 206, 3) := by decide +kernel
theorem dX6_like_16 : decode cX6_like 16 = .ok (.ifCond .ne 6, 3) := by decide +kernel
theorem dX6_like_19 : decode cX6_like 19 = .ok (.bipush (-2), 2) := by decide +kernel
theorem dX6_like_21 : decode cX6_like 21 = .ok (.ireturn, 1) := by decide +kernel
theorem dX6_like_22 : decode cX6_like 22 = .ok (.iconst 0, 1) := by decide +kernel
theorem dX6_like_23 : decode cX6_like 23 = .ok (.istore_n 3, 1) := by decide +kernel
theorem dX6_like_24 : decode cX6_like 24 = .ok (.iconst 0, 1) := by decide +kernel
theorem dX6_like_25 : decode cX6_like 25 = .ok (.istore 4, 2) := by decide +kernel
theorem dX6_like_27 : decode cX6_like 27 = .ok (.iload 4, 2) := by decide +kernel
theorem dX6_like_29 : decode cX6_like 29 = .ok (.aload_n 0, 1) := by decide +kernel
theorem dX6_like_30 : decode cX6_like 30 = .ok (.getfield 55, 3) := by decide +kernel
theorem dX6_like_33 : decode cX6_like 33 = .ok (.arraylength, 1) := by decide +kernel
theorem dX6_like_34 : decode cX6_like 34 = .ok (.if_icmp .ge 45, 3) := by decide +kernel
theorem dX6_like_37 : decode cX6_like 37 = .ok (.aload_n 0, 1) := by decide +kernel
theorem dX6_like_38 : decode cX6_like 38 = .ok (.getfield 16, 3) := by decide +kernel
theorem dX6_like_41 : decode cX6_like 41 = .ok (.aload_n 2, 1) := by decide +kernel
theorem dX6_like_42 : decode cX6_like 42 = .ok (.iload 4, 2) := by decide +kernel
theorem dX6_like_44 : decode cX6_like 44 = .ok (.invokestatic 210, 3) := by decide +kernel
theorem dX6_like_47 : decode cX6_like 47 = .ok (.aload_n 0, 1) := by decide +kernel
theorem dX6_like_48 : decode cX6_like 48 = .ok (.getfield 55, 3) := by decide +kernel
theorem dX6_like_51 : decode cX6_like 51 = .ok (.iload 4, 2) := by decide +kernel
theorem dX6_like_53 : decode cX6_like 53 = .ok (.aload_n 0, 1) := by decide +kernel
theorem dX6_like_54 : decode cX6_like 54 = .ok (.getfield 16, 3) := by decide +kernel
theorem dX6_like_57 : decode cX6_like 57 = .ok (.invokevirtual 125, 3) := by decide +kernel
theorem dX6_like_60 : decode cX6_like 60 = .ok (.lastore, 1) := by decide +kernel
theorem dX6_like_61 : decode cX6_like 61 = .ok (.aload_n 0, 1) := by decide +kernel
theorem dX6_like_62 : decode cX6_like 62 = .ok (.iload 4, 2) := by decide +kernel
theorem dX6_like_64 : decode cX6_like 64 = .ok (.invokevirtual 217, 3) := by decide +kernel
theorem dX6_like_67 : decode cX6_like 67 = .ok (.ifCond .eq 6, 3) := by decide +kernel
theorem dX6_like_70 : decode cX6_like 70 = .ok (.iinc 3 1, 3) := by decide +kernel
theorem dX6_like_73 : decode cX6_like 73 = .ok (.iinc 4 1, 3) := by decide +kernel
theorem dX6_like_76 : decode cX6_like 76 = .ok (.goto (-49), 3) := by decide +kernel
theorem dX6_like_79 : decode cX6_like 79 = .ok (.iload_n 3, 1) := by decide +kernel
theorem dX6_like_80 : decode cX6_like 80 = .ok (.ireturn, 1) := by decide +kernel
theorem dX6_corner_0 : decode cX6_corner 0 = .ok (.aload_n 0, 1) := by decide +kernel
theorem dX6_corner_1 : decode cX6_corner 1 = .ok (.iload_n 1, 1) := by decide +kernel
theorem dX6_corner_2 : decode cX6_corner 2 = .ok (.invokevirtual 59, 3) := by decide +kernel
theorem dX6_corner_5 : decode cX6_corner 5 = .ok (.astore 4, 2) := by decide +kernel
theorem dX6_corner_7 : decode cX6_corner 7 = .ok (.aload 4, 2) := by decide +kernel
theorem dX6_corner_9 : decode cX6_corner 9 = .ok (.ifnull 12, 3) := by decide +kernel
theorem dX6_corner_12 : decode cX6_corner 12 = .ok (.iload_n 2, 1) := by decide +kernel
theorem dX6_corner_13 : decode cX6_corner 13 = .ok (.iconst 0, 1) := by decide +kernel
theorem dX6_corner_14 : decode cX6_corner 14 = .ok (.iconst 3, 1) := by decide +kernel
theorem dX6_corner_15 : decode cX6_corner 15 = .ok (.invokestatic 63, 3) := by decide +kernel
theorem dX6_corner_18 : decode cX6_corner 18 = .ok (.ifCond .ne 5, 3) := by decide +kernel
theorem dX6_corner_21 : decode cX6_corner 21 = .ok (.iconst (-1), 1) := by decide +kernel
theorem dX6_corner_22 : decode cX6_corner 22 = .ok (.ireturn, 1) := by decide +kernel
theorem dX6_corner_23 : decode cX6_corner 23 = .ok (.aload 4, 2) := by decide +kernel
theorem dX6_corner_25 : decode cX6_corner 25 = .ok (.invokevirtual 206, 3) := by decide +kernel
theorem dX6_corner_28 : decode cX6_corner 28 = .ok (.ifCond .ne 6, 3) := by decide +kernel
theorem dX6_corner_31 : decode cX6_corner 31 = .ok (.bipush (-2), 2) := by decide +kernel
theorem dX6_corner_33 : decode cX6_corner 33 = .ok (.ireturn, 1) := by decide +kernel
theorem dX6_corner_34 : decode cX6_corner 34 = .ok (.iload_n 2, 1) := by decide +kernel
theorem dX6_corner_35 : decode cX6_corner 35 = .ok (.iconst 1, 1) := by decide +kernel
theorem dX6_corner_36 : decode cX6_corner 36 = .ok (.iand, 1) := by decide +kernel
theorem dX6_corner_37 : decode cX6_corner 37 = .ok (.ifCond .eq 7, 3) := by decide +kernel
theorem dX6_corner_40 : decode cX6_corner 40 = .ok (.iconst 1, 1) := by decide +kernel
theorem dX6_corner_41 : decode cX6_corner 41 = .ok (.goto 4, 3) := by decide +kernel
theorem dX6_corner_44 : decode cX6_corner 44 = .ok (.iconst 0, 1) := by decide +kernel
theorem dX6_corner_45 : decode cX6_corner 45 = .ok (.istore 5, 2) := by decide +kernel
theorem dX6_corner_47 : decode cX6_corner 47 = .ok (.iload_n 2, 1) := by decide +kernel
theorem dX6_corner_48 : decode cX6_corner 48 = .ok (.iconst 2, 1) := by decide +kernel
theorem dX6_corner_49 : decode cX6_corner 49 = .ok (.iand, 1) := by decide +kernel
theorem dX6_corner_50 : decode cX6_corner 50 = .ok (.ifCond .eq 7, 3) := by decide +kernel
theorem dX6_corner_53 : decode cX6_corner 53 = .ok (.iconst 1, 1) := by decide +kernel
theorem dX6_corner_54 : decode cX6_corner 54 = .ok (.goto 4, 3) := by decide +kernel
theorem dX6_corner_57 : decode cX6_corner 57 = .ok (.iconst 0, 1) := by decide +kernel
theorem dX6_corner_58 : decode cX6_corner 58 = .ok (.istore 6, 2) := by decide +kernel
theorem dX6_corner_60 : decode cX6_corner 60 = .ok (.iload_n 3, 1) := by decide +kernel
theorem dX6_corner_61 : decode cX6_corner 61 = .ok (.ifCond .eq 16, 3) := by decide +kernel
theorem dX6_corner_64 : decode cX6_corner 64 = .ok (.aload_n 0, 1) := by decide +kernel
theorem dX6_corner_65 : decode cX6_corner 65 = .ok (.aload 4, 2) := by decide +kernel
theorem dX6_corner_67 : decode cX6_corner 67 = .ok (.iload 5, 2) := by decide +kernel
theorem dX6_corner_69 : decode cX6_corner 69 = .ok (.iload 6, 2) := by decide +kernel
theorem dX6_corner_71 : decode cX6_corner 71 = .ok (.invokevirtual 220, 3) := by decide +kernel
theorem dX6_corner_74 : decode cX6_corner 74 = .ok (.goto 13, 3) := by decide +kernel
theorem dX6_corner_77 : decode cX6_corner 77 = .ok (.aload_n 0, 1) := by decide +kernel
theorem dX6_corner_78 : decode cX6_corner 78 = .ok (.aload 4, 2) := by decide +kernel
theorem dX6_corner_80 : decode cX6_corner 80 = .ok (.iload 5, 2) := by decide +kernel
theorem dX6_corner_82 : decode cX6_corner 82 = .ok (.iload 6, 2) := by decide +kernel
theorem dX6_corner_84 : decode cX6_corner 84 = .ok (.invokevirtual 224, 3) := by decide +kernel
theorem dX6_corner_87 : decode cX6_corner 87 = .ok (.ireturn, 1) := by decide +kernel
theorem dX6_hear_0 : decode cX6_hear 0 = .ok (.iload_n 1, 1) := by decide +kernel
theorem dX6_hear_1 : decode cX6_hear 1 = .ok (.iconst 0, 1) := by decide +kernel
theorem dX6_hear_2 : decode cX6_hear 2 = .ok (.bipush 30, 2) := by decide +kernel
theorem dX6_hear_4 : decode cX6_hear 4 = .ok (.invokestatic 63, 3) := by decide +kernel
theorem dX6_hear_7 : decode cX6_hear 7 = .ok (.ifCond .eq 14, 3) := by decide +kernel
theorem dX6_hear_10 : decode cX6_hear 10 = .ok (.iload_n 2, 1) := by decide +kernel
theorem dX6_hear_11 : decode cX6_hear 11 = .ok (.bipush (-20), 2) := by decide +kernel
theorem dX6_hear_13 : decode cX6_hear 13 = .ok (.bipush 20, 2) := by decide +kernel
theorem dX6_hear_15 : decode cX6_hear 15 = .ok (.invokestatic 63, 3) := by decide +kernel
theorem dX6_hear_18 : decode cX6_hear 18 = .ok (.ifCond .ne 5, 3) := by decide +kernel
theorem dX6_hear_21 : decode cX6_hear 21 = .ok (.iconst (-1), 1) := by decide +kernel
theorem dX6_hear_22 : decode cX6_hear 22 = .ok (.ireturn, 1) := by decide +kernel
theorem dX6_hear_23 : decode cX6_hear 23 = .ok (.aload_n 0, 1) := by decide +kernel
theorem dX6_hear_24 : decode cX6_hear 24 = .ok (.getfield 51, 3) := by decide +kernel
theorem dX6_hear_27 : decode cX6_hear 27 = .ok (.iload_n 1, 1) := by decide +kernel
theorem dX6_hear_28 : decode cX6_hear 28 = .ok (.iload_n 2, 1) := by decide +kernel
theorem dX6_hear_29 : decode cX6_hear 29 = .ok (.invokevirtual 227, 3) := by decide +kernel
theorem dX6_hear_32 : decode cX6_hear 32 = .ok (.ifCond .eq 6, 3) := by decide +kernel
theorem dX6_hear_35 : decode cX6_hear 35 = .ok (.bipush (-2), 2) := by decide +kernel
theorem dX6_hear_37 : decode cX6_hear 37 = .ok (.ireturn, 1) := by decide +kernel
theorem dX6_hear_38 : decode cX6_hear 38 = .ok (.aload_n 0, 1) := by decide +kernel
theorem dX6_hear_39 : decode cX6_hear 39 = .ok (.getfield 51, 3) := by decide +kernel
theorem dX6_hear_42 : decode cX6_hear 42 = .ok (.invokevirtual 231, 3) := by decide +kernel
theorem dX6_hear_45 : decode cX6_hear 45 = .ok (.ifCond .eq 6, 3) := by decide +kernel
theorem dX6_hear_48 : decode cX6_hear 48 = .ok (.bipush (-3), 2) := by decide +kernel
theorem dX6_hear_50 : decode cX6_hear 50 = .ok (.ireturn, 1) := by decide +kernel
theorem dX6_hear_51 : decode cX6_hear 51 = .ok (.aload_n 0, 1) := by decide +kernel
theorem dX6_hear_52 : decode cX6_hear 52 = .ok (.getfield 51, 3) := by decide +kernel
theorem dX6_hear_55 : decode cX6_hear 55 = .ok (.iload_n 1, 1) := by decide +kernel
theorem dX6_hear_56 : decode cX6_hear 56 = .ok (.iload_n 2, 1) := by decide +kernel
theorem dX6_hear_57 : decode cX6_hear 57 = .ok (.invokevirtual 234, 3) := by decide +kernel
theorem dX6_hear_60 : decode cX6_hear 60 = .ok (.aload_n 0, 1) := by decide +kernel
theorem dX6_hear_61 : decode cX6_hear 61 = .ok (.getfield 51, 3) := by decide +kernel
theorem dX6_hear_64 : decode cX6_hear 64 = .ok (.invokevirtual 236, 3) := by decide +kernel
theorem dX6_hear_67 : decode cX6_hear 67 = .ok (.ireturn, 1) := by decide +kernel
theorem dX6_still_0 : decode cX6_still 0 = .ok (.aload_n 0, 1) := by decide +kernel
theorem dX6_still_1 : decode cX6_still 1 = .ok (.getfield 51, 3) := by decide +kernel
theorem dX6_still_4 : decode cX6_still 4 = .ok (.invokevirtual 236, 3) := by decide +kernel
theorem dX6_still_7 : decode cX6_still 7 = .ok (.istore_n 1, 1) := by decide +kernel
theorem dX6_still_8 : decode cX6_still 8 = .ok (.aload_n 0, 1) := by decide +kernel
theorem dX6_still_9 : decode cX6_still 9 = .ok (.getfield 51, 3) := by decide +kernel
theorem dX6_still_12 : decode cX6_still 12 = .ok (.invokevirtual 239, 3) := by decide +kernel
theorem dX6_still_15 : decode cX6_still 15 = .ok (.iload_n 1, 1) := by decide +kernel
theorem dX6_still_16 : decode cX6_still 16 = .ok (.ireturn, 1) := by decide +kernel
theorem dX6_found_0 : decode cX6_found 0 = .ok (.aload_n 0, 1) := by decide +kernel
theorem dX6_found_1 : decode cX6_found 1 = .ok (.iload_n 1, 1) := by decide +kernel
theorem dX6_found_2 : decode cX6_found 2 = .ok (.invokevirtual 59, 3) := by decide +kernel
theorem dX6_found_5 : decode cX6_found 5 = .ok (.astore_n 3, 1) := by decide +kernel
theorem dX6_found_6 : decode cX6_found 6 = .ok (.aload_n 3, 1) := by decide +kernel
theorem dX6_found_7 : decode cX6_found 7 = .ok (.ifnull 12, 3) := by decide +kernel
theorem dX6_found_10 : decode cX6_found 10 = .ok (.iload_n 2, 1) := by decide +kernel
theorem dX6_found_11 : decode cX6_found 11 = .ok (.iconst 0, 1) := by decide +kernel
theorem dX6_found_12 : decode cX6_found 12 = .ok (.iconst 2, 1) := by decide +kernel
theorem dX6_found_13 : decode cX6_found 13 = .ok (.invokestatic 63, 3) := by decide +kernel
theorem dX6_found_16 : decode cX6_found 16 = .ok (.ifCond .ne 6, 3) := by decide +kernel
theorem dX6_found_19 : decode cX6_found 19 = .ok (.bipush (-100), 2) := by decide +kernel
theorem dX6_found_21 : decode cX6_found 21 = .ok (.ireturn, 1) := by decide +kernel
theorem dX6_found_22 : decode cX6_found 22 = .ok (.aload_n 0, 1) := by decide +kernel
theorem dX6_found_23 : decode cX6_found 23 = .ok (.getfield 51, 3) := by decide +kernel
theorem dX6_found_26 : decode cX6_found 26 = .ok (.aload_n 3, 1) := by decide +kernel
theorem dX6_found_27 : decode cX6_found 27 = .ok (.invokevirtual 240, 3) := by decide +kernel
theorem dX6_found_30 : decode cX6_found 30 = .ok (.iload_n 2, 1) := by decide +kernel
theorem dX6_found_31 : decode cX6_found 31 = .ok (.ifCond .ne 11, 3) := by decide +kernel
theorem dX6_found_34 : decode cX6_found 34 = .ok (.aload_n 0, 1) := by decide +kernel
theorem dX6_found_35 : decode cX6_found 35 = .ok (.getfield 51, 3) := by decide +kernel
theorem dX6_found_38 : decode cX6_found 38 = .ok (.invokevirtual 243, 3) := by decide +kernel
theorem dX6_found_41 : decode cX6_found 41 = .ok (.ireturn, 1) := by decide +kernel
theorem dX6_found_42 : decode cX6_found 42 = .ok (.iload_n 2, 1) := by decide +kernel
theorem dX6_found_43 : decode cX6_found 43 = .ok (.iconst 1, 1) := by decide +kernel
theorem dX6_found_44 : decode cX6_found 44 = .ok (.if_icmp .ne 13, 3) := by decide +kernel
theorem dX6_found_47 : decode cX6_found 47 = .ok (.aload_n 0, 1) := by decide +kernel
theorem dX6_found_48 : decode cX6_found 48 = .ok (.getfield 51, 3) := by decide +kernel
theorem dX6_found_51 : decode cX6_found 51 = .ok (.invokevirtual 244, 3) := by decide +kernel
theorem dX6_found_54 : decode cX6_found 54 = .ok (.goto 10, 3) := by decide +kernel
theorem dX6_found_57 : decode cX6_found 57 = .ok (.aload_n 0, 1) := by decide +kernel
theorem dX6_found_58 : decode cX6_found 58 = .ok (.getfield 51, 3) := by decide +kernel
theorem dX6_found_61 : decode cX6_found 61 = .ok (.invokevirtual 247, 3) := by decide +kernel
theorem dX6_found_64 : decode cX6_found 64 = .ok (.ireturn, 1) := by decide +kernel
theorem dX6_among_0 : decode cX6_among 0 = .ok (.iload_n 1, 1) := by decide +kernel
theorem dX6_among_1 : decode cX6_among 1 = .ok (.iconst 0, 1) := by decide +kernel
theorem dX6_among_2 : decode cX6_among 2 = .ok (.iconst 1, 1) := by decide +kernel
theorem dX6_among_3 : decode cX6_among 3 = .ok (.invokestatic 63, 3) := by decide +kernel
theorem dX6_among_6 : decode cX6_among 6 = .ok (.ifCond .ne 5, 3) := by decide +kernel
theorem dX6_among_9 : decode cX6_among 9 = .ok (.iconst (-1), 1) := by decide +kernel
theorem dX6_among_10 : decode cX6_among 10 = .ok (.ireturn, 1) := by decide +kernel
theorem dX6_among_11 : decode cX6_among 11 = .ok (.iconst (-1), 1) := by decide +kernel
theorem dX6_among_12 : decode cX6_among 12 = .ok (.istore_n 2, 1) := by decide +kernel
theorem dX6_among_13 : decode cX6_among 13 = .ok (.iconst (-1), 1) := by decide +kernel
theorem dX6_among_14 : decode cX6_among 14 = .ok (.istore_n 3, 1) := by decide +kernel
theorem dX6_among_15 : decode cX6_among 15 = .ok (.iconst 0, 1) := by decide +kernel
theorem dX6_among_16 : decode cX6_among 16 = .ok (.istore 4, 2) := by decide +kernel
theorem dX6_among_18 : decode cX6_among 18 = .ok (.iconst 0, 1) := by decide +kernel
theorem dX6_among_19 : decode cX6_among 19 = .ok (.istore 5, 2) := by decide +kernel
theorem dX6_among_21 : decode cX6_among 21 = .ok (.iload 5, 2) := by decide +kernel
theorem dX6_among_23 : decode cX6_among 23 = .ok (.bipush 6, 2) := by decide +kernel
theorem dX6_among_25 : decode cX6_among 25 = .ok (.if_icmp .ge 44, 3) := by decide +kernel
theorem dX6_among_28 : decode cX6_among 28 = .ok (.aload_n 0, 1) := by decide +kernel
theorem dX6_among_29 : decode cX6_among 29 = .ok (.iload 5, 2) := by decide +kernel
theorem dX6_among_31 : decode cX6_among 31 = .ok (.invokevirtual 250, 3) := by decide +kernel
theorem dX6_among_34 : decode cX6_among 34 = .ok (.istore 6, 2) := by decide +kernel
theorem dX6_among_36 : decode cX6_among 36 = .ok (.iload 6, 2) := by decide +kernel
theorem dX6_among_38 : decode cX6_among 38 = .ok (.iload_n 2, 1) := by decide +kernel
theorem dX6_among_39 : decode cX6_among 39 = .ok (.if_icmp .le 15, 3) := by decide +kernel
theorem dX6_among_42 : decode cX6_among 42 = .ok (.iload_n 2, 1) := by decide +kernel
theorem dX6_among_43 : decode cX6_among 43 = .ok (.istore_n 3, 1) := by decide +kernel
theorem dX6_among_44 : decode cX6_among 44 = .ok (.iload 6, 2) := by decide +kernel
theorem dX6_among_46 : decode cX6_among 46 = .ok (.istore_n 2, 1) := by decide +kernel
theorem dX6_among_47 : decode cX6_among 47 = .ok (.iload 5, 2) := by decide +kernel
theorem dX6_among_49 : decode cX6_among 49 = .ok (.istore 4, 2) := by decide +kernel
theorem dX6_among_51 : decode cX6_among 51 = .ok (.goto 12, 3) := by decide +kernel
theorem dX6_among_54 : decode cX6_among 54 = .ok (.iload 6, 2) := by decide +kernel
theorem dX6_among_56 : decode cX6_among 56 = .ok (.iload_n 3, 1) := by decide +kernel
theorem dX6_among_57 : decode cX6_among 57 = .ok (.if_icmp .le 6, 3) := by decide +kernel
theorem dX6_among_60 : decode cX6_among 60 = .ok (.iload 6, 2) := by decide +kernel
theorem dX6_among_62 : decode cX6_among 62 = .ok (.istore_n 3, 1) := by decide +kernel
theorem dX6_among_63 : decode cX6_among 63 = .ok (.iinc 5 1, 3) := by decide +kernel
theorem dX6_among_66 : decode cX6_among 66 = .ok (.goto (-45), 3) := by decide +kernel
theorem dX6_among_69 : decode cX6_among 69 = .ok (.iload_n 1, 1) := by decide +kernel
theorem dX6_among_70 : decode cX6_among 70 = .ok (.ifCond .ne 8, 3) := by decide +kernel
theorem dX6_among_73 : decode cX6_among 73 = .ok (.iload 4, 2) := by decide +kernel
theorem dX6_among_75 : decode cX6_among 75 = .ok (.goto 6, 3) := by decide +kernel
theorem dX6_among_78 : decode cX6_among 78 = .ok (.iload_n 2, 1) := by decide +kernel
theorem dX6_among_79 : decode cX6_among 79 = .ok (.iload_n 3, 1) := by decide +kernel
theorem dX6_among_80 : decode cX6_among 80 = .ok (.isub, 1) := by decide +kernel
theorem dX6_among_81 : decode cX6_among 81 = .ok (.ireturn, 1) := by decide +kernel
theorem dX6_count_0 : decode cX6_count 0 = .ok (.iload_n 1, 1) := by decide +kernel
theorem dX6_count_1 : decode cX6_count 1 = .ok (.tableswitch 57 0 3 #[31, 39, 44, 52], 31) := by decide +kernel
theorem dX6_count_32 : decode cX6_count 32 = .ok (.aload_n 0, 1) := by decide +kernel
theorem dX6_count_33 : decode cX6_count 33 = .ok (.getfield 23, 3) := by decide +kernel
theorem dX6_count_36 : decode cX6_count 36 = .ok (.invokevirtual 94, 3) := by decide +kernel
theorem dX6_count_39 : decode cX6_count 39 = .ok (.ireturn, 1) := by decide +kernel
theorem dX6_count_40 : decode cX6_count 40 = .ok (.aload_n 0, 1) := by decide +kernel
theorem dX6_count_41 : decode cX6_count 41 = .ok (.invokevirtual 253, 3) := by decide +kernel
theorem dX6_count_44 : decode cX6_count 44 = .ok (.ireturn, 1) := by decide +kernel
theorem dX6_count_45 : decode cX6_count 45 = .ok (.aload_n 0, 1) := by decide +kernel
theorem dX6_count_46 : decode cX6_count 46 = .ok (.getfield 51, 3) := by decide +kernel
theorem dX6_count_49 : decode cX6_count 49 = .ok (.invokevirtual 236, 3) := by decide +kernel
theorem dX6_count_52 : decode cX6_count 52 = .ok (.ireturn, 1) := by decide +kernel
theorem dX6_count_53 : decode cX6_count 53 = .ok (.aload_n 0, 1) := by decide +kernel
theorem dX6_count_54 : decode cX6_count 54 = .ok (.invokevirtual 256, 3) := by decide +kernel
theorem dX6_count_57 : decode cX6_count 57 = .ok (.ireturn, 1) := by decide +kernel
theorem dX6_count_58 : decode cX6_count 58 = .ok (.iconst (-1), 1) := by decide +kernel
theorem dX6_count_59 : decode cX6_count 59 = .ok (.ireturn, 1) := by decide +kernel
theorem dX6_within_0 : decode cX6_within 0 = .ok (.iload_n 0, 1) := by decide +kernel
theorem dX6_within_1 : decode cX6_within 1 = .ok (.iload_n 1, 1) := by decide +kernel
theorem dX6_within_2 : decode cX6_within 2 = .ok (.if_icmp .lt 12, 3) := by decide +kernel
theorem dX6_within_5 : decode cX6_within 5 = .ok (.iload_n 0, 1) := by decide +kernel
theorem dX6_within_6 : decode cX6_within 6 = .ok (.iload_n 2, 1) := by decide +kernel
theorem dX6_within_7 : decode cX6_within 7 = .ok (.if_icmp .gt 7, 3) := by decide +kernel
theorem dX6_within_10 : decode cX6_within 10 = .ok (.iconst 1, 1) := by decide +kernel
theorem dX6_within_11 : decode cX6_within 11 = .ok (.goto 4, 3) := by decide +kernel
theorem dX6_within_14 : decode cX6_within 14 = .ok (.iconst 0, 1) := by decide +kernel
theorem dX6_within_15 : decode cX6_within 15 = .ok (.ireturn, 1) := by decide +kernel
theorem dX6_isKind_0 : decode cX6_isKind 0 = .ok (.iload_n 0, 1) := by decide +kernel
theorem dX6_isKind_1 : decode cX6_isKind 1 = .ok (.ifCond .eq 8, 3) := by decide +kernel
theorem dX6_isKind_4 : decode cX6_isKind 4 = .ok (.iload_n 0, 1) := by decide +kernel
theorem dX6_isKind_5 : decode cX6_isKind 5 = .ok (.iconst 1, 1) := by decide +kernel
theorem dX6_isKind_6 : decode cX6_isKind 6 = .ok (.if_icmp .ne 7, 3) := by decide +kernel
theorem dX6_isKind_9 : decode cX6_isKind 9 = .ok (.iconst 1, 1) := by decide +kernel
theorem dX6_isKind_10 : decode cX6_isKind 10 = .ok (.goto 4, 3) := by decide +kernel
theorem dX6_isKind_13 : decode cX6_isKind 13 = .ok (.iconst 0, 1) := by decide +kernel
theorem dX6_isKind_14 : decode cX6_isKind 14 = .ok (.ireturn, 1) := by decide +kernel
theorem dX6_isMove_0 : decode cX6_isMove 0 = .ok (.iload_n 0, 1) := by decide +kernel
theorem dX6_isMove_1 : decode cX6_isMove 1 = .ok (.bipush (-12), 2) := by decide +kernel
theorem dX6_isMove_3 : decode cX6_isMove 3 = .ok (.bipush 12, 2) := by decide +kernel
theorem dX6_isMove_5 : decode cX6_isMove 5 = .ok (.invokestatic 63, 3) := by decide +kernel
theorem dX6_isMove_8 : decode cX6_isMove 8 = .ok (.ireturn, 1) := by decide +kernel
theorem dX6_isToldPrime_0 : decode cX6_isToldPrime 0 = .ok (.iload_n 0, 1) := by decide +kernel
theorem dX6_isToldPrime_1 : decode cX6_isToldPrime 1 = .ok (.iconst 3, 1) := by decide +kernel
theorem dX6_isToldPrime_2 : decode cX6_isToldPrime 2 = .ok (.if_icmp .eq 26, 3) := by decide +kernel
theorem dX6_isToldPrime_5 : decode cX6_isToldPrime 5 = .ok (.iload_n 0, 1) := by decide +kernel
theorem dX6_isToldPrime_6 : decode cX6_isToldPrime 6 = .ok (.iconst 5, 1) := by decide +kernel
theorem dX6_isToldPrime_7 : decode cX6_isToldPrime 7 = .ok (.if_icmp .eq 21, 3) := by decide +kernel
theorem dX6_isToldPrime_10 : decode cX6_isToldPrime 10 = .ok (.iload_n 0, 1) := by decide +kernel
theorem dX6_isToldPrime_11 : decode cX6_isToldPrime 11 = .ok (.bipush 7, 2) := by decide +kernel
theorem dX6_isToldPrime_13 : decode cX6_isToldPrime 13 = .ok (.if_icmp .eq 15, 3) := by decide +kernel
theorem dX6_isToldPrime_16 : decode cX6_isToldPrime 16 = .ok (.iload_n 0, 1) := by decide +kernel
theorem dX6_isToldPrime_17 : decode cX6_isToldPrime 17 = .ok (.bipush 11, 2) := by decide +kernel
theorem dX6_isToldPrime_19 : decode cX6_isToldPrime 19 = .ok (.if_icmp .eq 9, 3) := by decide +kernel
theorem dX6_isToldPrime_22 : decode cX6_isToldPrime 22 = .ok (.iload_n 0, 1) := by decide +kernel
theorem dX6_isToldPrime_23 : decode cX6_isToldPrime 23 = .ok (.bipush 13, 2) := by decide +kernel
theorem dX6_isToldPrime_25 : decode cX6_isToldPrime 25 = .ok (.if_icmp .ne 7, 3) := by decide +kernel
theorem dX6_isToldPrime_28 : decode cX6_isToldPrime 28 = .ok (.iconst 1, 1) := by decide +kernel
theorem dX6_isToldPrime_29 : decode cX6_isToldPrime 29 = .ok (.goto 4, 3) := by decide +kernel
theorem dX6_isToldPrime_32 : decode cX6_isToldPrime 32 = .ok (.iconst 0, 1) := by decide +kernel
theorem dX6_isToldPrime_33 : decode cX6_isToldPrime 33 = .ok (.ireturn, 1) := by decide +kernel
theorem dX6_rest_0 : decode cX6_rest 0 = .ok (.iload_n 1, 1) := by decide +kernel
theorem dX6_rest_1 : decode cX6_rest 1 = .ok (.iconst 1, 1) := by decide +kernel
theorem dX6_rest_2 : decode cX6_rest 2 = .ok (.if_icmp .ge 7, 3) := by decide +kernel
theorem dX6_rest_5 : decode cX6_rest 5 = .ok (.iconst 0, 1) := by decide +kernel
theorem dX6_rest_6 : decode cX6_rest 6 = .ok (.goto 8, 3) := by decide +kernel
theorem dX6_rest_9 : decode cX6_rest 9 = .ok (.iload_n 0, 1) := by decide +kernel
theorem dX6_rest_10 : decode cX6_rest 10 = .ok (.iload_n 1, 1) := by decide +kernel
theorem dX6_rest_11 : decode cX6_rest 11 = .ok (.invokestatic 259, 3) := by decide +kernel
theorem dX6_rest_14 : decode cX6_rest 14 = .ok (.ireturn, 1) := by decide +kernel
theorem dX6_nibble_0 : decode cX6_nibble 0 = .ok (.lload_n 0, 1) := by decide +kernel
theorem dX6_nibble_1 : decode cX6_nibble 1 = .ok (.iconst 4, 1) := by decide +kernel
theorem dX6_nibble_2 : decode cX6_nibble 2 = .ok (.iload_n 2, 1) := by decide +kernel
theorem dX6_nibble_3 : decode cX6_nibble 3 = .ok (.imul, 1) := by decide +kernel
theorem dX6_nibble_4 : decode cX6_nibble 4 = .ok (.lushr, 1) := by decide +kernel
theorem dX6_nibble_5 : decode cX6_nibble 5 = .ok (.l2i, 1) := by decide +kernel
theorem dX6_nibble_6 : decode cX6_nibble 6 = .ok (.bipush 15, 2) := by decide +kernel
theorem dX6_nibble_8 : decode cX6_nibble 8 = .ok (.iand, 1) := by decide +kernel
theorem dX6_nibble_9 : decode cX6_nibble 9 = .ok (.ireturn, 1) := by decide +kernel
theorem dX6_fits_0 : decode cX6_fits 0 = .ok (.lload_n 2, 1) := by decide +kernel
theorem dX6_fits_1 : decode cX6_fits 1 = .ok (.iconst 4, 1) := by decide +kernel
theorem dX6_fits_2 : decode cX6_fits 2 = .ok (.iload_n 0, 1) := by decide +kernel
theorem dX6_fits_3 : decode cX6_fits 3 = .ok (.imul, 1) := by decide +kernel
theorem dX6_fits_4 : decode cX6_fits 4 = .ok (.lushr, 1) := by decide +kernel
theorem dX6_fits_5 : decode cX6_fits 5 = .ok (.lconst 0, 1) := by decide +kernel
theorem dX6_fits_6 : decode cX6_fits 6 = .ok (.lcmp, 1) := by decide +kernel
theorem dX6_fits_7 : decode cX6_fits 7 = .ok (.ifCond .eq 5, 3) := by decide +kernel
theorem dX6_fits_10 : decode cX6_fits 10 = .ok (.iconst 0, 1) := by decide +kernel
theorem dX6_fits_11 : decode cX6_fits 11 = .ok (.ireturn, 1) := by decide +kernel
theorem dX6_fits_12 : decode cX6_fits 12 = .ok (.iconst 0, 1) := by decide +kernel
theorem dX6_fits_13 : decode cX6_fits 13 = .ok (.istore 4, 2) := by decide +kernel
theorem dX6_fits_15 : decode cX6_fits 15 = .ok (.iload 4, 2) := by decide +kernel
theorem dX6_fits_17 : decode cX6_fits 17 = .ok (.iload_n 0, 1) := by decide +kernel
theorem dX6_fits_18 : decode cX6_fits 18 = .ok (.if_icmp .ge 32, 3) := by decide +kernel
theorem dX6_fits_21 : decode cX6_fits 21 = .ok (.lload_n 2, 1) := by decide +kernel
theorem dX6_fits_22 : decode cX6_fits 22 = .ok (.iload 4, 2) := by decide +kernel
theorem dX6_fits_24 : decode cX6_fits 24 = .ok (.invokestatic 79, 3) := by decide +kernel
theorem dX6_fits_27 : decode cX6_fits 27 = .ok (.istore 5, 2) := by decide +kernel
theorem dX6_fits_29 : decode cX6_fits 29 = .ok (.iload 5, 2) := by decide +kernel
theorem dX6_fits_31 : decode cX6_fits 31 = .ok (.iload_n 1, 1) := by decide +kernel
theorem dX6_fits_32 : decode cX6_fits 32 = .ok (.if_icmp .lt 12, 3) := by decide +kernel
theorem dX6_fits_35 : decode cX6_fits 35 = .ok (.iload 5, 2) := by decide +kernel
theorem dX6_fits_37 : decode cX6_fits 37 = .ok (.bipush 15, 2) := by decide +kernel
theorem dX6_fits_39 : decode cX6_fits 39 = .ok (.if_icmp .eq 5, 3) := by decide +kernel
theorem dX6_fits_42 : decode cX6_fits 42 = .ok (.iconst 0, 1) := by decide +kernel
theorem dX6_fits_43 : decode cX6_fits 43 = .ok (.ireturn, 1) := by decide +kernel
theorem dX6_fits_44 : decode cX6_fits 44 = .ok (.iinc 4 1, 3) := by decide +kernel
theorem dX6_fits_47 : decode cX6_fits 47 = .ok (.goto (-32), 3) := by decide +kernel
theorem dX6_fits_50 : decode cX6_fits 50 = .ok (.iconst 1, 1) := by decide +kernel
theorem dX6_fits_51 : decode cX6_fits 51 = .ok (.ireturn, 1) := by decide +kernel
theorem dX6_rowAt_0 : decode cX6_rowAt 0 = .ok (.iload_n 1, 1) := by decide +kernel
theorem dX6_rowAt_1 : decode cX6_rowAt 1 = .ok (.iconst 0, 1) := by decide +kernel
theorem dX6_rowAt_2 : decode cX6_rowAt 2 = .ok (.iconst 5, 1) := by decide +kernel
theorem dX6_rowAt_3 : decode cX6_rowAt 3 = .ok (.invokestatic 63, 3) := by decide +kernel
theorem dX6_rowAt_6 : decode cX6_rowAt 6 = .ok (.ifCond .eq 12, 3) := by decide +kernel
theorem dX6_rowAt_9 : decode cX6_rowAt 9 = .ok (.aload_n 0, 1) := by decide +kernel
theorem dX6_rowAt_10 : decode cX6_rowAt 10 = .ok (.getfield 11, 3) := by decide +kernel
theorem dX6_rowAt_13 : decode cX6_rowAt 13 = .ok (.iload_n 1, 1) := by decide +kernel
theorem dX6_rowAt_14 : decode cX6_rowAt 14 = .ok (.aaload, 1) := by decide +kernel
theorem dX6_rowAt_15 : decode cX6_rowAt 15 = .ok (.goto 4, 3) := by decide +kernel
theorem dX6_rowAt_18 : decode cX6_rowAt 18 = .ok (.aconst_null, 1) := by decide +kernel
theorem dX6_rowAt_19 : decode cX6_rowAt 19 = .ok (.areturn, 1) := by decide +kernel
theorem dX6_layOne_0 : decode cX6_layOne 0 = .ok (.aload_n 0, 1) := by decide +kernel
theorem dX6_layOne_1 : decode cX6_layOne 1 = .ok (.iload_n 1, 1) := by decide +kernel
theorem dX6_layOne_2 : decode cX6_layOne 2 = .ok (.invokevirtual 59, 3) := by decide +kernel
theorem dX6_layOne_5 : decode cX6_layOne 5 = .ok (.astore 5, 2) := by decide +kernel
theorem dX6_layOne_7 : decode cX6_layOne 7 = .ok (.aload 5, 2) := by decide +kernel
theorem dX6_layOne_9 : decode cX6_layOne 9 = .ok (.ifnonnull 4, 3) := by decide +kernel
theorem dX6_layOne_12 : decode cX6_layOne 12 = .ok (.return_, 1) := by decide +kernel
theorem dX6_layOne_13 : decode cX6_layOne 13 = .ok (.aload 5, 2) := by decide +kernel
theorem dX6_layOne_15 : decode cX6_layOne 15 = .ok (.iload 4, 2) := by decide +kernel
theorem dX6_layOne_17 : decode cX6_layOne 17 = .ok (.iload_n 3, 1) := by decide +kernel
theorem dX6_layOne_18 : decode cX6_layOne 18 = .ok (.isub, 1) := by decide +kernel
theorem dX6_layOne_19 : decode cX6_layOne 19 = .ok (.iload_n 2, 1) := by decide +kernel
theorem dX6_layOne_20 : decode cX6_layOne 20 = .ok (.invokevirtual 75, 3) := by decide +kernel
theorem dX6_layOne_23 : decode cX6_layOne 23 = .ok (.iconst 0, 1) := by decide +kernel
theorem dX6_layOne_24 : decode cX6_layOne 24 = .ok (.istore 6, 2) := by decide +kernel
theorem dX6_layOne_26 : decode cX6_layOne 26 = .ok (.iload 6, 2) := by decide +kernel
theorem dX6_layOne_28 : decode cX6_layOne 28 = .ok (.iload 4, 2) := by decide +kernel
theorem dX6_layOne_30 : decode cX6_layOne 30 = .ok (.iload_n 3, 1) := by decide +kernel
theorem dX6_layOne_31 : decode cX6_layOne 31 = .ok (.isub, 1) := by decide +kernel
theorem dX6_layOne_32 : decode cX6_layOne 32 = .ok (.if_icmp .ge 27, 3) := by decide +kernel
theorem dX6_layOne_35 : decode cX6_layOne 35 = .ok (.aload 5, 2) := by decide +kernel
theorem dX6_layOne_37 : decode cX6_layOne 37 = .ok (.iload 6, 2) := by decide +kernel
theorem dX6_layOne_39 : decode cX6_layOne 39 = .ok (.aload_n 0, 1) := by decide +kernel
theorem dX6_layOne_40 : decode cX6_layOne 40 = .ok (.getfield 23, 3) := by decide +kernel
theorem dX6_layOne_43 : decode cX6_layOne 43 = .ok (.iload_n 3, 1) := by decide +kernel
theorem dX6_layOne_44 : decode cX6_layOne 44 = .ok (.iload 6, 2) := by decide +kernel
theorem dX6_layOne_46 : decode cX6_layOne 46 = .ok (.iadd, 1) := by decide +kernel
theorem dX6_layOne_47 : decode cX6_layOne 47 = .ok (.invokevirtual 264, 3) := by decide +kernel
theorem dX6_layOne_50 : decode cX6_layOne 50 = .ok (.invokevirtual 83, 3) := by decide +kernel
theorem dX6_layOne_53 : decode cX6_layOne 53 = .ok (.iinc 6 1, 3) := by decide +kernel
theorem dX6_layOne_56 : decode cX6_layOne 56 = .ok (.goto (-30), 3) := by decide +kernel
theorem dX6_layOne_59 : decode cX6_layOne 59 = .ok (.return_, 1) := by decide +kernel
theorem dX6_countOrMake_0 : decode cX6_countOrMake 0 = .ok (.iload_n 1, 1) := by decide +kernel
theorem dX6_countOrMake_1 : decode cX6_countOrMake 1 = .ok (.ifCond .ge 11, 3) := by decide +kernel
theorem dX6_countOrMake_4 : decode cX6_countOrMake 4 = .ok (.aload_n 0, 1) := by decide +kernel
theorem dX6_countOrMake_5 : decode cX6_countOrMake 5 = .ok (.getfield 37, 3) := by decide +kernel
theorem dX6_countOrMake_8 : decode cX6_countOrMake 8 = .ok (.invokevirtual 265, 3) := by decide +kernel
theorem dX6_countOrMake_11 : decode cX6_countOrMake 11 = .ok (.ireturn, 1) := by decide +kernel
theorem dX6_countOrMake_12 : decode cX6_countOrMake 12 = .ok (.aload_n 0, 1) := by decide +kernel
theorem dX6_countOrMake_13 : decode cX6_countOrMake 13 = .ok (.iload_n 2, 1) := by decide +kernel
theorem dX6_countOrMake_14 : decode cX6_countOrMake 14 = .ok (.invokevirtual 59, 3) := by decide +kernel
theorem dX6_countOrMake_17 : decode cX6_countOrMake 17 = .ok (.astore_n 3, 1) := by decide +kernel
theorem dX6_countOrMake_18 : decode cX6_countOrMake 18 = .ok (.aload_n 3, 1) := by decide +kernel
theorem dX6_countOrMake_19 : decode cX6_countOrMake 19 = .ok (.ifnonnull 5, 3) := by decide +kernel
theorem dX6_countOrMake_22 : decode cX6_countOrMake 22 = .ok (.iconst (-1), 1) := by decide +kernel
theorem dX6_countOrMake_23 : decode cX6_countOrMake 23 = .ok (.ireturn, 1) := by decide +kernel
theorem dX6_countOrMake_24 : decode cX6_countOrMake 24 = .ok (.aload_n 0, 1) := by decide +kernel
theorem dX6_countOrMake_25 : decode cX6_countOrMake 25 = .ok (.getfield 37, 3) := by decide +kernel
theorem dX6_countOrMake_28 : decode cX6_countOrMake 28 = .ok (.iload_n 1, 1) := by decide +kernel
theorem dX6_countOrMake_29 : decode cX6_countOrMake 29 = .ok (.invokevirtual 187, 3) := by decide +kernel
theorem dX6_countOrMake_32 : decode cX6_countOrMake 32 = .ok (.ifCond .ne 6, 3) := by decide +kernel
theorem dX6_countOrMake_35 : decode cX6_countOrMake 35 = .ok (.bipush (-4), 2) := by decide +kernel
theorem dX6_countOrMake_37 : decode cX6_countOrMake 37 = .ok (.ireturn, 1) := by decide +kernel
theorem dX6_countOrMake_38 : decode cX6_countOrMake 38 = .ok (.aload_n 0, 1) := by decide +kernel
theorem dX6_countOrMake_39 : decode cX6_countOrMake 39 = .ok (.getfield 37, 3) := by decide +kernel
theorem dX6_countOrMake_42 : decode cX6_countOrMake 42 = .ok (.aload_n 3, 1) := by decide +kernel
theorem dX6_countOrMake_43 : decode cX6_countOrMake 43 = .ok (.invokevirtual 268, 3) := by decide +kernel
theorem dX6_countOrMake_46 : decode cX6_countOrMake 46 = .ok (.iload_n 2, 1) := by decide +kernel
theorem dX6_countOrMake_47 : decode cX6_countOrMake 47 = .ok (.ireturn, 1) := by decide +kernel
theorem dX6_quarrel_0 : decode cX6_quarrel 0 = .ok (.aload_n 0, 1) := by decide +kernel
theorem dX6_quarrel_1 : decode cX6_quarrel 1 = .ok (.iload_n 2, 1) := by decide +kernel
theorem dX6_quarrel_2 : decode cX6_quarrel 2 = .ok (.invokevirtual 116, 3) := by decide +kernel
theorem dX6_quarrel_5 : decode cX6_quarrel 5 = .ok (.ifCond .eq 33, 3) := by decide +kernel
theorem dX6_quarrel_8 : decode cX6_quarrel 8 = .ok (.aload_n 0, 1) := by decide +kernel
theorem dX6_quarrel_9 : decode cX6_quarrel 9 = .ok (.iload_n 2, 1) := by decide +kernel
theorem dX6_quarrel_10 : decode cX6_quarrel 10 = .ok (.iload 4, 2) := by decide +kernel
theorem dX6_quarrel_12 : decode cX6_quarrel 12 = .ok (.iadd, 1) := by decide +kernel
theorem dX6_quarrel_13 : decode cX6_quarrel 13 = .ok (.invokevirtual 116, 3) := by decide +kernel
theorem dX6_quarrel_16 : decode cX6_quarrel 16 = .ok (.ifCond .eq 22, 3) := by decide +kernel
theorem dX6_quarrel_19 : decode cX6_quarrel 19 = .ok (.aload_n 0, 1) := by decide +kernel
theorem dX6_quarrel_20 : decode cX6_quarrel 20 = .ok (.iload_n 3, 1) := by decide +kernel
theorem dX6_quarrel_21 : decode cX6_quarrel 21 = .ok (.invokevirtual 116, 3) := by decide +kernel
theorem dX6_quarrel_24 : decode cX6_quarrel 24 = .ok (.ifCond .eq 14, 3) := by decide +kernel
theorem dX6_quarrel_27 : decode cX6_quarrel 27 = .ok (.aload_n 0, 1) := by decide +kernel
theorem dX6_quarrel_28 : decode cX6_quarrel 28 = .ok (.iload_n 3, 1) := by decide +kernel
theorem dX6_quarrel_29 : decode cX6_quarrel 29 = .ok (.iload 4, 2) := by decide +kernel
theorem dX6_quarrel_31 : decode cX6_quarrel 31 = .ok (.iadd, 1) := by decide +kernel
theorem dX6_quarrel_32 : decode cX6_quarrel 32 = .ok (.invokevirtual 116, 3) := by decide +kernel
theorem dX6_quarrel_35 : decode cX6_quarrel 35 = .ok (.ifCond .ne 5, 3) := by decide +kernel
theorem dX6_quarrel_38 : decode cX6_quarrel 38 = .ok (.iconst 0, 1) := by decide +kernel
theorem dX6_quarrel_39 : decode cX6_quarrel 39 = .ok (.ireturn, 1) := by decide +kernel
theorem dX6_quarrel_40 : decode cX6_quarrel 40 = .ok (.aload_n 0, 1) := by decide +kernel
theorem dX6_quarrel_41 : decode cX6_quarrel 41 = .ok (.iload_n 2, 1) := by decide +kernel
theorem dX6_quarrel_42 : decode cX6_quarrel 42 = .ok (.iload_n 2, 1) := by decide +kernel
theorem dX6_quarrel_43 : decode cX6_quarrel 43 = .ok (.iload 4, 2) := by decide +kernel
theorem dX6_quarrel_45 : decode cX6_quarrel 45 = .ok (.iadd, 1) := by decide +kernel
theorem dX6_quarrel_46 : decode cX6_quarrel 46 = .ok (.iload_n 1, 1) := by decide +kernel
theorem dX6_quarrel_47 : decode cX6_quarrel 47 = .ok (.invokevirtual 132, 3) := by decide +kernel
theorem dX6_quarrel_50 : decode cX6_quarrel 50 = .ok (.aload_n 0, 1) := by decide +kernel
theorem dX6_quarrel_51 : decode cX6_quarrel 51 = .ok (.iload_n 3, 1) := by decide +kernel
theorem dX6_quarrel_52 : decode cX6_quarrel 52 = .ok (.iload_n 3, 1) := by decide +kernel
theorem dX6_quarrel_53 : decode cX6_quarrel 53 = .ok (.iload 4, 2) := by decide +kernel
theorem dX6_quarrel_55 : decode cX6_quarrel 55 = .ok (.iadd, 1) := by decide +kernel
theorem dX6_quarrel_56 : decode cX6_quarrel 56 = .ok (.iload_n 1, 1) := by decide +kernel
theorem dX6_quarrel_57 : decode cX6_quarrel 57 = .ok (.invokevirtual 132, 3) := by decide +kernel
theorem dX6_quarrel_60 : decode cX6_quarrel 60 = .ok (.if_icmp .ne 7, 3) := by decide +kernel
theorem dX6_quarrel_63 : decode cX6_quarrel 63 = .ok (.iconst 1, 1) := by decide +kernel
theorem dX6_quarrel_64 : decode cX6_quarrel 64 = .ok (.goto 4, 3) := by decide +kernel
theorem dX6_quarrel_67 : decode cX6_quarrel 67 = .ok (.iconst 0, 1) := by decide +kernel
theorem dX6_quarrel_68 : decode cX6_quarrel 68 = .ok (.ireturn, 1) := by decide +kernel
theorem dX6_firstQuarrel_0 : decode cX6_firstQuarrel 0 = .ok (.aload_n 0, 1) := by decide +kernel
theorem dX6_firstQuarrel_1 : decode cX6_firstQuarrel 1 = .ok (.invokevirtual 71, 3) := by decide +kernel
theorem dX6_firstQuarrel_4 : decode cX6_firstQuarrel 4 = .ok (.istore_n 2, 1) := by decide +kernel
theorem dX6_firstQuarrel_5 : decode cX6_firstQuarrel 5 = .ok (.iconst 0, 1) := by decide +kernel
theorem dX6_firstQuarrel_6 : decode cX6_firstQuarrel 6 = .ok (.istore_n 3, 1) := by decide +kernel
theorem dX6_firstQuarrel_7 : decode cX6_firstQuarrel 7 = .ok (.iload_n 3, 1) := by decide +kernel
theorem dX6_firstQuarrel_8 : decode cX6_firstQuarrel 8 = .ok (.iload_n 2, 1) := by decide +kernel
theorem dX6_firstQuarrel_9 : decode cX6_firstQuarrel 9 = .ok (.if_icmp .ge 90, 3) := by decide +kernel
theorem dX6_firstQuarrel_12 : decode cX6_firstQuarrel 12 = .ok (.iload_n 3, 1) := by decide +kernel
theorem dX6_firstQuarrel_13 : decode cX6_firstQuarrel 13 = .ok (.iconst 1, 1) := by decide +kernel
theorem dX6_firstQuarrel_14 : decode cX6_firstQuarrel 14 = .ok (.iadd, 1) := by decide +kernel
theorem dX6_firstQuarrel_15 : decode cX6_firstQuarrel 15 = .ok (.istore 4, 2) := by decide +kernel
theorem dX6_firstQuarrel_17 : decode cX6_firstQuarrel 17 = .ok (.iload 4, 2) := by decide +kernel
theorem dX6_firstQuarrel_19 : decode cX6_firstQuarrel 19 = .ok (.iload_n 2, 1) := by decide +kernel
theorem dX6_firstQuarrel_20 : decode cX6_firstQuarrel 20 = .ok (.if_icmp .ge 73, 3) := by decide +kernel
theorem dX6_firstQuarrel_23 : decode cX6_firstQuarrel 23 = .ok (.iload_n 3, 1) := by decide +kernel
theorem dX6_firstQuarrel_24 : decode cX6_firstQuarrel 24 = .ok (.iconst 1, 1) := by decide +kernel
theorem dX6_firstQuarrel_25 : decode cX6_firstQuarrel 25 = .ok (.iadd, 1) := by decide +kernel
theorem dX6_firstQuarrel_26 : decode cX6_firstQuarrel 26 = .ok (.istore 5, 2) := by decide +kernel
theorem dX6_firstQuarrel_28 : decode cX6_firstQuarrel 28 = .ok (.iload 5, 2) := by decide +kernel
theorem dX6_firstQuarrel_30 : decode cX6_firstQuarrel 30 = .ok (.iload 4, 2) := by decide +kernel
theorem dX6_firstQuarrel_32 : decode cX6_firstQuarrel 32 = .ok (.iadd, 1) := by decide +kernel
theorem dX6_firstQuarrel_33 : decode cX6_firstQuarrel 33 = .ok (.iload_n 3, 1) := by decide +kernel
theorem dX6_firstQuarrel_34 : decode cX6_firstQuarrel 34 = .ok (.isub, 1) := by decide +kernel
theorem dX6_firstQuarrel_35 : decode cX6_firstQuarrel 35 = .ok (.iload_n 2, 1) := by decide +kernel
theorem dX6_firstQuarrel_36 : decode cX6_firstQuarrel 36 = .ok (.if_icmp .ge 51, 3) := by decide +kernel
theorem dX6_firstQuarrel_39 : decode cX6_firstQuarrel 39 = .ok (.aload_n 0, 1) := by decide +kernel
theorem dX6_firstQuarrel_40 : decode cX6_firstQuarrel 40 = .ok (.iload_n 1, 1) := by decide +kernel
theorem dX6_firstQuarrel_41 : decode cX6_firstQuarrel 41 = .ok (.iload_n 3, 1) := by decide +kernel
theorem dX6_firstQuarrel_42 : decode cX6_firstQuarrel 42 = .ok (.iload 5, 2) := by decide +kernel
theorem dX6_firstQuarrel_44 : decode cX6_firstQuarrel 44 = .ok (.iload 4, 2) := by decide +kernel
theorem dX6_firstQuarrel_46 : decode cX6_firstQuarrel 46 = .ok (.iload_n 3, 1) := by decide +kernel
theorem dX6_firstQuarrel_47 : decode cX6_firstQuarrel 47 = .ok (.isub, 1) := by decide +kernel
theorem dX6_firstQuarrel_48 : decode cX6_firstQuarrel 48 = .ok (.invokestatic 271, 3) := by decide +kernel
theorem dX6_firstQuarrel_51 : decode cX6_firstQuarrel 51 = .ok (.ifCond .eq 30, 3) := by decide +kernel
theorem dX6_firstQuarrel_54 : decode cX6_firstQuarrel 54 = .ok (.sipush 4096, 3) := by decide +kernel
theorem dX6_firstQuarrel_57 : decode cX6_firstQuarrel 57 = .ok (.iload_n 3, 1) := by decide +kernel
theorem dX6_firstQuarrel_58 : decode cX6_firstQuarrel 58 = .ok (.imul, 1) := by decide +kernel
theorem dX6_firstQuarrel_59 : decode cX6_firstQuarrel 59 = .ok (.sipush 256, 3) := by decide +kernel
theorem dX6_firstQuarrel_62 : decode cX6_firstQuarrel 62 = .ok (.iload 4, 2) := by decide +kernel
theorem dX6_firstQuarrel_64 : decode cX6_firstQuarrel 64 = .ok (.imul, 1) := by decide +kernel
theorem dX6_firstQuarrel_65 : decode cX6_firstQuarrel 65 = .ok (.iadd, 1) := by decide +kernel
theorem dX6_firstQuarrel_66 : decode cX6_firstQuarrel 66 = .ok (.bipush 16, 2) := by decide +kernel
theorem dX6_firstQuarrel_68 : decode cX6_firstQuarrel 68 = .ok (.iload 5, 2) := by decide +kernel
theorem dX6_firstQuarrel_70 : decode cX6_firstQuarrel 70 = .ok (.imul, 1) := by decide +kernel
theorem dX6_firstQuarrel_71 : decode cX6_firstQuarrel 71 = .ok (.iadd, 1) := by decide +kernel
theorem dX6_firstQuarrel_72 : decode cX6_firstQuarrel 72 = .ok (.iload 5, 2) := by decide +kernel
theorem dX6_firstQuarrel_74 : decode cX6_firstQuarrel 74 = .ok (.iadd, 1) := by decide +kernel
theorem dX6_firstQuarrel_75 : decode cX6_firstQuarrel 75 = .ok (.iload 4, 2) := by decide +kernel
theorem dX6_firstQuarrel_77 : decode cX6_firstQuarrel 77 = .ok (.iadd, 1) := by decide +kernel
theorem dX6_firstQuarrel_78 : decode cX6_firstQuarrel 78 = .ok (.iload_n 3, 1) := by decide +kernel
theorem dX6_firstQuarrel_79 : decode cX6_firstQuarrel 79 = .ok (.isub, 1) := by decide +kernel
theorem dX6_firstQuarrel_80 : decode cX6_firstQuarrel 80 = .ok (.ireturn, 1) := by decide +kernel
theorem dX6_firstQuarrel_81 : decode cX6_firstQuarrel 81 = .ok (.iinc 5 1, 3) := by decide +kernel
theorem dX6_firstQuarrel_84 : decode cX6_firstQuarrel 84 = .ok (.goto (-56), 3) := by decide +kernel
theorem dX6_firstQuarrel_87 : decode cX6_firstQuarrel 87 = .ok (.iinc 4 1, 3) := by decide +kernel
theorem dX6_firstQuarrel_90 : decode cX6_firstQuarrel 90 = .ok (.goto (-73), 3) := by decide +kernel
theorem dX6_firstQuarrel_93 : decode cX6_firstQuarrel 93 = .ok (.iinc 3 1, 3) := by decide +kernel
theorem dX6_firstQuarrel_96 : decode cX6_firstQuarrel 96 = .ok (.goto (-89), 3) := by decide +kernel
theorem dX6_firstQuarrel_99 : decode cX6_firstQuarrel 99 = .ok (.bipush (-4), 2) := by decide +kernel
theorem dX6_firstQuarrel_101 : decode cX6_firstQuarrel 101 = .ok (.ireturn, 1) := by decide +kernel
theorem dX6_quarrelCount_0 : decode cX6_quarrelCount 0 = .ok (.aload_n 0, 1) := by decide +kernel
theorem dX6_quarrelCount_1 : decode cX6_quarrelCount 1 = .ok (.invokevirtual 71, 3) := by decide +kernel
theorem dX6_quarrelCount_4 : decode cX6_quarrelCount 4 = .ok (.istore_n 2, 1) := by decide +kernel
theorem dX6_quarrelCount_5 : decode cX6_quarrelCount 5 = .ok (.iconst 0, 1) := by decide +kernel
theorem dX6_quarrelCount_6 : decode cX6_quarrelCount 6 = .ok (.istore_n 3, 1) := by decide +kernel
theorem dX6_quarrelCount_7 : decode cX6_quarrelCount 7 = .ok (.iconst 1, 1) := by decide +kernel
theorem dX6_quarrelCount_8 : decode cX6_quarrelCount 8 = .ok (.istore 4, 2) := by decide +kernel
theorem dX6_quarrelCount_10 : decode cX6_quarrelCount 10 = .ok (.iload 4, 2) := by decide +kernel
theorem dX6_quarrelCount_12 : decode cX6_quarrelCount 12 = .ok (.iload_n 2, 1) := by decide +kernel
theorem dX6_quarrelCount_13 : decode cX6_quarrelCount 13 = .ok (.if_icmp .ge 60, 3) := by decide +kernel
theorem dX6_quarrelCount_16 : decode cX6_quarrelCount 16 = .ok (.iconst 1, 1) := by decide +kernel
theorem dX6_quarrelCount_17 : decode cX6_quarrelCount 17 = .ok (.istore 5, 2) := by decide +kernel
theorem dX6_quarrelCount_19 : decode cX6_quarrelCount 19 = .ok (.iload 5, 2) := by decide +kernel
theorem dX6_quarrelCount_21 : decode cX6_quarrelCount 21 = .ok (.iload 4, 2) := by decide +kernel
theorem dX6_quarrelCount_23 : decode cX6_quarrelCount 23 = .ok (.iadd, 1) := by decide +kernel
theorem dX6_quarrelCount_24 : decode cX6_quarrelCount 24 = .ok (.iload_n 2, 1) := by decide +kernel
theorem dX6_quarrelCount_25 : decode cX6_quarrelCount 25 = .ok (.if_icmp .ge 42, 3) := by decide +kernel
theorem dX6_quarrelCount_28 : decode cX6_quarrelCount 28 = .ok (.iconst 0, 1) := by decide +kernel
theorem dX6_quarrelCount_29 : decode cX6_quarrelCount 29 = .ok (.istore 6, 2) := by decide +kernel
theorem dX6_quarrelCount_31 : decode cX6_quarrelCount 31 = .ok (.iload 6, 2) := by decide +kernel
theorem dX6_quarrelCount_33 : decode cX6_quarrelCount 33 = .ok (.iload 5, 2) := by decide +kernel
theorem dX6_quarrelCount_35 : decode cX6_quarrelCount 35 = .ok (.if_icmp .ge 26, 3) := by decide +kernel
theorem dX6_quarrelCount_38 : decode cX6_quarrelCount 38 = .ok (.aload_n 0, 1) := by decide +kernel
theorem dX6_quarrelCount_39 : decode cX6_quarrelCount 39 = .ok (.iload_n 1, 1) := by decide +kernel
theorem dX6_quarrelCount_40 : decode cX6_quarrelCount 40 = .ok (.iload 6, 2) := by decide +kernel
theorem dX6_quarrelCount_42 : decode cX6_quarrelCount 42 = .ok (.iload 5, 2) := by decide +kernel
theorem dX6_quarrelCount_44 : decode cX6_quarrelCount 44 = .ok (.iload 4, 2) := by decide +kernel
theorem dX6_quarrelCount_46 : decode cX6_quarrelCount 46 = .ok (.invokestatic 271, 3) := by decide +kernel
theorem dX6_quarrelCount_49 : decode cX6_quarrelCount 49 = .ok (.ifCond .eq 6, 3) := by decide +kernel
theorem dX6_quarrelCount_52 : decode cX6_quarrelCount 52 = .ok (.iinc 3 1, 3) := by decide +kernel
theorem dX6_quarrelCount_55 : decode cX6_quarrelCount 55 = .ok (.iinc 6 1, 3) := by decide +kernel
theorem dX6_quarrelCount_58 : decode cX6_quarrelCount 58 = .ok (.goto (-27), 3) := by decide +kernel
theorem dX6_quarrelCount_61 : decode cX6_quarrelCount 61 = .ok (.iinc 5 1, 3) := by decide +kernel
theorem dX6_quarrelCount_64 : decode cX6_quarrelCount 64 = .ok (.goto (-45), 3) := by decide +kernel
theorem dX6_quarrelCount_67 : decode cX6_quarrelCount 67 = .ok (.iinc 4 1, 3) := by decide +kernel
theorem dX6_quarrelCount_70 : decode cX6_quarrelCount 70 = .ok (.goto (-60), 3) := by decide +kernel
theorem dX6_quarrelCount_73 : decode cX6_quarrelCount 73 = .ok (.iload_n 3, 1) := by decide +kernel
theorem dX6_quarrelCount_74 : decode cX6_quarrelCount 74 = .ok (.ireturn, 1) := by decide +kernel
theorem dX6_meeting_0 : decode cX6_meeting 0 = .ok (.iconst 0, 1) := by decide +kernel
theorem dX6_meeting_1 : decode cX6_meeting 1 = .ok (.istore 4, 2) := by decide +kernel
theorem dX6_meeting_3 : decode cX6_meeting 3 = .ok (.iconst 0, 1) := by decide +kernel
theorem dX6_meeting_4 : decode cX6_meeting 4 = .ok (.istore 5, 2) := by decide +kernel
theorem dX6_meeting_6 : decode cX6_meeting 6 = .ok (.iload 5, 2) := by decide +kernel
theorem dX6_meeting_8 : decode cX6_meeting 8 = .ok (.aload_n 0, 1) := by decide +kernel
theorem dX6_meeting_9 : decode cX6_meeting 9 = .ok (.invokevirtual 71, 3) := by decide +kernel
theorem dX6_meeting_12 : decode cX6_meeting 12 = .ok (.if_icmp .ge 40, 3) := by decide +kernel
theorem dX6_meeting_15 : decode cX6_meeting 15 = .ok (.aload_n 0, 1) := by decide +kernel
theorem dX6_meeting_16 : decode cX6_meeting 16 = .ok (.iload 5, 2) := by decide +kernel
theorem dX6_meeting_18 : decode cX6_meeting 18 = .ok (.invokevirtual 116, 3) := by decide +kernel
theorem dX6_meeting_21 : decode cX6_meeting 21 = .ok (.ifCond .eq 25, 3) := by decide +kernel
theorem dX6_meeting_24 : decode cX6_meeting 24 = .ok (.aload_n 1, 1) := by decide +kernel
theorem dX6_meeting_25 : decode cX6_meeting 25 = .ok (.iload 5, 2) := by decide +kernel
theorem dX6_meeting_27 : decode cX6_meeting 27 = .ok (.iload_n 2, 1) := by decide +kernel
theorem dX6_meeting_28 : decode cX6_meeting 28 = .ok (.iadd, 1) := by decide +kernel
theorem dX6_meeting_29 : decode cX6_meeting 29 = .ok (.aload_n 0, 1) := by decide +kernel
theorem dX6_meeting_30 : decode cX6_meeting 30 = .ok (.iload 5, 2) := by decide +kernel
theorem dX6_meeting_32 : decode cX6_meeting 32 = .ok (.invokevirtual 119, 3) := by decide +kernel
theorem dX6_meeting_35 : decode cX6_meeting 35 = .ok (.iload_n 3, 1) := by decide +kernel
theorem dX6_meeting_36 : decode cX6_meeting 36 = .ok (.iadd, 1) := by decide +kernel
theorem dX6_meeting_37 : decode cX6_meeting 37 = .ok (.invokevirtual 275, 3) := by decide +kernel
theorem dX6_meeting_40 : decode cX6_meeting 40 = .ok (.ifCond .eq 6, 3) := by decide +kernel
theorem dX6_meeting_43 : decode cX6_meeting 43 = .ok (.iinc 4 1, 3) := by decide +kernel
theorem dX6_meeting_46 : decode cX6_meeting 46 = .ok (.iinc 5 1, 3) := by decide +kernel
theorem dX6_meeting_49 : decode cX6_meeting 49 = .ok (.goto (-43), 3) := by decide +kernel
theorem dX6_meeting_52 : decode cX6_meeting 52 = .ok (.iload 4, 2) := by decide +kernel
theorem dX6_meeting_54 : decode cX6_meeting 54 = .ok (.ireturn, 1) := by decide +kernel
theorem dX6_meetingRound_0 : decode cX6_meetingRound 0 = .ok (.iconst 0, 1) := by decide +kernel
theorem dX6_meetingRound_1 : decode cX6_meetingRound 1 = .ok (.istore 4, 2) := by decide +kernel
theorem dX6_meetingRound_3 : decode cX6_meetingRound 3 = .ok (.iconst 0, 1) := by decide +kernel
theorem dX6_meetingRound_4 : decode cX6_meetingRound 4 = .ok (.istore 5, 2) := by decide +kernel
theorem dX6_meetingRound_6 : decode cX6_meetingRound 6 = .ok (.iload 5, 2) := by decide +kernel
theorem dX6_meetingRound_8 : decode cX6_meetingRound 8 = .ok (.aload_n 0, 1) := by decide +kernel
theorem dX6_meetingRound_9 : decode cX6_meetingRound 9 = .ok (.invokevirtual 71, 3) := by decide +kernel
theorem dX6_meetingRound_12 : decode cX6_meetingRound 12 = .ok (.if_icmp .ge 74, 3) := by decide +kernel
theorem dX6_meetingRound_15 : decode cX6_meetingRound 15 = .ok (.iload 5, 2) := by decide +kernel
theorem dX6_meetingRound_17 : decode cX6_meetingRound 17 = .ok (.aload_n 1, 1) := by decide +kernel
theorem dX6_meetingRound_18 : decode cX6_meetingRound 18 = .ok (.invokevirtual 71, 3) := by decide +kernel
theorem dX6_meetingRound_21 : decode cX6_meetingRound 21 = .ok (.if_icmp .ge 65, 3) := by decide +kernel
theorem dX6_meetingRound_24 : decode cX6_meetingRound 24 = .ok (.aload_n 0, 1) := by decide +kernel
theorem dX6_meetingRound_25 : decode cX6_meetingRound 25 = .ok (.iload 5, 2) := by decide +kernel
theorem dX6_meetingRound_27 : decode cX6_meetingRound 27 = .ok (.invokevirtual 119, 3) := by decide +kernel
theorem dX6_meetingRound_30 : decode cX6_meetingRound 30 = .ok (.istore 6, 2) := by decide +kernel
theorem dX6_meetingRound_32 : decode cX6_meetingRound 32 = .ok (.iload 6, 2) := by decide +kernel
theorem dX6_meetingRound_34 : decode cX6_meetingRound 34 = .ok (.bipush 15, 2) := by decide +kernel
theorem dX6_meetingRound_36 : decode cX6_meetingRound 36 = .ok (.if_icmp .eq 44, 3) := by decide +kernel
theorem dX6_meetingRound_39 : decode cX6_meetingRound 39 = .ok (.iload 6, 2) := by decide +kernel
theorem dX6_meetingRound_41 : decode cX6_meetingRound 41 = .ok (.aload_n 1, 1) := by decide +kernel
theorem dX6_meetingRound_42 : decode cX6_meetingRound 42 = .ok (.invokevirtual 113, 3) := by decide +kernel
theorem dX6_meetingRound_45 : decode cX6_meetingRound 45 = .ok (.if_icmp .ge 35, 3) := by decide +kernel
theorem dX6_meetingRound_48 : decode cX6_meetingRound 48 = .ok (.aload_n 1, 1) := by decide +kernel
theorem dX6_meetingRound_49 : decode cX6_meetingRound 49 = .ok (.iload 5, 2) := by decide +kernel
theorem dX6_meetingRound_51 : decode cX6_meetingRound 51 = .ok (.iload_n 2, 1) := by decide +kernel
theorem dX6_meetingRound_52 : decode cX6_meetingRound 52 = .ok (.iadd, 1) := by decide +kernel
theorem dX6_meetingRound_53 : decode cX6_meetingRound 53 = .ok (.aload_n 1, 1) := by decide +kernel
theorem dX6_meetingRound_54 : decode cX6_meetingRound 54 = .ok (.invokevirtual 71, 3) := by decide +kernel
theorem dX6_meetingRound_57 : decode cX6_meetingRound 57 = .ok (.invokestatic 196, 3) := by decide +kernel
theorem dX6_meetingRound_60 : decode cX6_meetingRound 60 = .ok (.iload 6, 2) := by decide +kernel
theorem dX6_meetingRound_62 : decode cX6_meetingRound 62 = .ok (.iload_n 3, 1) := by decide +kernel
theorem dX6_meetingRound_63 : decode cX6_meetingRound 63 = .ok (.iadd, 1) := by decide +kernel
theorem dX6_meetingRound_64 : decode cX6_meetingRound 64 = .ok (.aload_n 1, 1) := by decide +kernel
theorem dX6_meetingRound_65 : decode cX6_meetingRound 65 = .ok (.invokevirtual 113, 3) := by decide +kernel
theorem dX6_meetingRound_68 : decode cX6_meetingRound 68 = .ok (.invokestatic 196, 3) := by decide +kernel
theorem dX6_meetingRound_71 : decode cX6_meetingRound 71 = .ok (.invokevirtual 275, 3) := by decide +kernel
theorem dX6_meetingRound_74 : decode cX6_meetingRound 74 = .ok (.ifCond .eq 6, 3) := by decide +kernel
theorem dX6_meetingRound_77 : decode cX6_meetingRound 77 = .ok (.iinc 4 1, 3) := by decide +kernel
theorem dX6_meetingRound_80 : decode cX6_meetingRound 80 = .ok (.iinc 5 1, 3) := by decide +kernel
theorem dX6_meetingRound_83 : decode cX6_meetingRound 83 = .ok (.goto (-77), 3) := by decide +kernel
theorem dX6_meetingRound_86 : decode cX6_meetingRound 86 = .ok (.iload 4, 2) := by decide +kernel
theorem dX6_meetingRound_88 : decode cX6_meetingRound 88 = .ok (.ireturn, 1) := by decide +kernel
theorem dX6_powerBy_0 : decode cX6_powerBy 0 = .ok (.iconst 1, 1) := by decide +kernel
theorem dX6_powerBy_1 : decode cX6_powerBy 1 = .ok (.istore_n 3, 1) := by decide +kernel
theorem dX6_powerBy_2 : decode cX6_powerBy 2 = .ok (.iconst 0, 1) := by decide +kernel
theorem dX6_powerBy_3 : decode cX6_powerBy 3 = .ok (.istore 4, 2) := by decide +kernel
theorem dX6_powerBy_5 : decode cX6_powerBy 5 = .ok (.iload 4, 2) := by decide +kernel
theorem dX6_powerBy_7 : decode cX6_powerBy 7 = .ok (.iload_n 1, 1) := by decide +kernel
theorem dX6_powerBy_8 : decode cX6_powerBy 8 = .ok (.if_icmp .ge 17, 3) := by decide +kernel
theorem dX6_powerBy_11 : decode cX6_powerBy 11 = .ok (.iload_n 3, 1) := by decide +kernel
theorem dX6_powerBy_12 : decode cX6_powerBy 12 = .ok (.iload_n 0, 1) := by decide +kernel
theorem dX6_powerBy_13 : decode cX6_powerBy 13 = .ok (.imul, 1) := by decide +kernel
theorem dX6_powerBy_14 : decode cX6_powerBy 14 = .ok (.iload_n 2, 1) := by decide +kernel
theorem dX6_powerBy_15 : decode cX6_powerBy 15 = .ok (.invokestatic 196, 3) := by decide +kernel
theorem dX6_powerBy_18 : decode cX6_powerBy 18 = .ok (.istore_n 3, 1) := by decide +kernel
theorem dX6_powerBy_19 : decode cX6_powerBy 19 = .ok (.iinc 4 1, 3) := by decide +kernel
theorem dX6_powerBy_22 : decode cX6_powerBy 22 = .ok (.goto (-17), 3) := by decide +kernel
theorem dX6_powerBy_25 : decode cX6_powerBy 25 = .ok (.iload_n 3, 1) := by decide +kernel
theorem dX6_powerBy_26 : decode cX6_powerBy 26 = .ok (.ireturn, 1) := by decide +kernel
theorem dX6_onlyPartner_0 : decode cX6_onlyPartner 0 = .ok (.bipush 15, 2) := by decide +kernel
theorem dX6_onlyPartner_2 : decode cX6_onlyPartner 2 = .ok (.istore_n 3, 1) := by decide +kernel
theorem dX6_onlyPartner_3 : decode cX6_onlyPartner 3 = .ok (.iload_n 1, 1) := by decide +kernel
theorem dX6_onlyPartner_4 : decode cX6_onlyPartner 4 = .ok (.istore 4, 2) := by decide +kernel
theorem dX6_onlyPartner_6 : decode cX6_onlyPartner 6 = .ok (.iconst 0, 1) := by decide +kernel
theorem dX6_onlyPartner_7 : decode cX6_onlyPartner 7 = .ok (.istore 5, 2) := by decide +kernel
theorem dX6_onlyPartner_9 : decode cX6_onlyPartner 9 = .ok (.iload 5, 2) := by decide +kernel
theorem dX6_onlyPartner_11 : decode cX6_onlyPartner 11 = .ok (.iload_n 2, 1) := by decide +kernel
theorem dX6_onlyPartner_12 : decode cX6_onlyPartner 12 = .ok (.iconst 2, 1) := by decide +kernel
theorem dX6_onlyPartner_13 : decode cX6_onlyPartner 13 = .ok (.isub, 1) := by decide +kernel
theorem dX6_onlyPartner_14 : decode cX6_onlyPartner 14 = .ok (.if_icmp .ge 43, 3) := by decide +kernel
theorem dX6_onlyPartner_17 : decode cX6_onlyPartner 17 = .ok (.iload_n 0, 1) := by decide +kernel
theorem dX6_onlyPartner_18 : decode cX6_onlyPartner 18 = .ok (.iload 4, 2) := by decide +kernel
theorem dX6_onlyPartner_20 : decode cX6_onlyPartner 20 = .ok (.iadd, 1) := by decide +kernel
theorem dX6_onlyPartner_21 : decode cX6_onlyPartner 21 = .ok (.iload_n 2, 1) := by decide +kernel
theorem dX6_onlyPartner_22 : decode cX6_onlyPartner 22 = .ok (.invokestatic 196, 3) := by decide +kernel
theorem dX6_onlyPartner_25 : decode cX6_onlyPartner 25 = .ok (.iconst 1, 1) := by decide +kernel
theorem dX6_onlyPartner_26 : decode cX6_onlyPartner 26 = .ok (.if_icmp .ne 15, 3) := by decide +kernel
theorem dX6_onlyPartner_29 : decode cX6_onlyPartner 29 = .ok (.iload_n 3, 1) := by decide +kernel
theorem dX6_onlyPartner_30 : decode cX6_onlyPartner 30 = .ok (.bipush 15, 2) := by decide +kernel
theorem dX6_onlyPartner_32 : decode cX6_onlyPartner 32 = .ok (.if_icmp .eq 6, 3) := by decide +kernel
theorem dX6_onlyPartner_35 : decode cX6_onlyPartner 35 = .ok (.bipush 15, 2) := by decide +kernel
theorem dX6_onlyPartner_37 : decode cX6_onlyPartner 37 = .ok (.ireturn, 1) := by decide +kernel
theorem dX6_onlyPartner_38 : decode cX6_onlyPartner 38 = .ok (.iload 5, 2) := by decide +kernel
theorem dX6_onlyPartner_40 : decode cX6_onlyPartner 40 = .ok (.istore_n 3, 1) := by decide +kernel
theorem dX6_onlyPartner_41 : decode cX6_onlyPartner 41 = .ok (.iload 4, 2) := by decide +kernel
theorem dX6_onlyPartner_43 : decode cX6_onlyPartner 43 = .ok (.iload_n 1, 1) := by decide +kernel
theorem dX6_onlyPartner_44 : decode cX6_onlyPartner 44 = .ok (.imul, 1) := by decide +kernel
theorem dX6_onlyPartner_45 : decode cX6_onlyPartner 45 = .ok (.iload_n 2, 1) := by decide +kernel
theorem dX6_onlyPartner_46 : decode cX6_onlyPartner 46 = .ok (.invokestatic 196, 3) := by decide +kernel
theorem dX6_onlyPartner_49 : decode cX6_onlyPartner 49 = .ok (.istore 4, 2) := by decide +kernel
theorem dX6_onlyPartner_51 : decode cX6_onlyPartner 51 = .ok (.iinc 5 1, 3) := by decide +kernel
theorem dX6_onlyPartner_54 : decode cX6_onlyPartner 54 = .ok (.goto (-45), 3) := by decide +kernel
theorem dX6_onlyPartner_57 : decode cX6_onlyPartner 57 = .ok (.iload_n 3, 1) := by decide +kernel
theorem dX6_onlyPartner_58 : decode cX6_onlyPartner 58 = .ok (.ireturn, 1) := by decide +kernel
theorem dX6_keepSquare_0 : decode cX6_keepSquare 0 = .ok (.aload_n 0, 1) := by decide +kernel
theorem dX6_keepSquare_1 : decode cX6_keepSquare 1 = .ok (.getfield 16, 3) := by decide +kernel
theorem dX6_keepSquare_4 : decode cX6_keepSquare 4 = .ok (.invokevirtual 206, 3) := by decide +kernel
theorem dX6_keepSquare_7 : decode cX6_keepSquare 7 = .ok (.ifCond .ne 6, 3) := by decide +kernel
theorem dX6_keepSquare_10 : decode cX6_keepSquare 10 = .ok (.bipush (-2), 2) := by decide +kernel
theorem dX6_keepSquare_12 : decode cX6_keepSquare 12 = .ok (.ireturn, 1) := by decide +kernel
theorem dX6_keepSquare_13 : decode cX6_keepSquare 13 = .ok (.aload_n 1, 1) := by decide +kernel
theorem dX6_keepSquare_14 : decode cX6_keepSquare 14 = .ok (.aload_n 0, 1) := by decide +kernel
theorem dX6_keepSquare_15 : decode cX6_keepSquare 15 = .ok (.getfield 16, 3) := by decide +kernel
theorem dX6_keepSquare_18 : decode cX6_keepSquare 18 = .ok (.invokevirtual 214, 3) := by decide +kernel
theorem dX6_keepSquare_21 : decode cX6_keepSquare 21 = .ok (.aload_n 1, 1) := by decide +kernel
theorem dX6_keepSquare_22 : decode cX6_keepSquare 22 = .ok (.invokevirtual 71, 3) := by decide +kernel
theorem dX6_keepSquare_25 : decode cX6_keepSquare 25 = .ok (.ireturn, 1) := by decide +kernel
theorem dX6_turnInto_0 : decode cX6_turnInto 0 = .ok (.aload_n 1, 1) := by decide +kernel
theorem dX6_turnInto_1 : decode cX6_turnInto 1 = .ok (.invokevirtual 71, 3) := by decide +kernel
theorem dX6_turnInto_4 : decode cX6_turnInto 4 = .ok (.istore_n 3, 1) := by decide +kernel
theorem dX6_turnInto_5 : decode cX6_turnInto 5 = .ok (.aload_n 0, 1) := by decide +kernel
theorem dX6_turnInto_6 : decode cX6_turnInto 6 = .ok (.iload_n 3, 1) := by decide +kernel
theorem dX6_turnInto_7 : decode cX6_turnInto 7 = .ok (.iload_n 3, 1) := by decide +kernel
theorem dX6_turnInto_8 : decode cX6_turnInto 8 = .ok (.invokevirtual 75, 3) := by decide +kernel
theorem dX6_turnInto_11 : decode cX6_turnInto 11 = .ok (.iconst 0, 1) := by decide +kernel
theorem dX6_turnInto_12 : decode cX6_turnInto 12 = .ok (.istore 4, 2) := by decide +kernel
theorem dX6_turnInto_14 : decode cX6_turnInto 14 = .ok (.iload 4, 2) := by decide +kernel
theorem dX6_turnInto_16 : decode cX6_turnInto 16 = .ok (.iload_n 3, 1) := by decide +kernel
theorem dX6_turnInto_17 : decode cX6_turnInto 17 = .ok (.if_icmp .ge 76, 3) := by decide +kernel
theorem dX6_turnInto_20 : decode cX6_turnInto 20 = .ok (.iload_n 2, 1) := by decide +kernel
theorem dX6_turnInto_21 : decode cX6_turnInto 21 = .ok (.iconst 4, 1) := by decide +kernel
theorem dX6_turnInto_22 : decode cX6_turnInto 22 = .ok (.if_icmp .lt 12, 3) := by decide +kernel
theorem dX6_turnInto_25 : decode cX6_turnInto 25 = .ok (.iload_n 3, 1) := by decide +kernel
theorem dX6_turnInto_26 : decode cX6_turnInto 26 = .ok (.iconst 1, 1) := by decide +kernel
theorem dX6_turnInto_27 : decode cX6_turnInto 27 = .ok (.isub, 1) := by decide +kernel
theorem dX6_turnInto_28 : decode cX6_turnInto 28 = .ok (.iload 4, 2) := by decide +kernel
theorem dX6_turnInto_30 : decode cX6_turnInto 30 = .ok (.isub, 1) := by decide +kernel
theorem dX6_turnInto_31 : decode cX6_turnInto 31 = .ok (.goto 5, 3) := by decide +kernel
theorem dX6_turnInto_34 : decode cX6_turnInto 34 = .ok (.iload 4, 2) := by decide +kernel
theorem dX6_turnInto_36 : decode cX6_turnInto 36 = .ok (.istore 5, 2) := by decide +kernel
theorem dX6_turnInto_38 : decode cX6_turnInto 38 = .ok (.aload_n 1, 1) := by decide +kernel
theorem dX6_turnInto_39 : decode cX6_turnInto 39 = .ok (.iload 4, 2) := by decide +kernel
theorem dX6_turnInto_41 : decode cX6_turnInto 41 = .ok (.invokevirtual 119, 3) := by decide +kernel
theorem dX6_turnInto_44 : decode cX6_turnInto 44 = .ok (.istore 6, 2) := by decide +kernel
theorem dX6_turnInto_46 : decode cX6_turnInto 46 = .ok (.iconst 0, 1) := by decide +kernel
theorem dX6_turnInto_47 : decode cX6_turnInto 47 = .ok (.istore 7, 2) := by decide +kernel
theorem dX6_turnInto_49 : decode cX6_turnInto 49 = .ok (.iload 7, 2) := by decide +kernel
theorem dX6_turnInto_51 : decode cX6_turnInto 51 = .ok (.iload_n 2, 1) := by decide +kernel
theorem dX6_turnInto_52 : decode cX6_turnInto 52 = .ok (.iconst 3, 1) := by decide +kernel
theorem dX6_turnInto_53 : decode cX6_turnInto 53 = .ok (.iand, 1) := by decide +kernel
theorem dX6_turnInto_54 : decode cX6_turnInto 54 = .ok (.if_icmp .ge 25, 3) := by decide +kernel
theorem dX6_turnInto_57 : decode cX6_turnInto 57 = .ok (.iload 5, 2) := by decide +kernel
theorem dX6_turnInto_59 : decode cX6_turnInto 59 = .ok (.istore 8, 2) := by decide +kernel
theorem dX6_turnInto_61 : decode cX6_turnInto 61 = .ok (.iload 6, 2) := by decide +kernel
theorem dX6_turnInto_63 : decode cX6_turnInto 63 = .ok (.istore 5, 2) := by decide +kernel
theorem dX6_turnInto_65 : decode cX6_turnInto 65 = .ok (.iload_n 3, 1) := by decide +kernel
theorem dX6_turnInto_66 : decode cX6_turnInto 66 = .ok (.iconst 1, 1) := by decide +kernel
theorem dX6_turnInto_67 : decode cX6_turnInto 67 = .ok (.isub, 1) := by decide +kernel
theorem dX6_turnInto_68 : decode cX6_turnInto 68 = .ok (.iload 8, 2) := by decide +kernel
theorem dX6_turnInto_70 : decode cX6_turnInto 70 = .ok (.isub, 1) := by decide +kernel
theorem dX6_turnInto_71 : decode cX6_turnInto 71 = .ok (.istore 6, 2) := by decide +kernel
theorem dX6_turnInto_73 : decode cX6_turnInto 73 = .ok (.iinc 7 1, 3) := by decide +kernel
theorem dX6_turnInto_76 : decode cX6_turnInto 76 = .ok (.goto (-27), 3) := by decide +kernel
theorem dX6_turnInto_79 : decode cX6_turnInto 79 = .ok (.aload_n 0, 1) := by decide +kernel
theorem dX6_turnInto_80 : decode cX6_turnInto 80 = .ok (.iload 5, 2) := by decide +kernel
theorem dX6_turnInto_82 : decode cX6_turnInto 82 = .ok (.iload 6, 2) := by decide +kernel
theorem dX6_turnInto_84 : decode cX6_turnInto 84 = .ok (.invokevirtual 83, 3) := by decide +kernel
theorem dX6_turnInto_87 : decode cX6_turnInto 87 = .ok (.iinc 4 1, 3) := by decide +kernel
theorem dX6_turnInto_90 : decode cX6_turnInto 90 = .ok (.goto (-76), 3) := by decide +kernel
theorem dX6_turnInto_93 : decode cX6_turnInto 93 = .ok (.return_, 1) := by decide +kernel
theorem dX6_isNewTurning_0 : decode cX6_isNewTurning 0 = .ok (.iconst 0, 1) := by decide +kernel
theorem dX6_isNewTurning_1 : decode cX6_isNewTurning 1 = .ok (.istore_n 2, 1) := by decide +kernel
theorem dX6_isNewTurning_2 : decode cX6_isNewTurning 2 = .ok (.iload_n 2, 1) := by decide +kernel
theorem dX6_isNewTurning_3 : decode cX6_isNewTurning 3 = .ok (.iload_n 1, 1) := by decide +kernel
theorem dX6_isNewTurning_4 : decode cX6_isNewTurning 4 = .ok (.if_icmp .ge 27, 3) := by decide +kernel
theorem dX6_isNewTurning_7 : decode cX6_isNewTurning 7 = .ok (.aload_n 0, 1) := by decide +kernel
theorem dX6_isNewTurning_8 : decode cX6_isNewTurning 8 = .ok (.getfield 55, 3) := by decide +kernel
theorem dX6_isNewTurning_11 : decode cX6_isNewTurning 11 = .ok (.iload_n 2, 1) := by decide +kernel
theorem dX6_isNewTurning_12 : decode cX6_isNewTurning 12 = .ok (.laload, 1) := by decide +kernel
theorem dX6_isNewTurning_13 : decode cX6_isNewTurning 13 = .ok (.aload_n 0, 1) := by decide +kernel
theorem dX6_isNewTurning_14 : decode cX6_isNewTurning 14 = .ok (.getfield 55, 3) := by decide +kernel
theorem dX6_isNewTurning_17 : decode cX6_isNewTurning 17 = .ok (.iload_n 1, 1) := by decide +kernel
theorem dX6_isNewTurning_18 : decode cX6_isNewTurning 18 = .ok (.laload, 1) := by decide +kernel
theorem dX6_isNewTurning_19 : decode cX6_isNewTurning 19 = .ok (.lcmp, 1) := by decide +kernel
theorem dX6_isNewTurning_20 : decode cX6_isNewTurning 20 = .ok (.ifCond .ne 5, 3) := by decide +kernel
theorem dX6_isNewTurning_23 : decode cX6_isNewTurning 23 = .ok (.iconst 0, 1) := by decide +kernel
theorem dX6_isNewTurning_24 : decode cX6_isNewTurning 24 = .ok (.ireturn, 1) := by decide +kernel
theorem dX6_isNewTurning_25 : decode cX6_isNewTurning 25 = .ok (.iinc 2 1, 3) := by decide +kernel
theorem dX6_isNewTurning_28 : decode cX6_isNewTurning 28 = .ok (.goto (-26), 3) := by decide +kernel
theorem dX6_isNewTurning_31 : decode cX6_isNewTurning 31 = .ok (.iconst 1, 1) := by decide +kernel
theorem dX6_isNewTurning_32 : decode cX6_isNewTurning 32 = .ok (.ireturn, 1) := by decide +kernel
theorem dX6_takeOff_0 : decode cX6_takeOff 0 = .ok (.aload_n 1, 1) := by decide +kernel
theorem dX6_takeOff_1 : decode cX6_takeOff 1 = .ok (.invokevirtual 71, 3) := by decide +kernel
theorem dX6_takeOff_4 : decode cX6_takeOff 4 = .ok (.istore 4, 2) := by decide +kernel
theorem dX6_takeOff_6 : decode cX6_takeOff 6 = .ok (.iload 4, 2) := by decide +kernel
theorem dX6_takeOff_8 : decode cX6_takeOff 8 = .ok (.iconst 2, 1) := by decide +kernel
theorem dX6_takeOff_9 : decode cX6_takeOff 9 = .ok (.if_icmp .lt 34, 3) := by decide +kernel
theorem dX6_takeOff_12 : decode cX6_takeOff 12 = .ok (.aload_n 1, 1) := by decide +kernel
theorem dX6_takeOff_13 : decode cX6_takeOff 13 = .ok (.iload_n 2, 1) := by decide +kernel
theorem dX6_takeOff_14 : decode cX6_takeOff 14 = .ok (.ifCond .eq 10, 3) := by decide +kernel
theorem dX6_takeOff_17 : decode cX6_takeOff 17 = .ok (.iload 4, 2) := by decide +kernel
theorem dX6_takeOff_19 : decode cX6_takeOff 19 = .ok (.iconst 1, 1) := by decide +kernel
theorem dX6_takeOff_20 : decode cX6_takeOff 20 = .ok (.isub, 1) := by decide +kernel
theorem dX6_takeOff_21 : decode cX6_takeOff 21 = .ok (.goto 4, 3) := by decide +kernel
theorem dX6_takeOff_24 : decode cX6_takeOff 24 = .ok (.iconst 0, 1) := by decide +kernel
theorem dX6_takeOff_25 : decode cX6_takeOff 25 = .ok (.iload_n 3, 1) := by decide +kernel
theorem dX6_takeOff_26 : decode cX6_takeOff 26 = .ok (.ifCond .eq 10, 3) := by decide +kernel
theorem dX6_takeOff_29 : decode cX6_takeOff 29 = .ok (.iload 4, 2) := by decide +kernel
theorem dX6_takeOff_31 : decode cX6_takeOff 31 = .ok (.iconst 1, 1) := by decide +kernel
theorem dX6_takeOff_32 : decode cX6_takeOff 32 = .ok (.isub, 1) := by decide +kernel
theorem dX6_takeOff_33 : decode cX6_takeOff 33 = .ok (.goto 4, 3) := by decide +kernel
theorem dX6_takeOff_36 : decode cX6_takeOff 36 = .ok (.iconst 0, 1) := by decide +kernel
theorem dX6_takeOff_37 : decode cX6_takeOff 37 = .ok (.invokevirtual 275, 3) := by decide +kernel
theorem dX6_takeOff_40 : decode cX6_takeOff 40 = .ok (.ifCond .ne 6, 3) := by decide +kernel
theorem dX6_takeOff_43 : decode cX6_takeOff 43 = .ok (.bipush (-2), 2) := by decide +kernel
theorem dX6_takeOff_45 : decode cX6_takeOff 45 = .ok (.ireturn, 1) := by decide +kernel
theorem dX6_takeOff_46 : decode cX6_takeOff 46 = .ok (.iload_n 2, 1) := by decide +kernel
theorem dX6_takeOff_47 : decode cX6_takeOff 47 = .ok (.ifCond .eq 7, 3) := by decide +kernel
theorem dX6_takeOff_50 : decode cX6_takeOff 50 = .ok (.iconst 0, 1) := by decide +kernel
theorem dX6_takeOff_51 : decode cX6_takeOff 51 = .ok (.goto 4, 3) := by decide +kernel
theorem dX6_takeOff_54 : decode cX6_takeOff 54 = .ok (.iconst 1, 1) := by decide +kernel
theorem dX6_takeOff_55 : decode cX6_takeOff 55 = .ok (.istore 5, 2) := by decide +kernel
theorem dX6_takeOff_57 : decode cX6_takeOff 57 = .ok (.iload_n 3, 1) := by decide +kernel
theorem dX6_takeOff_58 : decode cX6_takeOff 58 = .ok (.ifCond .eq 7, 3) := by decide +kernel
theorem dX6_takeOff_61 : decode cX6_takeOff 61 = .ok (.iconst 0, 1) := by decide +kernel
theorem dX6_takeOff_62 : decode cX6_takeOff 62 = .ok (.goto 4, 3) := by decide +kernel
theorem dX6_takeOff_65 : decode cX6_takeOff 65 = .ok (.iconst 1, 1) := by decide +kernel
theorem dX6_takeOff_66 : decode cX6_takeOff 66 = .ok (.istore 6, 2) := by decide +kernel
theorem dX6_takeOff_68 : decode cX6_takeOff 68 = .ok (.aload_n 0, 1) := by decide +kernel
theorem dX6_takeOff_69 : decode cX6_takeOff 69 = .ok (.getfield 16, 3) := by decide +kernel
theorem dX6_takeOff_72 : decode cX6_takeOff 72 = .ok (.iload 4, 2) := by decide +kernel
theorem dX6_takeOff_74 : decode cX6_takeOff 74 = .ok (.iconst 1, 1) := by decide +kernel
theorem dX6_takeOff_75 : decode cX6_takeOff 75 = .ok (.isub, 1) := by decide +kernel
theorem dX6_takeOff_76 : decode cX6_takeOff 76 = .ok (.iload 4, 2) := by decide +kernel
theorem dX6_takeOff_78 : decode cX6_takeOff 78 = .ok (.iconst 1, 1) := by decide +kernel
theorem dX6_takeOff_79 : decode cX6_takeOff 79 = .ok (.isub, 1) := by decide +kernel
theorem dX6_takeOff_80 : decode cX6_takeOff 80 = .ok (.invokevirtual 75, 3) := by decide +kernel
theorem dX6_takeOff_83 : decode cX6_takeOff 83 = .ok (.iconst 0, 1) := by decide +kernel
theorem dX6_takeOff_84 : decode cX6_takeOff 84 = .ok (.istore 7, 2) := by decide +kernel
theorem dX6_takeOff_86 : decode cX6_takeOff 86 = .ok (.iload 7, 2) := by decide +kernel
theorem dX6_takeOff_88 : decode cX6_takeOff 88 = .ok (.iload 4, 2) := by decide +kernel
theorem dX6_takeOff_90 : decode cX6_takeOff 90 = .ok (.iconst 1, 1) := by decide +kernel
theorem dX6_takeOff_91 : decode cX6_takeOff 91 = .ok (.isub, 1) := by decide +kernel
theorem dX6_takeOff_92 : decode cX6_takeOff 92 = .ok (.if_icmp .ge 30, 3) := by decide +kernel
theorem dX6_takeOff_95 : decode cX6_takeOff 95 = .ok (.aload_n 0, 1) := by decide +kernel
theorem dX6_takeOff_96 : decode cX6_takeOff 96 = .ok (.getfield 16, 3) := by decide +kernel
theorem dX6_takeOff_99 : decode cX6_takeOff 99 = .ok (.iload 7, 2) := by decide +kernel
theorem dX6_takeOff_101 : decode cX6_takeOff 101 = .ok (.aload_n 1, 1) := by decide +kernel
theorem dX6_takeOff_102 : decode cX6_takeOff 102 = .ok (.iload 7, 2) := by decide +kernel
theorem dX6_takeOff_104 : decode cX6_takeOff 104 = .ok (.iload 5, 2) := by decide +kernel
theorem dX6_takeOff_106 : decode cX6_takeOff 106 = .ok (.iadd, 1) := by decide +kernel
theorem dX6_takeOff_107 : decode cX6_takeOff 107 = .ok (.invokevirtual 119, 3) := by decide +kernel
theorem dX6_takeOff_110 : decode cX6_takeOff 110 = .ok (.iload 6, 2) := by decide +kernel
theorem dX6_takeOff_112 : decode cX6_takeOff 112 = .ok (.isub, 1) := by decide +kernel
theorem dX6_takeOff_113 : decode cX6_takeOff 113 = .ok (.invokevirtual 83, 3) := by decide +kernel
theorem dX6_takeOff_116 : decode cX6_takeOff 116 = .ok (.iinc 7 1, 3) := by decide +kernel
theorem dX6_takeOff_119 : decode cX6_takeOff 119 = .ok (.goto (-33), 3) := by decide +kernel
theorem dX6_takeOff_122 : decode cX6_takeOff 122 = .ok (.aload_n 1, 1) := by decide +kernel
theorem dX6_takeOff_123 : decode cX6_takeOff 123 = .ok (.aload_n 0, 1) := by decide +kernel
theorem dX6_takeOff_124 : decode cX6_takeOff 124 = .ok (.getfield 16, 3) := by decide +kernel
theorem dX6_takeOff_127 : decode cX6_takeOff 127 = .ok (.invokevirtual 214, 3) := by decide +kernel
theorem dX6_takeOff_130 : decode cX6_takeOff 130 = .ok (.aload_n 1, 1) := by decide +kernel
theorem dX6_takeOff_131 : decode cX6_takeOff 131 = .ok (.invokevirtual 71, 3) := by decide +kernel
theorem dX6_takeOff_134 : decode cX6_takeOff 134 = .ok (.ireturn, 1) := by decide +kernel
theorem dX6_setOn_0 : decode cX6_setOn 0 = .ok (.aload_n 1, 1) := by decide +kernel
theorem dX6_setOn_1 : decode cX6_setOn 1 = .ok (.invokevirtual 71, 3) := by decide +kernel
theorem dX6_setOn_4 : decode cX6_setOn 4 = .ok (.istore 4, 2) := by decide +kernel
theorem dX6_setOn_6 : decode cX6_setOn 6 = .ok (.iload 4, 2) := by decide +kernel
theorem dX6_setOn_8 : decode cX6_setOn 8 = .ok (.bipush 12, 2) := by decide +kernel
theorem dX6_setOn_10 : decode cX6_setOn 10 = .ok (.if_icmp .lt 6, 3) := by decide +kernel
theorem dX6_setOn_13 : decode cX6_setOn 13 = .ok (.bipush (-2), 2) := by decide +kernel
theorem dX6_setOn_15 : decode cX6_setOn 15 = .ok (.ireturn, 1) := by decide +kernel
theorem dX6_setOn_16 : decode cX6_setOn 16 = .ok (.iload_n 2, 1) := by decide +kernel
theorem dX6_setOn_17 : decode cX6_setOn 17 = .ok (.ifCond .eq 7, 3) := by decide +kernel
theorem dX6_setOn_20 : decode cX6_setOn 20 = .ok (.iconst 0, 1) := by decide +kernel
theorem dX6_setOn_21 : decode cX6_setOn 21 = .ok (.goto 4, 3) := by decide +kernel
theorem dX6_setOn_24 : decode cX6_setOn 24 = .ok (.iconst 1, 1) := by decide +kernel
theorem dX6_setOn_25 : decode cX6_setOn 25 = .ok (.istore 5, 2) := by decide +kernel
theorem dX6_setOn_27 : decode cX6_setOn 27 = .ok (.iload_n 3, 1) := by decide +kernel
theorem dX6_setOn_28 : decode cX6_setOn 28 = .ok (.ifCond .eq 7, 3) := by decide +kernel
theorem dX6_setOn_31 : decode cX6_setOn 31 = .ok (.iconst 0, 1) := by decide +kernel
theorem dX6_setOn_32 : decode cX6_setOn 32 = .ok (.goto 4, 3) := by decide +kernel
theorem dX6_setOn_35 : decode cX6_setOn 35 = .ok (.iconst 1, 1) := by decide +kernel
theorem dX6_setOn_36 : decode cX6_setOn 36 = .ok (.istore 6, 2) := by decide +kernel
theorem dX6_setOn_38 : decode cX6_setOn 38 = .ok (.aload_n 0, 1) := by decide +kernel
theorem dX6_setOn_39 : decode cX6_setOn 39 = .ok (.getfield 16, 3) := by decide +kernel
theorem dX6_setOn_42 : decode cX6_setOn 42 = .ok (.iload 4, 2) := by decide +kernel
theorem dX6_setOn_44 : decode cX6_setOn 44 = .ok (.iconst 1, 1) := by decide +kernel
theorem dX6_setOn_45 : decode cX6_setOn 45 = .ok (.iadd, 1) := by decide +kernel
theorem dX6_setOn_46 : decode cX6_setOn 46 = .ok (.iload 4, 2) := by decide +kernel
theorem dX6_setOn_48 : decode cX6_setOn 48 = .ok (.iconst 1, 1) := by decide +kernel
theorem dX6_setOn_49 : decode cX6_setOn 49 = .ok (.iadd, 1) := by decide +kernel
theorem dX6_setOn_50 : decode cX6_setOn 50 = .ok (.invokevirtual 75, 3) := by decide +kernel
theorem dX6_setOn_53 : decode cX6_setOn 53 = .ok (.aload_n 0, 1) := by decide +kernel
theorem dX6_setOn_54 : decode cX6_setOn 54 = .ok (.getfield 16, 3) := by decide +kernel
theorem dX6_setOn_57 : decode cX6_setOn 57 = .ok (.iload_n 2, 1) := by decide +kernel
theorem dX6_setOn_58 : decode cX6_setOn 58 = .ok (.ifCond .eq 8, 3) := by decide +kernel
theorem dX6_setOn_61 : decode cX6_setOn 61 = .ok (.iload 4, 2) := by decide +kernel
theorem dX6_setOn_63 : decode cX6_setOn 63 = .ok (.goto 4, 3) := by decide +kernel
theorem dX6_setOn_66 : decode cX6_setOn 66 = .ok (.iconst 0, 1) := by decide +kernel
theorem dX6_setOn_67 : decode cX6_setOn 67 = .ok (.iload_n 3, 1) := by decide +kernel
theorem dX6_setOn_68 : decode cX6_setOn 68 = .ok (.ifCond .eq 8, 3) := by decide +kernel
theorem dX6_setOn_71 : decode cX6_setOn 71 = .ok (.iload 4, 2) := by decide +kernel
theorem dX6_setOn_73 : decode cX6_setOn 73 = .ok (.goto 4, 3) := by decide +kernel
theorem dX6_setOn_76 : decode cX6_setOn 76 = .ok (.iconst 0, 1) := by decide +kernel
theorem dX6_setOn_77 : decode cX6_setOn 77 = .ok (.invokevirtual 83, 3) := by decide +kernel
theorem dX6_setOn_80 : decode cX6_setOn 80 = .ok (.iconst 0, 1) := by decide +kernel
theorem dX6_setOn_81 : decode cX6_setOn 81 = .ok (.istore 7, 2) := by decide +kernel
theorem dX6_setOn_83 : decode cX6_setOn 83 = .ok (.iload 7, 2) := by decide +kernel
theorem dX6_setOn_85 : decode cX6_setOn 85 = .ok (.iload 4, 2) := by decide +kernel
theorem dX6_setOn_87 : decode cX6_setOn 87 = .ok (.if_icmp .ge 30, 3) := by decide +kernel
theorem dX6_setOn_90 : decode cX6_setOn 90 = .ok (.aload_n 0, 1) := by decide +kernel
theorem dX6_setOn_91 : decode cX6_setOn 91 = .ok (.getfield 16, 3) := by decide +kernel
theorem dX6_setOn_94 : decode cX6_setOn 94 = .ok (.iload 7, 2) := by decide +kernel
theorem dX6_setOn_96 : decode cX6_setOn 96 = .ok (.iload 5, 2) := by decide +kernel
theorem dX6_setOn_98 : decode cX6_setOn 98 = .ok (.iadd, 1) := by decide +kernel
theorem dX6_setOn_99 : decode cX6_setOn 99 = .ok (.aload_n 1, 1) := by decide +kernel
theorem dX6_setOn_100 : decode cX6_setOn 100 = .ok (.iload 7, 2) := by decide +kernel
theorem dX6_setOn_102 : decode cX6_setOn 102 = .ok (.invokevirtual 119, 3) := by decide +kernel
theorem dX6_setOn_105 : decode cX6_setOn 105 = .ok (.iload 6, 2) := by decide +kernel
theorem dX6_setOn_107 : decode cX6_setOn 107 = .ok (.iadd, 1) := by decide +kernel
theorem dX6_setOn_108 : decode cX6_setOn 108 = .ok (.invokevirtual 83, 3) := by decide +kernel
theorem dX6_setOn_111 : decode cX6_setOn 111 = .ok (.iinc 7 1, 3) := by decide +kernel
theorem dX6_setOn_114 : decode cX6_setOn 114 = .ok (.goto (-31), 3) := by decide +kernel
theorem dX6_setOn_117 : decode cX6_setOn 117 = .ok (.aload_n 1, 1) := by decide +kernel
theorem dX6_setOn_118 : decode cX6_setOn 118 = .ok (.aload_n 0, 1) := by decide +kernel
theorem dX6_setOn_119 : decode cX6_setOn 119 = .ok (.getfield 16, 3) := by decide +kernel
theorem dX6_setOn_122 : decode cX6_setOn 122 = .ok (.invokevirtual 214, 3) := by decide +kernel
theorem dX6_setOn_125 : decode cX6_setOn 125 = .ok (.aload_n 1, 1) := by decide +kernel
theorem dX6_setOn_126 : decode cX6_setOn 126 = .ok (.invokevirtual 71, 3) := by decide +kernel
theorem dX6_setOn_129 : decode cX6_setOn 129 = .ok (.ireturn, 1) := by decide +kernel
theorem dX6_bestHeard_0 : decode cX6_bestHeard 0 = .ok (.aload_n 0, 1) := by decide +kernel
theorem dX6_bestHeard_1 : decode cX6_bestHeard 1 = .ok (.iload_n 1, 1) := by decide +kernel
theorem dX6_bestHeard_2 : decode cX6_bestHeard 2 = .ok (.invokevirtual 59, 3) := by decide +kernel
theorem dX6_bestHeard_5 : decode cX6_bestHeard 5 = .ok (.astore_n 2, 1) := by decide +kernel
theorem dX6_bestHeard_6 : decode cX6_bestHeard 6 = .ok (.aload_n 2, 1) := by decide +kernel
theorem dX6_bestHeard_7 : decode cX6_bestHeard 7 = .ok (.ifnonnull 5, 3) := by decide +kernel
theorem dX6_bestHeard_10 : decode cX6_bestHeard 10 = .ok (.iconst 0, 1) := by decide +kernel
theorem dX6_bestHeard_11 : decode cX6_bestHeard 11 = .ok (.ireturn, 1) := by decide +kernel
theorem dX6_bestHeard_12 : decode cX6_bestHeard 12 = .ok (.aload_n 0, 1) := by decide +kernel
theorem dX6_bestHeard_13 : decode cX6_bestHeard 13 = .ok (.getfield 51, 3) := by decide +kernel
theorem dX6_bestHeard_16 : decode cX6_bestHeard 16 = .ok (.aload_n 2, 1) := by decide +kernel
theorem dX6_bestHeard_17 : decode cX6_bestHeard 17 = .ok (.invokevirtual 240, 3) := by decide +kernel
theorem dX6_bestHeard_20 : decode cX6_bestHeard 20 = .ok (.aload_n 0, 1) := by decide +kernel
theorem dX6_bestHeard_21 : decode cX6_bestHeard 21 = .ok (.getfield 51, 3) := by decide +kernel
theorem dX6_bestHeard_24 : decode cX6_bestHeard 24 = .ok (.invokevirtual 243, 3) := by decide +kernel
theorem dX6_bestHeard_27 : decode cX6_bestHeard 27 = .ok (.ireturn, 1) := by decide +kernel
theorem dX6_marksInAll_0 : decode cX6_marksInAll 0 = .ok (.iconst 0, 1) := by decide +kernel
theorem dX6_marksInAll_1 : decode cX6_marksInAll 1 = .ok (.istore_n 1, 1) := by decide +kernel
theorem dX6_marksInAll_2 : decode cX6_marksInAll 2 = .ok (.iconst 0, 1) := by decide +kernel
theorem dX6_marksInAll_3 : decode cX6_marksInAll 3 = .ok (.istore_n 2, 1) := by decide +kernel
theorem dX6_marksInAll_4 : decode cX6_marksInAll 4 = .ok (.iload_n 2, 1) := by decide +kernel
theorem dX6_marksInAll_5 : decode cX6_marksInAll 5 = .ok (.bipush 6, 2) := by decide +kernel
theorem dX6_marksInAll_7 : decode cX6_marksInAll 7 = .ok (.if_icmp .ge 26, 3) := by decide +kernel
theorem dX6_marksInAll_10 : decode cX6_marksInAll 10 = .ok (.aload_n 0, 1) := by decide +kernel
theorem dX6_marksInAll_11 : decode cX6_marksInAll 11 = .ok (.iload_n 2, 1) := by decide +kernel
theorem dX6_marksInAll_12 : decode cX6_marksInAll 12 = .ok (.invokevirtual 59, 3) := by decide +kernel
theorem dX6_marksInAll_15 : decode cX6_marksInAll 15 = .ok (.astore_n 3, 1) := by decide +kernel
theorem dX6_marksInAll_16 : decode cX6_marksInAll 16 = .ok (.aload_n 3, 1) := by decide +kernel
theorem dX6_marksInAll_17 : decode cX6_marksInAll 17 = .ok (.ifnull 10, 3) := by decide +kernel
theorem dX6_marksInAll_20 : decode cX6_marksInAll 20 = .ok (.iload_n 1, 1) := by decide +kernel
theorem dX6_marksInAll_21 : decode cX6_marksInAll 21 = .ok (.aload_n 3, 1) := by decide +kernel
theorem dX6_marksInAll_22 : decode cX6_marksInAll 22 = .ok (.invokevirtual 278, 3) := by decide +kernel
theorem dX6_marksInAll_25 : decode cX6_marksInAll 25 = .ok (.iadd, 1) := by decide +kernel
theorem dX6_marksInAll_26 : decode cX6_marksInAll 26 = .ok (.istore_n 1, 1) := by decide +kernel
theorem dX6_marksInAll_27 : decode cX6_marksInAll 27 = .ok (.iinc 2 1, 3) := by decide +kernel
theorem dX6_marksInAll_30 : decode cX6_marksInAll 30 = .ok (.goto (-26), 3) := by decide +kernel
theorem dX6_marksInAll_33 : decode cX6_marksInAll 33 = .ok (.iload_n 1, 1) := by decide +kernel
theorem dX6_marksInAll_34 : decode cX6_marksInAll 34 = .ok (.ireturn, 1) := by decide +kernel
theorem dX6_columnsInAll_0 : decode cX6_columnsInAll 0 = .ok (.iconst 0, 1) := by decide +kernel
theorem dX6_columnsInAll_1 : decode cX6_columnsInAll 1 = .ok (.istore_n 1, 1) := by decide +kernel
theorem dX6_columnsInAll_2 : decode cX6_columnsInAll 2 = .ok (.iconst 0, 1) := by decide +kernel
theorem dX6_columnsInAll_3 : decode cX6_columnsInAll 3 = .ok (.istore_n 2, 1) := by decide +kernel
theorem dX6_columnsInAll_4 : decode cX6_columnsInAll 4 = .ok (.iload_n 2, 1) := by decide +kernel
theorem dX6_columnsInAll_5 : decode cX6_columnsInAll 5 = .ok (.bipush 6, 2) := by decide +kernel
theorem dX6_columnsInAll_7 : decode cX6_columnsInAll 7 = .ok (.if_icmp .ge 26, 3) := by decide +kernel
theorem dX6_columnsInAll_10 : decode cX6_columnsInAll 10 = .ok (.aload_n 0, 1) := by decide +kernel
theorem dX6_columnsInAll_11 : decode cX6_columnsInAll 11 = .ok (.iload_n 2, 1) := by decide +kernel
theorem dX6_columnsInAll_12 : decode cX6_columnsInAll 12 = .ok (.invokevirtual 59, 3) := by decide +kernel
theorem dX6_columnsInAll_15 : decode cX6_columnsInAll 15 = .ok (.astore_n 3, 1) := by decide +kernel
theorem dX6_columnsInAll_16 : decode cX6_columnsInAll 16 = .ok (.aload_n 3, 1) := by decide +kernel
theorem dX6_columnsInAll_17 : decode cX6_columnsInAll 17 = .ok (.ifnull 10, 3) := by decide +kernel
theorem dX6_columnsInAll_20 : decode cX6_columnsInAll 20 = .ok (.iload_n 1, 1) := by decide +kernel
theorem dX6_columnsInAll_21 : decode cX6_columnsInAll 21 = .ok (.aload_n 3, 1) := by decide +kernel
theorem dX6_columnsInAll_22 : decode cX6_columnsInAll 22 = .ok (.invokevirtual 71, 3) := by decide +kernel
theorem dX6_columnsInAll_25 : decode cX6_columnsInAll 25 = .ok (.iadd, 1) := by decide +kernel
theorem dX6_columnsInAll_26 : decode cX6_columnsInAll 26 = .ok (.istore_n 1, 1) := by decide +kernel
theorem dX6_columnsInAll_27 : decode cX6_columnsInAll 27 = .ok (.iinc 2 1, 3) := by decide +kernel
theorem dX6_columnsInAll_30 : decode cX6_columnsInAll 30 = .ok (.goto (-26), 3) := by decide +kernel
theorem dX6_columnsInAll_33 : decode cX6_columnsInAll 33 = .ok (.iload_n 1, 1) := by decide +kernel
theorem dX6_columnsInAll_34 : decode cX6_columnsInAll 34 = .ok (.ireturn, 1) := by decide +kernel
theorem dX7_init_0 : decode cX7_init 0 = .ok (.aload_n 0, 1) := by decide +kernel
theorem dX7_init_1 : decode cX7_init 1 = .ok (.invokespecial 1, 3) := by decide +kernel
theorem dX7_init_4 : decode cX7_init 4 = .ok (.aload_n 0, 1) := by decide +kernel
theorem dX7_init_5 : decode cX7_init 5 = .ok (.bipush 6, 2) := by decide +kernel
theorem dX7_init_7 : decode cX7_init 7 = .ok (.newarray .int, 2) := by decide +kernel
theorem dX7_init_9 : decode cX7_init 9 = .ok (.dup, 1) := by decide +kernel
theorem dX7_init_10 : decode cX7_init 10 = .ok (.iconst 0, 1) := by decide +kernel
theorem dX7_init_11 : decode cX7_init 11 = .ok (.iconst 1, 1) := by decide +kernel
theorem dX7_init_12 : decode cX7_init 12 = .ok (.iastore, 1) := by decide +kernel
theorem dX7_init_13 : decode cX7_init 13 = .ok (.dup, 1) := by decide +kernel
theorem dX7_init_14 : decode cX7_init 14 = .ok (.iconst 1, 1) := by decide +kernel
theorem dX7_init_15 : decode cX7_init 15 = .ok (.iconst 1, 1) := by decide +kernel
theorem dX7_init_16 : decode cX7_init 16 = .ok (.iastore, 1) := by decide +kernel
theorem dX7_init_17 : decode cX7_init 17 = .ok (.dup, 1) := by decide +kernel
theorem dX7_init_18 : decode cX7_init 18 = .ok (.iconst 2, 1) := by decide +kernel
theorem dX7_init_19 : decode cX7_init 19 = .ok (.iconst 1, 1) := by decide +kernel
theorem dX7_init_20 : decode cX7_init 20 = .ok (.iastore, 1) := by decide +kernel
theorem dX7_init_21 : decode cX7_init 21 = .ok (.dup, 1) := by decide +kernel
theorem dX7_init_22 : decode cX7_init 22 = .ok (.iconst 3, 1) := by decide +kernel
theorem dX7_init_23 : decode cX7_init 23 = .ok (.iconst 1, 1) := by decide +kernel
theorem dX7_init_24 : decode cX7_init 24 = .ok (.iastore, 1) := by decide +kernel
theorem dX7_init_25 : decode cX7_init 25 = .ok (.dup, 1) := by decide +kernel
theorem dX7_init_26 : decode cX7_init 26 = .ok (.iconst 4, 1) := by decide +kernel
theorem dX7_init_27 : decode cX7_init 27 = .ok (.iconst 1, 1) := by decide +kernel
theorem dX7_init_28 : decode cX7_init 28 = .ok (.iastore, 1) := by decide +kernel
theorem dX7_init_29 : decode cX7_init 29 = .ok (.dup, 1) := by decide +kernel
theorem dX7_init_30 : decode cX7_init 30 = .ok (.iconst 5, 1) := by decide +kernel
theorem dX7_init_31 : decode cX7_init 31 = .ok (.iconst 1, 1) := by decide +kernel
theorem dX7_init_32 : decode cX7_init 32 = .ok (.iastore, 1) := by decide +kernel
theorem dX7_init_33 : decode cX7_init 33 = .ok (.putfield 7, 3) := by decide +kernel
theorem dX7_init_36 : decode cX7_init 36 = .ok (.aload_n 0, 1) := by decide +kernel
theorem dX7_init_37 : decode cX7_init 37 = .ok (.bipush 6, 2) := by decide +kernel
theorem dX7_init_39 : decode cX7_init 39 = .ok (.newarray .int, 2) := by decide +kernel
theorem dX7_init_41 : decode cX7_init 41 = .ok (.dup, 1) := by decide +kernel
theorem dX7_init_42 : decode cX7_init 42 = .ok (.iconst 0, 1) := by decide +kernel
theorem dX7_init_43 : decode cX7_init 43 = .ok (.iconst 1, 1) := by decide +kernel
theorem dX7_init_44 : decode cX7_init 44 = .ok (.iastore, 1) := by decide +kernel
theorem dX7_init_45 : decode cX7_init 45 = .ok (.dup, 1) := by decide +kernel
theorem dX7_init_46 : decode cX7_init 46 = .ok (.iconst 1, 1) := by decide +kernel
theorem dX7_init_47 : decode cX7_init 47 = .ok (.iconst 1, 1) := by decide +kernel
theorem dX7_init_48 : decode cX7_init 48 = .ok (.iastore, 1) := by decide +kernel
theorem dX7_init_49 : decode cX7_init 49 = .ok (.dup, 1) := by decide +kernel
theorem dX7_init_50 : decode cX7_init 50 = .ok (.iconst 2, 1) := by decide +kernel
theorem dX7_init_51 : decode cX7_init 51 = .ok (.iconst 1, 1) := by decide +kernel
theorem dX7_init_52 : decode cX7_init 52 = .ok (.iastore, 1) := by decide +kernel
theorem dX7_init_53 : decode cX7_init 53 = .ok (.dup, 1) := by decide +kernel
theorem dX7_init_54 : decode cX7_init 54 = .ok (.iconst 3, 1) := by decide +kernel
theorem dX7_init_55 : decode cX7_init 55 = .ok (.iconst 1, 1) := by decide +kernel
theorem dX7_init_56 : decode cX7_init 56 = .ok (.iastore, 1) := by decide +kernel
theorem dX7_init_57 : decode cX7_init 57 = .ok (.dup, 1) := by decide +kernel
theorem dX7_init_58 : decode cX7_init 58 = .ok (.iconst 4, 1) := by decide +kernel
theorem dX7_init_59 : decode cX7_init 59 = .ok (.iconst 1, 1) := by decide +kernel
theorem dX7_init_60 : decode cX7_init 60 = .ok (.iastore, 1) := by decide +kernel
theorem dX7_init_61 : decode cX7_init 61 = .ok (.dup, 1) := by decide +kernel
theorem dX7_init_62 : decode cX7_init 62 = .ok (.iconst 5, 1) := by decide +kernel
theorem dX7_init_63 : decode cX7_init 63 = .ok (.iconst 1, 1) := by decide +kernel
theorem dX7_init_64 : decode cX7_init 64 = .ok (.iastore, 1) := by decide +kernel
theorem dX7_init_65 : decode cX7_init 65 = .ok (.putfield 13, 3) := by decide +kernel
theorem dX7_init_68 : decode cX7_init 68 = .ok (.aload_n 0, 1) := by decide +kernel
theorem dX7_init_69 : decode cX7_init 69 = .ok (.bipush 72, 2) := by decide +kernel
theorem dX7_init_71 : decode cX7_init 71 = .ok (.newarray .int, 2) := by decide +kernel
theorem dX7_init_73 : decode cX7_init 73 = .ok (.putfield 16, 3) := by decide +kernel
theorem dX7_init_76 : decode cX7_init 76 = .ok (.aload_n 0, 1) := by decide +kernel
theorem dX7_init_77 : decode cX7_init 77 = .ok (.bipush 60, 2) := by decide +kernel
theorem dX7_init_79 : decode cX7_init 79 = .ok (.newarray .byte, 2) := by decide +kernel
theorem dX7_init_81 : decode cX7_init 81 = .ok (.putfield 19, 3) := by decide +kernel
theorem dX7_init_84 : decode cX7_init 84 = .ok (.aload_n 0, 1) := by decide +kernel
theorem dX7_init_85 : decode cX7_init 85 = .ok (.bipush 40, 2) := by decide +kernel
theorem dX7_init_87 : decode cX7_init 87 = .ok (.newarray .int, 2) := by decide +kernel
theorem dX7_init_89 : decode cX7_init 89 = .ok (.putfield 23, 3) := by decide +kernel
theorem dX7_init_92 : decode cX7_init 92 = .ok (.aload_n 0, 1) := by decide +kernel
theorem dX7_init_93 : decode cX7_init 93 = .ok (.bipush 40, 2) := by decide +kernel
theorem dX7_init_95 : decode cX7_init 95 = .ok (.newarray .int, 2) := by decide +kernel
theorem dX7_init_97 : decode cX7_init 97 = .ok (.putfield 26, 3) := by decide +kernel
theorem dX7_init_100 : decode cX7_init 100 = .ok (.aload_n 0, 1) := by decide +kernel
theorem dX7_init_101 : decode cX7_init 101 = .ok (.bipush 12, 2) := by decide +kernel
theorem dX7_init_103 : decode cX7_init 103 = .ok (.newarray .int, 2) := by decide +kernel
theorem dX7_init_105 : decode cX7_init 105 = .ok (.putfield 29, 3) := by decide +kernel
theorem dX7_init_108 : decode cX7_init 108 = .ok (.aload_n 0, 1) := by decide +kernel
theorem dX7_init_109 : decode cX7_init 109 = .ok (.bipush 72, 2) := by decide +kernel
theorem dX7_init_111 : decode cX7_init 111 = .ok (.newarray .int, 2) := by decide +kernel
theorem dX7_init_113 : decode cX7_init 113 = .ok (.putfield 32, 3) := by decide +kernel
theorem dX7_init_116 : decode cX7_init 116 = .ok (.aload_n 0, 1) := by decide +kernel
theorem dX7_init_117 : decode cX7_init 117 = .ok (.bipush 6, 2) := by decide +kernel
theorem dX7_init_119 : decode cX7_init 119 = .ok (.newarray .int, 2) := by decide +kernel
theorem dX7_init_121 : decode cX7_init 121 = .ok (.putfield 35, 3) := by decide +kernel
theorem dX7_init_124 : decode cX7_init 124 = .ok (.aload_n 0, 1) := by decide +kernel
theorem dX7_init_125 : decode cX7_init 125 = .ok (.bipush 12, 2) := by decide +kernel
theorem dX7_init_127 : decode cX7_init 127 = .ok (.newarray .int, 2) := by decide +kernel
theorem dX7_init_129 : decode cX7_init 129 = .ok (.putfield 38, 3) := by decide +kernel
theorem dX7_init_132 : decode cX7_init 132 = .ok (.aload_n 0, 1) := by decide +kernel
theorem dX7_init_133 : decode cX7_init 133 = .ok (.bipush 12, 2) := by decide +kernel
theorem dX7_init_135 : decode cX7_init 135 = .ok (.newarray .int, 2) := by decide +kernel
theorem dX7_init_137 : decode cX7_init 137 = .ok (.putfield 41, 3) := by decide +kernel
theorem dX7_init_140 : decode cX7_init 140 = .ok (.return_, 1) := by decide +kernel
theorem dX7_in_0 : decode cX7_in 0 = .ok (.lload_n 0, 1) := by decide +kernel
theorem dX7_in_1 : decode cX7_in 1 = .ok (.lload_n 2, 1) := by decide +kernel
theorem dX7_in_2 : decode cX7_in 2 = .ok (.lcmp, 1) := by decide +kernel
theorem dX7_in_3 : decode cX7_in 3 = .ok (.ifCond .lt 14, 3) := by decide +kernel
theorem dX7_in_6 : decode cX7_in 6 = .ok (.lload_n 0, 1) := by decide +kernel
theorem dX7_in_7 : decode cX7_in 7 = .ok (.lload 4, 2) := by decide +kernel
theorem dX7_in_9 : decode cX7_in 9 = .ok (.lcmp, 1) := by decide +kernel
theorem dX7_in_10 : decode cX7_in 10 = .ok (.ifCond .gt 7, 3) := by decide +kernel
theorem dX7_in_13 : decode cX7_in 13 = .ok (.iconst 1, 1) := by decide +kernel
theorem dX7_in_14 : decode cX7_in 14 = .ok (.goto 4, 3) := by decide +kernel
theorem dX7_in_17 : decode cX7_in 17 = .ok (.iconst 0, 1) := by decide +kernel
theorem dX7_in_18 : decode cX7_in 18 = .ok (.ireturn, 1) := by decide +kernel
theorem dX7_isRow_0 : decode cX7_isRow 0 = .ok (.iload_n 0, 1) := by decide +kernel
theorem dX7_isRow_1 : decode cX7_isRow 1 = .ok (.i2l, 1) := by decide +kernel
theorem dX7_isRow_2 : decode cX7_isRow 2 = .ok (.lconst 0, 1) := by decide +kernel
theorem dX7_isRow_3 : decode cX7_isRow 3 = .ok (.ldc2_w 44, 3) := by decide +kernel
theorem dX7_isRow_6 : decode cX7_isRow 6 = .ok (.invokestatic 46, 3) := by decide +kernel
theorem dX7_isRow_9 : decode cX7_isRow 9 = .ok (.ireturn, 1) := by decide +kernel
theorem dX7_row_0 : decode cX7_row 0 = .ok (.iload_n 1, 1) := by decide +kernel
theorem dX7_row_1 : decode cX7_row 1 = .ok (.invokestatic 50, 3) := by decide +kernel
theorem dX7_row_4 : decode cX7_row 4 = .ok (.ifCond .eq 45, 3) := by decide +kernel
theorem dX7_row_7 : decode cX7_row 7 = .ok (.iload_n 2, 1) := by decide +kernel
theorem dX7_row_8 : decode cX7_row 8 = .ok (.i2l, 1) := by decide +kernel
theorem dX7_row_9 : decode cX7_row 9 = .ok (.lconst 1, 1) := by decide +kernel
theorem dX7_row_10 : decode cX7_row 10 = .ok (.ldc2_w 54, 3) := by decide +kernel
theorem dX7_row_13 : decode cX7_row 13 = .ok (.invokestatic 46, 3) := by decide +kernel
theorem dX7_row_16 : decode cX7_row 16 = .ok (.ifCond .eq 33, 3) := by decide +kernel
theorem dX7_row_19 : decode cX7_row 19 = .ok (.iload_n 3, 1) := by decide +kernel
theorem dX7_row_20 : decode cX7_row 20 = .ok (.i2l, 1) := by decide +kernel
theorem dX7_row_21 : decode cX7_row 21 = .ok (.lconst 1, 1) := by decide +kernel
theorem dX7_row_22 : decode cX7_row 22 = .ok (.ldc2_w 54, 3) := by decide +kernel
theorem dX7_row_25 : decode cX7_row 25 = .ok (.invokestatic 46, 3) := by decide +kernel
theorem dX7_row_28 : decode cX7_row 28 = .ok (.ifCond .eq 21, 3) := by decide +kernel
theorem dX7_row_31 : decode cX7_row 31 = .ok (.lload 4, 2) := by decide +kernel
theorem dX7_row_33 : decode cX7_row 33 = .ok (.lconst 0, 1) := by decide +kernel
theorem dX7_row_34 : decode cX7_row 34 = .ok (.lcmp, 1) := by decide +kernel
theorem dX7_row_35 : decode cX7_row 35 = .ok (.ifCond .lt 14, 3) := by decide +kernel
theorem dX7_row_38 : decode cX7_row 38 = .ok (.lload 4, 2) := by decide +kernel
theorem dX7_row_40 : decode cX7_row 40 = .ok (.iconst 4, 1) := by decide +kernel
theorem dX7_row_41 : decode cX7_row 41 = .ok (.iload_n 2, 1) := by decide +kernel
theorem dX7_row_42 : decode cX7_row 42 = .ok (.imul, 1) := by decide +kernel
theorem dX7_row_43 : decode cX7_row 43 = .ok (.lshr, 1) := by decide +kernel
theorem dX7_row_44 : decode cX7_row 44 = .ok (.lconst 0, 1) := by decide +kernel
theorem dX7_row_45 : decode cX7_row 45 = .ok (.lcmp, 1) := by decide +kernel
theorem dX7_row_46 : decode cX7_row 46 = .ok (.ifCond .eq 5, 3) := by decide +kernel
theorem dX7_row_49 : decode cX7_row 49 = .ok (.iconst (-1), 1) := by decide +kernel
theorem dX7_row_50 : decode cX7_row 50 = .ok (.ireturn, 1) := by decide +kernel
theorem dX7_row_51 : decode cX7_row 51 = .ok (.iconst 0, 1) := by decide +kernel
theorem dX7_row_52 : decode cX7_row 52 = .ok (.istore 6, 2) := by decide +kernel
theorem dX7_row_54 : decode cX7_row 54 = .ok (.iload 6, 2) := by decide +kernel
theorem dX7_row_56 : decode cX7_row 56 = .ok (.iload_n 2, 1) := by decide +kernel
theorem dX7_row_57 : decode cX7_row 57 = .ok (.if_icmp .ge 42, 3) := by decide +kernel
theorem dX7_row_60 : decode cX7_row 60 = .ok (.lload 4, 2) := by decide +kernel
theorem dX7_row_62 : decode cX7_row 62 = .ok (.iconst 4, 1) := by decide +kernel
theorem dX7_row_63 : decode cX7_row 63 = .ok (.iload_n 2, 1) := by decide +kernel
theorem dX7_row_64 : decode cX7_row 64 = .ok (.iconst 1, 1) := by decide +kernel
theorem dX7_row_65 : decode cX7_row 65 = .ok (.isub, 1) := by decide +kernel
theorem dX7_row_66 : decode cX7_row 66 = .ok (.iload 6, 2) := by decide +kernel
theorem dX7_row_68 : decode cX7_row 68 = .ok (.isub, 1) := by decide +kernel
theorem dX7_row_69 : decode cX7_row 69 = .ok (.imul, 1) := by decide +kernel
theorem dX7_row_70 : decode cX7_row 70 = .ok (.lshr, 1) := by decide +kernel
theorem dX7_row_71 : decode cX7_row 71 = .ok (.ldc2_w 56, 3) := by decide +kernel
theorem dX7_row_74 : decode cX7_row 74 = .ok (.land, 1) := by decide +kernel
theorem dX7_row_75 : decode cX7_row 75 = .ok (.l2i, 1) := by decide +kernel
theorem dX7_row_76 : decode cX7_row 76 = .ok (.istore 7, 2) := by decide +kernel
theorem dX7_row_78 : decode cX7_row 78 = .ok (.iload 7, 2) := by decide +kernel
theorem dX7_row_80 : decode cX7_row 80 = .ok (.bipush 15, 2) := by decide +kernel
theorem dX7_row_82 : decode cX7_row 82 = .ok (.if_icmp .eq 11, 3) := by decide +kernel
theorem dX7_row_85 : decode cX7_row 85 = .ok (.iload 7, 2) := by decide +kernel
theorem dX7_row_87 : decode cX7_row 87 = .ok (.iload_n 3, 1) := by decide +kernel
theorem dX7_row_88 : decode cX7_row 88 = .ok (.if_icmp .lt 5, 3) := by decide +kernel
theorem dX7_row_91 : decode cX7_row 91 = .ok (.iconst (-1), 1) := by decide +kernel
theorem dX7_row_92 : decode cX7_row 92 = .ok (.ireturn, 1) := by decide +kernel
theorem dX7_row_93 : decode cX7_row 93 = .ok (.iinc 6 1, 3) := by decide +kernel
theorem dX7_row_96 : decode cX7_row 96 = .ok (.goto (-42), 3) := by decide +kernel
theorem dX7_row_99 : decode cX7_row 99 = .ok (.aload_n 0, 1) := by decide +kernel
theorem dX7_row_100 : decode cX7_row 100 = .ok (.getfield 7, 3) := by decide +kernel
theorem dX7_row_103 : decode cX7_row 103 = .ok (.iload_n 1, 1) := by decide +kernel
theorem dX7_row_104 : decode cX7_row 104 = .ok (.iaload, 1) := by decide +kernel
theorem dX7_row_105 : decode cX7_row 105 = .ok (.istore 6, 2) := by decide +kernel
theorem dX7_row_107 : decode cX7_row 107 = .ok (.aload_n 0, 1) := by decide +kernel
theorem dX7_row_108 : decode cX7_row 108 = .ok (.getfield 7, 3) := by decide +kernel
theorem dX7_row_111 : decode cX7_row 111 = .ok (.iload_n 1, 1) := by decide +kernel
theorem dX7_row_112 : decode cX7_row 112 = .ok (.iload_n 2, 1) := by decide +kernel
theorem dX7_row_113 : decode cX7_row 113 = .ok (.iastore, 1) := by decide +kernel
theorem dX7_row_114 : decode cX7_row 114 = .ok (.aload_n 0, 1) := by decide +kernel
theorem dX7_row_115 : decode cX7_row 115 = .ok (.getfield 13, 3) := by decide +kernel
theorem dX7_row_118 : decode cX7_row 118 = .ok (.iload_n 1, 1) := by decide +kernel
theorem dX7_row_119 : decode cX7_row 119 = .ok (.iload_n 3, 1) := by decide +kernel
theorem dX7_row_120 : decode cX7_row 120 = .ok (.iastore, 1) := by decide +kernel
theorem dX7_row_121 : decode cX7_row 121 = .ok (.iconst 0, 1) := by decide +kernel
theorem dX7_row_122 : decode cX7_row 122 = .ok (.istore 7, 2) := by decide +kernel
theorem dX7_row_124 : decode cX7_row 124 = .ok (.iload 7, 2) := by decide +kernel
theorem dX7_row_126 : decode cX7_row 126 = .ok (.iload_n 2, 1) := by decide +kernel
theorem dX7_row_127 : decode cX7_row 127 = .ok (.if_icmp .ge 37, 3) := by decide +kernel
theorem dX7_row_130 : decode cX7_row 130 = .ok (.aload_n 0, 1) := by decide +kernel
theorem dX7_row_131 : decode cX7_row 131 = .ok (.getfield 16, 3) := by decide +kernel
theorem dX7_row_134 : decode cX7_row 134 = .ok (.bipush 12, 2) := by decide +kernel
theorem dX7_row_136 : decode cX7_row 136 = .ok (.iload_n 1, 1) := by decide +kernel
theorem dX7_row_137 : decode cX7_row 137 = .ok (.imul, 1) := by decide +kernel
theorem dX7_row_138 : decode cX7_row 138 = .ok (.iload 7, 2) := by decide +kernel
theorem dX7_row_140 : decode cX7_row 140 = .ok (.iadd, 1) := by decide +kernel
theorem dX7_row_141 : decode cX7_row 141 = .ok (.lload 4, 2) := by decide +kernel
theorem dX7_row_143 : decode cX7_row 143 = .ok (.iconst 4, 1) := by decide +kernel
theorem dX7_row_144 : decode cX7_row 144 = .ok (.iload_n 2, 1) := by decide +kernel
theorem dX7_row_145 : decode cX7_row 145 = .ok (.iconst 1, 1) := by decide +kernel
theorem dX7_row_146 : decode cX7_row 146 = .ok (.isub, 1) := by decide +kernel
theorem dX7_row_147 : decode cX7_row 147 = .ok (.iload 7, 2) := by decide +kernel
theorem dX7_row_149 : decode cX7_row 149 = .ok (.isub, 1) := by decide +kernel
theorem dX7_row_150 : decode cX7_row 150 = .ok (.imul, 1) := by decide +kernel
theorem dX7_row_151 : decode cX7_row 151 = .ok (.lshr, 1) := by decide +kernel
theorem dX7_row_152 : decode cX7_row 152 = .ok (.ldc2_w 56, 3) := by decide +kernel
theorem dX7_row_155 : decode cX7_row 155 = .ok (.land, 1) := by decide +kernel
theorem dX7_row_156 : decode cX7_row 156 = .ok (.l2i, 1) := by decide +kernel
theorem dX7_row_157 : decode cX7_row 157 = .ok (.iastore, 1) := by decide +kernel
theorem dX7_row_158 : decode cX7_row 158 = .ok (.iinc 7 1, 3) := by decide +kernel
theorem dX7_row_161 : decode cX7_row 161 = .ok (.goto (-37), 3) := by decide +kernel
theorem dX7_row_164 : decode cX7_row 164 = .ok (.iload 6, 2) := by decide +kernel
theorem dX7_row_166 : decode cX7_row 166 = .ok (.ireturn, 1) := by decide +kernel
theorem dX7_write_0 : decode cX7_write 0 = .ok (.iload_n 1, 1) := by decide +kernel
theorem dX7_write_1 : decode cX7_write 1 = .ok (.i2l, 1) := by decide +kernel
theorem dX7_write_2 : decode cX7_write 2 = .ok (.lconst 1, 1) := by decide +kernel
theorem dX7_write_3 : decode cX7_write 3 = .ok (.ldc2_w 58, 3) := by decide +kernel
theorem dX7_write_6 : decode cX7_write 6 = .ok (.invokestatic 46, 3) := by decide +kernel
theorem dX7_write_9 : decode cX7_write 9 = .ok (.ifCond .ne 5, 3) := by decide +kernel
theorem dX7_write_12 : decode cX7_write 12 = .ok (.iconst (-1), 1) := by decide +kernel
theorem dX7_write_13 : decode cX7_write 13 = .ok (.ireturn, 1) := by decide +kernel
theorem dX7_write_14 : decode cX7_write 14 = .ok (.aload_n 0, 1) := by decide +kernel
theorem dX7_write_15 : decode cX7_write 15 = .ok (.getfield 60, 3) := by decide +kernel
theorem dX7_write_18 : decode cX7_write 18 = .ok (.iload_n 1, 1) := by decide +kernel
theorem dX7_write_19 : decode cX7_write 19 = .ok (.iadd, 1) := by decide +kernel
theorem dX7_write_20 : decode cX7_write 20 = .ok (.bipush 60, 2) := by decide +kernel
theorem dX7_write_22 : decode cX7_write 22 = .ok (.if_icmp .le 6, 3) := by decide +kernel
theorem dX7_write_25 : decode cX7_write 25 = .ok (.bipush (-3), 2) := by decide +kernel
theorem dX7_write_27 : decode cX7_write 27 = .ok (.ireturn, 1) := by decide +kernel
theorem dX7_write_28 : decode cX7_write 28 = .ok (.iload_n 1, 1) := by decide +kernel
theorem dX7_write_29 : decode cX7_write 29 = .ok (.iconst 1, 1) := by decide +kernel
theorem dX7_write_30 : decode cX7_write 30 = .ok (.isub, 1) := by decide +kernel
theorem dX7_write_31 : decode cX7_write 31 = .ok (.istore 4, 2) := by decide +kernel
theorem dX7_write_33 : decode cX7_write 33 = .ok (.iload 4, 2) := by decide +kernel
theorem dX7_write_35 : decode cX7_write 35 = .ok (.ifCond .lt 37, 3) := by decide +kernel
theorem dX7_write_38 : decode cX7_write 38 = .ok (.aload_n 0, 1) := by decide +kernel
theorem dX7_write_39 : decode cX7_write 39 = .ok (.getfield 19, 3) := by decide +kernel
theorem dX7_write_42 : decode cX7_write 42 = .ok (.aload_n 0, 1) := by decide +kernel
theorem dX7_write_43 : decode cX7_write 43 = .ok (.getfield 60, 3) := by decide +kernel
theorem dX7_write_46 : decode cX7_write 46 = .ok (.lload_n 2, 1) := by decide +kernel
theorem dX7_write_47 : decode cX7_write 47 = .ok (.bipush 8, 2) := by decide +kernel
theorem dX7_write_49 : decode cX7_write 49 = .ok (.iload 4, 2) := by decide +kernel
theorem dX7_write_51 : decode cX7_write 51 = .ok (.imul, 1) := by decide +kernel
theorem dX7_write_52 : decode cX7_write 52 = .ok (.lshr, 1) := by decide +kernel
theorem dX7_write_53 : decode cX7_write 53 = .ok (.l2i, 1) := by decide +kernel
theorem dX7_write_54 : decode cX7_write 54 = .ok (.i2b, 1) := by decide +kernel
theorem dX7_write_55 : decode cX7_write 55 = .ok (.bastore, 1) := by decide +kernel
theorem dX7_write_56 : decode cX7_write 56 = .ok (.aload_n 0, 1) := by decide +kernel
theorem dX7_write_57 : decode cX7_write 57 = .ok (.dup, 1) := by decide +kernel
theorem dX7_write_58 : decode cX7_write 58 = .ok (.getfield 60, 3) := by decide +kernel
theorem dX7_write_61 : decode cX7_write 61 = .ok (.iconst 1, 1) := by decide +kernel
theorem dX7_write_62 : decode cX7_write 62 = .ok (.iadd, 1) := by decide +kernel
theorem dX7_write_63 : decode cX7_write 63 = .ok (.putfield 60, 3) := by decide +kernel
theorem dX7_write_66 : decode cX7_write 66 = .ok (.iinc 4 (-1), 3) := by decide +kernel
theorem dX7_write_69 : decode cX7_write 69 = .ok (.goto (-36), 3) := by decide +kernel
theorem dX7_write_72 : decode cX7_write 72 = .ok (.aload_n 0, 1) := by decide +kernel
theorem dX7_write_73 : decode cX7_write 73 = .ok (.getfield 60, 3) := by decide +kernel
theorem dX7_write_76 : decode cX7_write 76 = .ok (.ireturn, 1) := by decide +kernel
theorem dX7_wipe_0 : decode cX7_wipe 0 = .ok (.aload_n 0, 1) := by decide +kernel
theorem dX7_wipe_1 : decode cX7_wipe 1 = .ok (.getfield 60, 3) := by decide +kernel
theorem dX7_wipe_4 : decode cX7_wipe 4 = .ok (.istore_n 1, 1) := by decide +kernel
theorem dX7_wipe_5 : decode cX7_wipe 5 = .ok (.aload_n 0, 1) := by decide +kernel
theorem dX7_wipe_6 : decode cX7_wipe 6 = .ok (.iconst 0, 1) := by decide +kernel
theorem dX7_wipe_7 : decode cX7_wipe 7 = .ok (.putfield 60, 3) := by decide +kernel
theorem dX7_wipe_10 : decode cX7_wipe 10 = .ok (.iload_n 1, 1) := by decide +kernel
theorem dX7_wipe_11 : decode cX7_wipe 11 = .ok (.ireturn, 1) := by decide +kernel
theorem dX7_fault_0 : decode cX7_fault 0 = .ok (.aload_n 0, 1) := by decide +kernel
theorem dX7_fault_1 : decode cX7_fault 1 = .ok (.iconst 0, 1) := by decide +kernel
theorem dX7_fault_2 : decode cX7_fault 2 = .ok (.putfield 64, 3) := by decide +kernel
theorem dX7_fault_5 : decode cX7_fault 5 = .ok (.iconst 0, 1) := by decide +kernel
theorem dX7_fault_6 : decode cX7_fault 6 = .ok (.istore_n 1, 1) := by decide +kernel
theorem dX7_fault_7 : decode cX7_fault 7 = .ok (.iconst 0, 1) := by decide +kernel
theorem dX7_fault_8 : decode cX7_fault 8 = .ok (.istore_n 2, 1) := by decide +kernel
theorem dX7_fault_9 : decode cX7_fault 9 = .ok (.iload_n 2, 1) := by decide +kernel
theorem dX7_fault_10 : decode cX7_fault 10 = .ok (.aload_n 0, 1) := by decide +kernel
theorem dX7_fault_11 : decode cX7_fault 11 = .ok (.getfield 60, 3) := by decide +kernel
theorem dX7_fault_14 : decode cX7_fault 14 = .ok (.if_icmp .ge 136, 3) := by decide +kernel
theorem dX7_fault_17 : decode cX7_fault 17 = .ok (.aload_n 0, 1) := by decide +kernel
theorem dX7_fault_18 : decode cX7_fault 18 = .ok (.getfield 19, 3) := by decide +kernel
theorem dX7_fault_21 : decode cX7_fault 21 = .ok (.iload_n 2, 1) := by decide +kernel
theorem dX7_fault_22 : decode cX7_fault 22 = .ok (.baload, 1) := by decide +kernel
theorem dX7_fault_23 : decode cX7_fault 23 = .ok (.istore_n 3, 1) := by decide +kernel
theorem dX7_fault_24 : decode cX7_fault 24 = .ok (.aload_n 0, 1) := by decide +kernel
theorem dX7_fault_25 : decode cX7_fault 25 = .ok (.getfield 64, 3) := by decide +kernel
end
section
theorem dX7_fault_28 : decode cX7_fault 28 = .ok (.bipush 6, 2) := by decide +kernel
theorem dX7_fault_30 : decode cX7_fault 30 = .ok (.if_icmp .ne 5, 3) := by decide +kernel
theorem dX7_fault_33 : decode cX7_fault 33 = .ok (.iload_n 2, 1) := by decide +kernel
theorem dX7_fault_34 : decode cX7_fault 34 = .ok (.ireturn, 1) := by decide +kernel
theorem dX7_fault_35 : decode cX7_fault 35 = .ok (.iload_n 3, 1) := by decide +kernel
theorem dX7_fault_36 : decode cX7_fault 36 = .ok (.bipush 59, 2) := by decide +kernel
theorem dX7_fault_38 : decode cX7_fault 38 = .ok (.if_icmp .ne 34, 3) := by decide +kernel
theorem dX7_fault_41 : decode cX7_fault 41 = .ok (.iload_n 1, 1) := by decide +kernel
theorem dX7_fault_42 : decode cX7_fault 42 = .ok (.ifCond .ne 5, 3) := by decide +kernel
theorem dX7_fault_45 : decode cX7_fault 45 = .ok (.iload_n 2, 1) := by decide +kernel
theorem dX7_fault_46 : decode cX7_fault 46 = .ok (.ireturn, 1) := by decide +kernel
theorem dX7_fault_47 : decode cX7_fault 47 = .ok (.aload_n 0, 1) := by decide +kernel
theorem dX7_fault_48 : decode cX7_fault 48 = .ok (.getfield 35, 3) := by decide +kernel
theorem dX7_fault_51 : decode cX7_fault 51 = .ok (.aload_n 0, 1) := by decide +kernel
theorem dX7_fault_52 : decode cX7_fault 52 = .ok (.getfield 64, 3) := by decide +kernel
theorem dX7_fault_55 : decode cX7_fault 55 = .ok (.iload_n 1, 1) := by decide +kernel
theorem dX7_fault_56 : decode cX7_fault 56 = .ok (.iastore, 1) := by decide +kernel
theorem dX7_fault_57 : decode cX7_fault 57 = .ok (.aload_n 0, 1) := by decide +kernel
theorem dX7_fault_58 : decode cX7_fault 58 = .ok (.dup, 1) := by decide +kernel
theorem dX7_fault_59 : decode cX7_fault 59 = .ok (.getfield 64, 3) := by decide +kernel
theorem dX7_fault_62 : decode cX7_fault 62 = .ok (.iconst 1, 1) := by decide +kernel
theorem dX7_fault_63 : decode cX7_fault 63 = .ok (.iadd, 1) := by decide +kernel
theorem dX7_fault_64 : decode cX7_fault 64 = .ok (.putfield 64, 3) := by decide +kernel
theorem dX7_fault_67 : decode cX7_fault 67 = .ok (.iconst 0, 1) := by decide +kernel
theorem dX7_fault_68 : decode cX7_fault 68 = .ok (.istore_n 1, 1) := by decide +kernel
theorem dX7_fault_69 : decode cX7_fault 69 = .ok (.goto 75, 3) := by decide +kernel
theorem dX7_fault_72 : decode cX7_fault 72 = .ok (.iload_n 3, 1) := by decide +kernel
theorem dX7_fault_73 : decode cX7_fault 73 = .ok (.i2l, 1) := by decide +kernel
theorem dX7_fault_74 : decode cX7_fault 74 = .ok (.ldc2_w 67, 3) := by decide +kernel
theorem dX7_fault_77 : decode cX7_fault 77 = .ok (.ldc2_w 69, 3) := by decide +kernel
theorem dX7_fault_80 : decode cX7_fault 80 = .ok (.invokestatic 46, 3) := by decide +kernel
theorem dX7_fault_83 : decode cX7_fault 83 = .ok (.ifCond .ne 9, 3) := by decide +kernel
theorem dX7_fault_86 : decode cX7_fault 86 = .ok (.iload_n 3, 1) := by decide +kernel
theorem dX7_fault_87 : decode cX7_fault 87 = .ok (.bipush 46, 2) := by decide +kernel
theorem dX7_fault_89 : decode cX7_fault 89 = .ok (.if_icmp .ne 7, 3) := by decide +kernel
theorem dX7_fault_92 : decode cX7_fault 92 = .ok (.iconst 1, 1) := by decide +kernel
theorem dX7_fault_93 : decode cX7_fault 93 = .ok (.goto 4, 3) := by decide +kernel
theorem dX7_fault_96 : decode cX7_fault 96 = .ok (.iconst 0, 1) := by decide +kernel
theorem dX7_fault_97 : decode cX7_fault 97 = .ok (.istore 4, 2) := by decide +kernel
theorem dX7_fault_99 : decode cX7_fault 99 = .ok (.iload 4, 2) := by decide +kernel
theorem dX7_fault_101 : decode cX7_fault 101 = .ok (.ifCond .eq 9, 3) := by decide +kernel
theorem dX7_fault_104 : decode cX7_fault 104 = .ok (.iload_n 1, 1) := by decide +kernel
theorem dX7_fault_105 : decode cX7_fault 105 = .ok (.bipush 12, 2) := by decide +kernel
theorem dX7_fault_107 : decode cX7_fault 107 = .ok (.if_icmp .ne 5, 3) := by decide +kernel
theorem dX7_fault_110 : decode cX7_fault 110 = .ok (.iload_n 2, 1) := by decide +kernel
theorem dX7_fault_111 : decode cX7_fault 111 = .ok (.ireturn, 1) := by decide +kernel
theorem dX7_fault_112 : decode cX7_fault 112 = .ok (.aload_n 0, 1) := by decide +kernel
theorem dX7_fault_113 : decode cX7_fault 113 = .ok (.getfield 32, 3) := by decide +kernel
theorem dX7_fault_116 : decode cX7_fault 116 = .ok (.bipush 12, 2) := by decide +kernel
theorem dX7_fault_118 : decode cX7_fault 118 = .ok (.aload_n 0, 1) := by decide +kernel
theorem dX7_fault_119 : decode cX7_fault 119 = .ok (.getfield 64, 3) := by decide +kernel
theorem dX7_fault_122 : decode cX7_fault 122 = .ok (.imul, 1) := by decide +kernel
theorem dX7_fault_123 : decode cX7_fault 123 = .ok (.iload_n 1, 1) := by decide +kernel
theorem dX7_fault_124 : decode cX7_fault 124 = .ok (.iadd, 1) := by decide +kernel
theorem dX7_fault_125 : decode cX7_fault 125 = .ok (.iload_n 3, 1) := by decide +kernel
theorem dX7_fault_126 : decode cX7_fault 126 = .ok (.bipush 46, 2) := by decide +kernel
theorem dX7_fault_128 : decode cX7_fault 128 = .ok (.if_icmp .ne 8, 3) := by decide +kernel
theorem dX7_fault_131 : decode cX7_fault 131 = .ok (.bipush 15, 2) := by decide +kernel
theorem dX7_fault_133 : decode cX7_fault 133 = .ok (.goto 7, 3) := by decide +kernel
theorem dX7_fault_136 : decode cX7_fault 136 = .ok (.iload_n 3, 1) := by decide +kernel
theorem dX7_fault_137 : decode cX7_fault 137 = .ok (.bipush 97, 2) := by decide +kernel
theorem dX7_fault_139 : decode cX7_fault 139 = .ok (.isub, 1) := by decide +kernel
theorem dX7_fault_140 : decode cX7_fault 140 = .ok (.iastore, 1) := by decide +kernel
theorem dX7_fault_141 : decode cX7_fault 141 = .ok (.iinc 1 1, 3) := by decide +kernel
theorem dX7_fault_144 : decode cX7_fault 144 = .ok (.iinc 2 1, 3) := by decide +kernel
theorem dX7_fault_147 : decode cX7_fault 147 = .ok (.goto (-138), 3) := by decide +kernel
theorem dX7_fault_150 : decode cX7_fault 150 = .ok (.iload_n 1, 1) := by decide +kernel
theorem dX7_fault_151 : decode cX7_fault 151 = .ok (.ifCond .le 10, 3) := by decide +kernel
theorem dX7_fault_154 : decode cX7_fault 154 = .ok (.aload_n 0, 1) := by decide +kernel
theorem dX7_fault_155 : decode cX7_fault 155 = .ok (.getfield 60, 3) := by decide +kernel
theorem dX7_fault_158 : decode cX7_fault 158 = .ok (.goto 5, 3) := by decide +kernel
theorem dX7_fault_161 : decode cX7_fault 161 = .ok (.bipush (-4), 2) := by decide +kernel
theorem dX7_fault_163 : decode cX7_fault 163 = .ok (.ireturn, 1) := by decide +kernel
theorem dX7_lay_0 : decode cX7_lay 0 = .ok (.iload_n 1, 1) := by decide +kernel
theorem dX7_lay_1 : decode cX7_lay 1 = .ok (.i2l, 1) := by decide +kernel
theorem dX7_lay_2 : decode cX7_lay 2 = .ok (.lconst 1, 1) := by decide +kernel
theorem dX7_lay_3 : decode cX7_lay 3 = .ok (.ldc2_w 54, 3) := by decide +kernel
theorem dX7_lay_6 : decode cX7_lay 6 = .ok (.invokestatic 46, 3) := by decide +kernel
theorem dX7_lay_9 : decode cX7_lay 9 = .ok (.ifCond .ne 5, 3) := by decide +kernel
theorem dX7_lay_12 : decode cX7_lay 12 = .ok (.iconst (-1), 1) := by decide +kernel
theorem dX7_lay_13 : decode cX7_lay 13 = .ok (.ireturn, 1) := by decide +kernel
theorem dX7_lay_14 : decode cX7_lay 14 = .ok (.aload_n 0, 1) := by decide +kernel
theorem dX7_lay_15 : decode cX7_lay 15 = .ok (.invokevirtual 71, 3) := by decide +kernel
theorem dX7_lay_18 : decode cX7_lay 18 = .ok (.bipush (-4), 2) := by decide +kernel
theorem dX7_lay_20 : decode cX7_lay 20 = .ok (.if_icmp .eq 6, 3) := by decide +kernel
theorem dX7_lay_23 : decode cX7_lay 23 = .ok (.bipush (-2), 2) := by decide +kernel
theorem dX7_lay_25 : decode cX7_lay 25 = .ok (.ireturn, 1) := by decide +kernel
theorem dX7_lay_26 : decode cX7_lay 26 = .ok (.iconst 0, 1) := by decide +kernel
theorem dX7_lay_27 : decode cX7_lay 27 = .ok (.istore_n 2, 1) := by decide +kernel
theorem dX7_lay_28 : decode cX7_lay 28 = .ok (.iload_n 2, 1) := by decide +kernel
theorem dX7_lay_29 : decode cX7_lay 29 = .ok (.aload_n 0, 1) := by decide +kernel
theorem dX7_lay_30 : decode cX7_lay 30 = .ok (.getfield 64, 3) := by decide +kernel
theorem dX7_lay_33 : decode cX7_lay 33 = .ok (.if_icmp .ge 53, 3) := by decide +kernel
theorem dX7_lay_36 : decode cX7_lay 36 = .ok (.iconst 0, 1) := by decide +kernel
theorem dX7_lay_37 : decode cX7_lay 37 = .ok (.istore_n 3, 1) := by decide +kernel
theorem dX7_lay_38 : decode cX7_lay 38 = .ok (.iload_n 3, 1) := by decide +kernel
theorem dX7_lay_39 : decode cX7_lay 39 = .ok (.aload_n 0, 1) := by decide +kernel
theorem dX7_lay_40 : decode cX7_lay 40 = .ok (.getfield 35, 3) := by decide +kernel
theorem dX7_lay_43 : decode cX7_lay 43 = .ok (.iload_n 2, 1) := by decide +kernel
theorem dX7_lay_44 : decode cX7_lay 44 = .ok (.iaload, 1) := by decide +kernel
theorem dX7_lay_45 : decode cX7_lay 45 = .ok (.if_icmp .ge 35, 3) := by decide +kernel
theorem dX7_lay_48 : decode cX7_lay 48 = .ok (.aload_n 0, 1) := by decide +kernel
theorem dX7_lay_49 : decode cX7_lay 49 = .ok (.getfield 32, 3) := by decide +kernel
theorem dX7_lay_52 : decode cX7_lay 52 = .ok (.bipush 12, 2) := by decide +kernel
theorem dX7_lay_54 : decode cX7_lay 54 = .ok (.iload_n 2, 1) := by decide +kernel
theorem dX7_lay_55 : decode cX7_lay 55 = .ok (.imul, 1) := by decide +kernel
theorem dX7_lay_56 : decode cX7_lay 56 = .ok (.iload_n 3, 1) := by decide +kernel
theorem dX7_lay_57 : decode cX7_lay 57 = .ok (.iadd, 1) := by decide +kernel
theorem dX7_lay_58 : decode cX7_lay 58 = .ok (.iaload, 1) := by decide +kernel
theorem dX7_lay_59 : decode cX7_lay 59 = .ok (.i2l, 1) := by decide +kernel
theorem dX7_lay_60 : decode cX7_lay 60 = .ok (.iload_n 1, 1) := by decide +kernel
theorem dX7_lay_61 : decode cX7_lay 61 = .ok (.i2l, 1) := by decide +kernel
theorem dX7_lay_62 : decode cX7_lay 62 = .ok (.ldc2_w 75, 3) := by decide +kernel
theorem dX7_lay_65 : decode cX7_lay 65 = .ok (.invokestatic 46, 3) := by decide +kernel
theorem dX7_lay_68 : decode cX7_lay 68 = .ok (.ifCond .eq 6, 3) := by decide +kernel
theorem dX7_lay_71 : decode cX7_lay 71 = .ok (.bipush (-2), 2) := by decide +kernel
theorem dX7_lay_73 : decode cX7_lay 73 = .ok (.ireturn, 1) := by decide +kernel
theorem dX7_lay_74 : decode cX7_lay 74 = .ok (.iinc 3 1, 3) := by decide +kernel
theorem dX7_lay_77 : decode cX7_lay 77 = .ok (.goto (-39), 3) := by decide +kernel
theorem dX7_lay_80 : decode cX7_lay 80 = .ok (.iinc 2 1, 3) := by decide +kernel
theorem dX7_lay_83 : decode cX7_lay 83 = .ok (.goto (-55), 3) := by decide +kernel
theorem dX7_lay_86 : decode cX7_lay 86 = .ok (.iconst 0, 1) := by decide +kernel
theorem dX7_lay_87 : decode cX7_lay 87 = .ok (.istore_n 2, 1) := by decide +kernel
theorem dX7_lay_88 : decode cX7_lay 88 = .ok (.iload_n 2, 1) := by decide +kernel
theorem dX7_lay_89 : decode cX7_lay 89 = .ok (.aload_n 0, 1) := by decide +kernel
theorem dX7_lay_90 : decode cX7_lay 90 = .ok (.getfield 64, 3) := by decide +kernel
theorem dX7_lay_93 : decode cX7_lay 93 = .ok (.if_icmp .ge 68, 3) := by decide +kernel
theorem dX7_lay_96 : decode cX7_lay 96 = .ok (.aload_n 0, 1) := by decide +kernel
theorem dX7_lay_97 : decode cX7_lay 97 = .ok (.getfield 7, 3) := by decide +kernel
theorem dX7_lay_100 : decode cX7_lay 100 = .ok (.iload_n 2, 1) := by decide +kernel
theorem dX7_lay_101 : decode cX7_lay 101 = .ok (.aload_n 0, 1) := by decide +kernel
theorem dX7_lay_102 : decode cX7_lay 102 = .ok (.getfield 35, 3) := by decide +kernel
theorem dX7_lay_105 : decode cX7_lay 105 = .ok (.iload_n 2, 1) := by decide +kernel
theorem dX7_lay_106 : decode cX7_lay 106 = .ok (.iaload, 1) := by decide +kernel
theorem dX7_lay_107 : decode cX7_lay 107 = .ok (.iastore, 1) := by decide +kernel
theorem dX7_lay_108 : decode cX7_lay 108 = .ok (.aload_n 0, 1) := by decide +kernel
theorem dX7_lay_109 : decode cX7_lay 109 = .ok (.getfield 13, 3) := by decide +kernel
theorem dX7_lay_112 : decode cX7_lay 112 = .ok (.iload_n 2, 1) := by decide +kernel
theorem dX7_lay_113 : decode cX7_lay 113 = .ok (.iload_n 1, 1) := by decide +kernel
theorem dX7_lay_114 : decode cX7_lay 114 = .ok (.iastore, 1) := by decide +kernel
theorem dX7_lay_115 : decode cX7_lay 115 = .ok (.iconst 0, 1) := by decide +kernel
theorem dX7_lay_116 : decode cX7_lay 116 = .ok (.istore_n 3, 1) := by decide +kernel
theorem dX7_lay_117 : decode cX7_lay 117 = .ok (.iload_n 3, 1) := by decide +kernel
theorem dX7_lay_118 : decode cX7_lay 118 = .ok (.aload_n 0, 1) := by decide +kernel
theorem dX7_lay_119 : decode cX7_lay 119 = .ok (.getfield 35, 3) := by decide +kernel
theorem dX7_lay_122 : decode cX7_lay 122 = .ok (.iload_n 2, 1) := by decide +kernel
theorem dX7_lay_123 : decode cX7_lay 123 = .ok (.iaload, 1) := by decide +kernel
theorem dX7_lay_124 : decode cX7_lay 124 = .ok (.if_icmp .ge 31, 3) := by decide +kernel
theorem dX7_lay_127 : decode cX7_lay 127 = .ok (.aload_n 0, 1) := by decide +kernel
theorem dX7_lay_128 : decode cX7_lay 128 = .ok (.getfield 16, 3) := by decide +kernel
theorem dX7_lay_131 : decode cX7_lay 131 = .ok (.bipush 12, 2) := by decide +kernel
theorem dX7_lay_133 : decode cX7_lay 133 = .ok (.iload_n 2, 1) := by decide +kernel
theorem dX7_lay_134 : decode cX7_lay 134 = .ok (.imul, 1) := by decide +kernel
theorem dX7_lay_135 : decode cX7_lay 135 = .ok (.iload_n 3, 1) := by decide +kernel
theorem dX7_lay_136 : decode cX7_lay 136 = .ok (.iadd, 1) := by decide +kernel
theorem dX7_lay_137 : decode cX7_lay 137 = .ok (.aload_n 0, 1) := by decide +kernel
theorem dX7_lay_138 : decode cX7_lay 138 = .ok (.getfield 32, 3) := by decide +kernel
theorem dX7_lay_141 : decode cX7_lay 141 = .ok (.bipush 12, 2) := by decide +kernel
theorem dX7_lay_143 : decode cX7_lay 143 = .ok (.iload_n 2, 1) := by decide +kernel
theorem dX7_lay_144 : decode cX7_lay 144 = .ok (.imul, 1) := by decide +kernel
theorem dX7_lay_145 : decode cX7_lay 145 = .ok (.iload_n 3, 1) := by decide +kernel
theorem dX7_lay_146 : decode cX7_lay 146 = .ok (.iadd, 1) := by decide +kernel
theorem dX7_lay_147 : decode cX7_lay 147 = .ok (.iaload, 1) := by decide +kernel
theorem dX7_lay_148 : decode cX7_lay 148 = .ok (.iastore, 1) := by decide +kernel
theorem dX7_lay_149 : decode cX7_lay 149 = .ok (.iinc 3 1, 3) := by decide +kernel
theorem dX7_lay_152 : decode cX7_lay 152 = .ok (.goto (-35), 3) := by decide +kernel
theorem dX7_lay_155 : decode cX7_lay 155 = .ok (.iinc 2 1, 3) := by decide +kernel
theorem dX7_lay_158 : decode cX7_lay 158 = .ok (.goto (-70), 3) := by decide +kernel
theorem dX7_lay_161 : decode cX7_lay 161 = .ok (.aload_n 0, 1) := by decide +kernel
theorem dX7_lay_162 : decode cX7_lay 162 = .ok (.getfield 64, 3) := by decide +kernel
theorem dX7_lay_165 : decode cX7_lay 165 = .ok (.ireturn, 1) := by decide +kernel
theorem dX7_at_0 : decode cX7_at 0 = .ok (.iload_n 2, 1) := by decide +kernel
theorem dX7_at_1 : decode cX7_at 1 = .ok (.i2l, 1) := by decide +kernel
theorem dX7_at_2 : decode cX7_at 2 = .ok (.lconst 0, 1) := by decide +kernel
theorem dX7_at_3 : decode cX7_at 3 = .ok (.aload_n 0, 1) := by decide +kernel
theorem dX7_at_4 : decode cX7_at 4 = .ok (.getfield 7, 3) := by decide +kernel
theorem dX7_at_7 : decode cX7_at 7 = .ok (.iload_n 1, 1) := by decide +kernel
theorem dX7_at_8 : decode cX7_at 8 = .ok (.iaload, 1) := by decide +kernel
theorem dX7_at_9 : decode cX7_at 9 = .ok (.iconst 1, 1) := by decide +kernel
theorem dX7_at_10 : decode cX7_at 10 = .ok (.isub, 1) := by decide +kernel
theorem dX7_at_11 : decode cX7_at 11 = .ok (.i2l, 1) := by decide +kernel
theorem dX7_at_12 : decode cX7_at 12 = .ok (.invokestatic 46, 3) := by decide +kernel
theorem dX7_at_15 : decode cX7_at 15 = .ok (.ifCond .eq 17, 3) := by decide +kernel
theorem dX7_at_18 : decode cX7_at 18 = .ok (.aload_n 0, 1) := by decide +kernel
theorem dX7_at_19 : decode cX7_at 19 = .ok (.getfield 16, 3) := by decide +kernel
theorem dX7_at_22 : decode cX7_at 22 = .ok (.bipush 12, 2) := by decide +kernel
theorem dX7_at_24 : decode cX7_at 24 = .ok (.iload_n 1, 1) := by decide +kernel
theorem dX7_at_25 : decode cX7_at 25 = .ok (.imul, 1) := by decide +kernel
theorem dX7_at_26 : decode cX7_at 26 = .ok (.iload_n 2, 1) := by decide +kernel
theorem dX7_at_27 : decode cX7_at 27 = .ok (.iadd, 1) := by decide +kernel
theorem dX7_at_28 : decode cX7_at 28 = .ok (.iaload, 1) := by decide +kernel
theorem dX7_at_29 : decode cX7_at 29 = .ok (.goto 5, 3) := by decide +kernel
theorem dX7_at_32 : decode cX7_at 32 = .ok (.bipush 15, 2) := by decide +kernel
theorem dX7_at_34 : decode cX7_at 34 = .ok (.ireturn, 1) := by decide +kernel
theorem dX7_told_0 : decode cX7_told 0 = .ok (.iload_n 1, 1) := by decide +kernel
theorem dX7_told_1 : decode cX7_told 1 = .ok (.invokestatic 50, 3) := by decide +kernel
theorem dX7_told_4 : decode cX7_told 4 = .ok (.ifCond .eq 15, 3) := by decide +kernel
theorem dX7_told_7 : decode cX7_told 7 = .ok (.iload_n 2, 1) := by decide +kernel
theorem dX7_told_8 : decode cX7_told 8 = .ok (.i2l, 1) := by decide +kernel
theorem dX7_told_9 : decode cX7_told 9 = .ok (.lconst 0, 1) := by decide +kernel
theorem dX7_told_10 : decode cX7_told 10 = .ok (.ldc2_w 77, 3) := by decide +kernel
theorem dX7_told_13 : decode cX7_told 13 = .ok (.invokestatic 46, 3) := by decide +kernel
theorem dX7_told_16 : decode cX7_told 16 = .ok (.ifCond .ne 5, 3) := by decide +kernel
theorem dX7_told_19 : decode cX7_told 19 = .ok (.iconst (-1), 1) := by decide +kernel
theorem dX7_told_20 : decode cX7_told 20 = .ok (.ireturn, 1) := by decide +kernel
theorem dX7_told_21 : decode cX7_told 21 = .ok (.aload_n 0, 1) := by decide +kernel
theorem dX7_told_22 : decode cX7_told 22 = .ok (.iload_n 1, 1) := by decide +kernel
theorem dX7_told_23 : decode cX7_told 23 = .ok (.iload_n 2, 1) := by decide +kernel
theorem dX7_told_24 : decode cX7_told 24 = .ok (.iconst 2, 1) := by decide +kernel
theorem dX7_told_25 : decode cX7_told 25 = .ok (.isub, 1) := by decide +kernel
theorem dX7_told_26 : decode cX7_told 26 = .ok (.invokevirtual 79, 3) := by decide +kernel
theorem dX7_told_29 : decode cX7_told 29 = .ok (.istore_n 3, 1) := by decide +kernel
theorem dX7_told_30 : decode cX7_told 30 = .ok (.iload_n 2, 1) := by decide +kernel
theorem dX7_told_31 : decode cX7_told 31 = .ok (.ifCond .ne 12, 3) := by decide +kernel
theorem dX7_told_34 : decode cX7_told 34 = .ok (.aload_n 0, 1) := by decide +kernel
theorem dX7_told_35 : decode cX7_told 35 = .ok (.getfield 7, 3) := by decide +kernel
theorem dX7_told_38 : decode cX7_told 38 = .ok (.iload_n 1, 1) := by decide +kernel
theorem dX7_told_39 : decode cX7_told 39 = .ok (.iaload, 1) := by decide +kernel
theorem dX7_told_40 : decode cX7_told 40 = .ok (.goto 29, 3) := by decide +kernel
theorem dX7_told_43 : decode cX7_told 43 = .ok (.iload_n 2, 1) := by decide +kernel
theorem dX7_told_44 : decode cX7_told 44 = .ok (.iconst 1, 1) := by decide +kernel
theorem dX7_told_45 : decode cX7_told 45 = .ok (.if_icmp .ne 12, 3) := by decide +kernel
theorem dX7_told_48 : decode cX7_told 48 = .ok (.aload_n 0, 1) := by decide +kernel
theorem dX7_told_49 : decode cX7_told 49 = .ok (.getfield 13, 3) := by decide +kernel
theorem dX7_told_52 : decode cX7_told 52 = .ok (.iload_n 1, 1) := by decide +kernel
theorem dX7_told_53 : decode cX7_told 53 = .ok (.iaload, 1) := by decide +kernel
theorem dX7_told_54 : decode cX7_told 54 = .ok (.goto 15, 3) := by decide +kernel
theorem dX7_told_57 : decode cX7_told 57 = .ok (.iload_n 3, 1) := by decide +kernel
theorem dX7_told_58 : decode cX7_told 58 = .ok (.bipush 15, 2) := by decide +kernel
theorem dX7_told_60 : decode cX7_told 60 = .ok (.if_icmp .ne 8, 3) := by decide +kernel
theorem dX7_told_63 : decode cX7_told 63 = .ok (.bipush (-4), 2) := by decide +kernel
theorem dX7_told_65 : decode cX7_told 65 = .ok (.goto 4, 3) := by decide +kernel
theorem dX7_told_68 : decode cX7_told 68 = .ok (.iload_n 3, 1) := by decide +kernel
theorem dX7_told_69 : decode cX7_told 69 = .ok (.ireturn, 1) := by decide +kernel
theorem dX7_marks_0 : decode cX7_marks 0 = .ok (.iload_n 1, 1) := by decide +kernel
theorem dX7_marks_1 : decode cX7_marks 1 = .ok (.invokestatic 50, 3) := by decide +kernel
theorem dX7_marks_4 : decode cX7_marks 4 = .ok (.ifCond .ne 7, 3) := by decide +kernel
theorem dX7_marks_7 : decode cX7_marks 7 = .ok (.ldc2_w 83, 3) := by decide +kernel
theorem dX7_marks_10 : decode cX7_marks 10 = .ok (.lreturn, 1) := by decide +kernel
theorem dX7_marks_11 : decode cX7_marks 11 = .ok (.lconst 0, 1) := by decide +kernel
theorem dX7_marks_12 : decode cX7_marks 12 = .ok (.lstore_n 2, 1) := by decide +kernel
theorem dX7_marks_13 : decode cX7_marks 13 = .ok (.iconst 0, 1) := by decide +kernel
theorem dX7_marks_14 : decode cX7_marks 14 = .ok (.istore 4, 2) := by decide +kernel
theorem dX7_marks_16 : decode cX7_marks 16 = .ok (.iload 4, 2) := by decide +kernel
theorem dX7_marks_18 : decode cX7_marks 18 = .ok (.aload_n 0, 1) := by decide +kernel
theorem dX7_marks_19 : decode cX7_marks 19 = .ok (.getfield 7, 3) := by decide +kernel
theorem dX7_marks_22 : decode cX7_marks 22 = .ok (.iload_n 1, 1) := by decide +kernel
theorem dX7_marks_23 : decode cX7_marks 23 = .ok (.iaload, 1) := by decide +kernel
theorem dX7_marks_24 : decode cX7_marks 24 = .ok (.if_icmp .ge 29, 3) := by decide +kernel
theorem dX7_marks_27 : decode cX7_marks 27 = .ok (.ldc2_w 85, 3) := by decide +kernel
theorem dX7_marks_30 : decode cX7_marks 30 = .ok (.lload_n 2, 1) := by decide +kernel
theorem dX7_marks_31 : decode cX7_marks 31 = .ok (.lmul, 1) := by decide +kernel
theorem dX7_marks_32 : decode cX7_marks 32 = .ok (.aload_n 0, 1) := by decide +kernel
theorem dX7_marks_33 : decode cX7_marks 33 = .ok (.getfield 16, 3) := by decide +kernel
theorem dX7_marks_36 : decode cX7_marks 36 = .ok (.bipush 12, 2) := by decide +kernel
theorem dX7_marks_38 : decode cX7_marks 38 = .ok (.iload_n 1, 1) := by decide +kernel
theorem dX7_marks_39 : decode cX7_marks 39 = .ok (.imul, 1) := by decide +kernel
theorem dX7_marks_40 : decode cX7_marks 40 = .ok (.iload 4, 2) := by decide +kernel
theorem dX7_marks_42 : decode cX7_marks 42 = .ok (.iadd, 1) := by decide +kernel
theorem dX7_marks_43 : decode cX7_marks 43 = .ok (.iaload, 1) := by decide +kernel
theorem dX7_marks_44 : decode cX7_marks 44 = .ok (.i2l, 1) := by decide +kernel
theorem dX7_marks_45 : decode cX7_marks 45 = .ok (.ladd, 1) := by decide +kernel
theorem dX7_marks_46 : decode cX7_marks 46 = .ok (.lstore_n 2, 1) := by decide +kernel
theorem dX7_marks_47 : decode cX7_marks 47 = .ok (.iinc 4 1, 3) := by decide +kernel
theorem dX7_marks_50 : decode cX7_marks 50 = .ok (.goto (-34), 3) := by decide +kernel
theorem dX7_marks_53 : decode cX7_marks 53 = .ok (.lload_n 2, 1) := by decide +kernel
theorem dX7_marks_54 : decode cX7_marks 54 = .ok (.lreturn, 1) := by decide +kernel
theorem dX7_off_0 : decode cX7_off 0 = .ok (.aload_n 0, 1) := by decide +kernel
theorem dX7_off_1 : decode cX7_off 1 = .ok (.iload_n 1, 1) := by decide +kernel
theorem dX7_off_2 : decode cX7_off 2 = .ok (.iload_n 3, 1) := by decide +kernel
theorem dX7_off_3 : decode cX7_off 3 = .ok (.invokevirtual 79, 3) := by decide +kernel
theorem dX7_off_6 : decode cX7_off 6 = .ok (.aload_n 0, 1) := by decide +kernel
theorem dX7_off_7 : decode cX7_off 7 = .ok (.iload_n 1, 1) := by decide +kernel
theorem dX7_off_8 : decode cX7_off 8 = .ok (.iload_n 2, 1) := by decide +kernel
theorem dX7_off_9 : decode cX7_off 9 = .ok (.invokevirtual 79, 3) := by decide +kernel
theorem dX7_off_12 : decode cX7_off 12 = .ok (.isub, 1) := by decide +kernel
theorem dX7_off_13 : decode cX7_off 13 = .ok (.istore 5, 2) := by decide +kernel
theorem dX7_off_15 : decode cX7_off 15 = .ok (.iload 4, 2) := by decide +kernel
theorem dX7_off_17 : decode cX7_off 17 = .ok (.iconst 1, 1) := by decide +kernel
theorem dX7_off_18 : decode cX7_off 18 = .ok (.if_icmp .ne 22, 3) := by decide +kernel
theorem dX7_off_21 : decode cX7_off 21 = .ok (.iload 5, 2) := by decide +kernel
theorem dX7_off_23 : decode cX7_off 23 = .ok (.aload_n 0, 1) := by decide +kernel
theorem dX7_off_24 : decode cX7_off 24 = .ok (.getfield 13, 3) := by decide +kernel
theorem dX7_off_27 : decode cX7_off 27 = .ok (.iload_n 1, 1) := by decide +kernel
theorem dX7_off_28 : decode cX7_off 28 = .ok (.iaload, 1) := by decide +kernel
theorem dX7_off_29 : decode cX7_off 29 = .ok (.iadd, 1) := by decide +kernel
theorem dX7_off_30 : decode cX7_off 30 = .ok (.aload_n 0, 1) := by decide +kernel
theorem dX7_off_31 : decode cX7_off 31 = .ok (.getfield 13, 3) := by decide +kernel
theorem dX7_off_34 : decode cX7_off 34 = .ok (.iload_n 1, 1) := by decide +kernel
theorem dX7_off_35 : decode cX7_off 35 = .ok (.iaload, 1) := by decide +kernel
theorem dX7_off_36 : decode cX7_off 36 = .ok (.irem, 1) := by decide +kernel
theorem dX7_off_37 : decode cX7_off 37 = .ok (.goto 5, 3) := by decide +kernel
theorem dX7_off_40 : decode cX7_off 40 = .ok (.iload 5, 2) := by decide +kernel
theorem dX7_off_42 : decode cX7_off 42 = .ok (.ireturn, 1) := by decide +kernel
theorem dX7_are_0 : decode cX7_are 0 = .ok (.aload_n 0, 1) := by decide +kernel
theorem dX7_are_1 : decode cX7_are 1 = .ok (.iload_n 1, 1) := by decide +kernel
theorem dX7_are_2 : decode cX7_are 2 = .ok (.iload_n 2, 1) := by decide +kernel
theorem dX7_are_3 : decode cX7_are 3 = .ok (.invokevirtual 79, 3) := by decide +kernel
theorem dX7_are_6 : decode cX7_are 6 = .ok (.bipush 15, 2) := by decide +kernel
theorem dX7_are_8 : decode cX7_are 8 = .ok (.if_icmp .ge 18, 3) := by decide +kernel
theorem dX7_are_11 : decode cX7_are 11 = .ok (.aload_n 0, 1) := by decide +kernel
theorem dX7_are_12 : decode cX7_are 12 = .ok (.iload_n 1, 1) := by decide +kernel
theorem dX7_are_13 : decode cX7_are 13 = .ok (.iload_n 3, 1) := by decide +kernel
theorem dX7_are_14 : decode cX7_are 14 = .ok (.invokevirtual 79, 3) := by decide +kernel
theorem dX7_are_17 : decode cX7_are 17 = .ok (.bipush 15, 2) := by decide +kernel
theorem dX7_are_19 : decode cX7_are 19 = .ok (.if_icmp .ge 7, 3) := by decide +kernel
theorem dX7_are_22 : decode cX7_are 22 = .ok (.iconst 1, 1) := by decide +kernel
theorem dX7_are_23 : decode cX7_are 23 = .ok (.goto 4, 3) := by decide +kernel
theorem dX7_are_26 : decode cX7_are 26 = .ok (.iconst 0, 1) := by decide +kernel
theorem dX7_are_27 : decode cX7_are 27 = .ok (.ireturn, 1) := by decide +kernel
theorem dX7_difference_0 : decode cX7_difference 0 = .ok (.iload_n 1, 1) := by decide +kernel
theorem dX7_difference_1 : decode cX7_difference 1 = .ok (.invokestatic 50, 3) := by decide +kernel
theorem dX7_difference_4 : decode cX7_difference 4 = .ok (.ifCond .eq 38, 3) := by decide +kernel
theorem dX7_difference_7 : decode cX7_difference 7 = .ok (.iload_n 2, 1) := by decide +kernel
theorem dX7_difference_8 : decode cX7_difference 8 = .ok (.i2l, 1) := by decide +kernel
theorem dX7_difference_9 : decode cX7_difference 9 = .ok (.lconst 0, 1) := by decide +kernel
theorem dX7_difference_10 : decode cX7_difference 10 = .ok (.ldc2_w 87, 3) := by decide +kernel
theorem dX7_difference_13 : decode cX7_difference 13 = .ok (.invokestatic 46, 3) := by decide +kernel
theorem dX7_difference_16 : decode cX7_difference 16 = .ok (.ifCond .eq 26, 3) := by decide +kernel
theorem dX7_difference_19 : decode cX7_difference 19 = .ok (.iload_n 3, 1) := by decide +kernel
theorem dX7_difference_20 : decode cX7_difference 20 = .ok (.i2l, 1) := by decide +kernel
theorem dX7_difference_21 : decode cX7_difference 21 = .ok (.lconst 1, 1) := by decide +kernel
theorem dX7_difference_22 : decode cX7_difference 22 = .ok (.ldc2_w 87, 3) := by decide +kernel
theorem dX7_difference_25 : decode cX7_difference 25 = .ok (.invokestatic 46, 3) := by decide +kernel
theorem dX7_difference_28 : decode cX7_difference 28 = .ok (.ifCond .eq 14, 3) := by decide +kernel
theorem dX7_difference_31 : decode cX7_difference 31 = .ok (.iload 4, 2) := by decide +kernel
theorem dX7_difference_33 : decode cX7_difference 33 = .ok (.i2l, 1) := by decide +kernel
theorem dX7_difference_34 : decode cX7_difference 34 = .ok (.lconst 0, 1) := by decide +kernel
theorem dX7_difference_35 : decode cX7_difference 35 = .ok (.lconst 1, 1) := by decide +kernel
theorem dX7_difference_36 : decode cX7_difference 36 = .ok (.invokestatic 46, 3) := by decide +kernel
theorem dX7_difference_39 : decode cX7_difference 39 = .ok (.ifCond .ne 6, 3) := by decide +kernel
theorem dX7_difference_42 : decode cX7_difference 42 = .ok (.bipush (-100), 2) := by decide +kernel
theorem dX7_difference_44 : decode cX7_difference 44 = .ok (.ireturn, 1) := by decide +kernel
theorem dX7_difference_45 : decode cX7_difference 45 = .ok (.aload_n 0, 1) := by decide +kernel
theorem dX7_difference_46 : decode cX7_difference 46 = .ok (.iload_n 1, 1) := by decide +kernel
theorem dX7_difference_47 : decode cX7_difference 47 = .ok (.iload_n 2, 1) := by decide +kernel
theorem dX7_difference_48 : decode cX7_difference 48 = .ok (.iload_n 2, 1) := by decide +kernel
theorem dX7_difference_49 : decode cX7_difference 49 = .ok (.iload_n 3, 1) := by decide +kernel
theorem dX7_difference_50 : decode cX7_difference 50 = .ok (.iadd, 1) := by decide +kernel
theorem dX7_difference_51 : decode cX7_difference 51 = .ok (.invokevirtual 89, 3) := by decide +kernel
theorem dX7_difference_54 : decode cX7_difference 54 = .ok (.ifCond .eq 17, 3) := by decide +kernel
theorem dX7_difference_57 : decode cX7_difference 57 = .ok (.aload_n 0, 1) := by decide +kernel
theorem dX7_difference_58 : decode cX7_difference 58 = .ok (.iload_n 1, 1) := by decide +kernel
theorem dX7_difference_59 : decode cX7_difference 59 = .ok (.iload_n 2, 1) := by decide +kernel
theorem dX7_difference_60 : decode cX7_difference 60 = .ok (.iload_n 2, 1) := by decide +kernel
theorem dX7_difference_61 : decode cX7_difference 61 = .ok (.iload_n 3, 1) := by decide +kernel
theorem dX7_difference_62 : decode cX7_difference 62 = .ok (.iadd, 1) := by decide +kernel
theorem dX7_difference_63 : decode cX7_difference 63 = .ok (.iload 4, 2) := by decide +kernel
theorem dX7_difference_65 : decode cX7_difference 65 = .ok (.invokevirtual 93, 3) := by decide +kernel
theorem dX7_difference_68 : decode cX7_difference 68 = .ok (.goto 5, 3) := by decide +kernel
theorem dX7_difference_71 : decode cX7_difference 71 = .ok (.bipush (-50), 2) := by decide +kernel
theorem dX7_difference_73 : decode cX7_difference 73 = .ok (.ireturn, 1) := by decide +kernel
theorem dX7_quarrels_0 : decode cX7_quarrels 0 = .ok (.iload_n 1, 1) := by decide +kernel
theorem dX7_quarrels_1 : decode cX7_quarrels 1 = .ok (.invokestatic 50, 3) := by decide +kernel
theorem dX7_quarrels_4 : decode cX7_quarrels 4 = .ok (.ifCond .eq 25, 3) := by decide +kernel
theorem dX7_quarrels_7 : decode cX7_quarrels 7 = .ok (.iload_n 2, 1) := by decide +kernel
theorem dX7_quarrels_8 : decode cX7_quarrels 8 = .ok (.i2l, 1) := by decide +kernel
theorem dX7_quarrels_9 : decode cX7_quarrels 9 = .ok (.lconst 0, 1) := by decide +kernel
theorem dX7_quarrels_10 : decode cX7_quarrels 10 = .ok (.lconst 1, 1) := by decide +kernel
theorem dX7_quarrels_11 : decode cX7_quarrels 11 = .ok (.invokestatic 46, 3) := by decide +kernel
theorem dX7_quarrels_14 : decode cX7_quarrels 14 = .ok (.ifCond .eq 15, 3) := by decide +kernel
theorem dX7_quarrels_17 : decode cX7_quarrels 17 = .ok (.iload_n 3, 1) := by decide +kernel
theorem dX7_quarrels_18 : decode cX7_quarrels 18 = .ok (.i2l, 1) := by decide +kernel
theorem dX7_quarrels_19 : decode cX7_quarrels 19 = .ok (.lconst 0, 1) := by decide +kernel
theorem dX7_quarrels_20 : decode cX7_quarrels 20 = .ok (.ldc2_w 97, 3) := by decide +kernel
theorem dX7_quarrels_23 : decode cX7_quarrels 23 = .ok (.invokestatic 46, 3) := by decide +kernel
theorem dX7_quarrels_26 : decode cX7_quarrels 26 = .ok (.ifCond .ne 5, 3) := by decide +kernel
theorem dX7_quarrels_29 : decode cX7_quarrels 29 = .ok (.iconst (-1), 1) := by decide +kernel
theorem dX7_quarrels_30 : decode cX7_quarrels 30 = .ok (.ireturn, 1) := by decide +kernel
theorem dX7_quarrels_31 : decode cX7_quarrels 31 = .ok (.iconst 0, 1) := by decide +kernel
theorem dX7_quarrels_32 : decode cX7_quarrels 32 = .ok (.istore 4, 2) := by decide +kernel
theorem dX7_quarrels_34 : decode cX7_quarrels 34 = .ok (.bipush (-4), 2) := by decide +kernel
theorem dX7_quarrels_36 : decode cX7_quarrels 36 = .ok (.istore 5, 2) := by decide +kernel
theorem dX7_quarrels_38 : decode cX7_quarrels 38 = .ok (.iconst 0, 1) := by decide +kernel
theorem dX7_quarrels_39 : decode cX7_quarrels 39 = .ok (.istore 6, 2) := by decide +kernel
theorem dX7_quarrels_41 : decode cX7_quarrels 41 = .ok (.iload 6, 2) := by decide +kernel
theorem dX7_quarrels_43 : decode cX7_quarrels 43 = .ok (.aload_n 0, 1) := by decide +kernel
theorem dX7_quarrels_44 : decode cX7_quarrels 44 = .ok (.getfield 7, 3) := by decide +kernel
theorem dX7_quarrels_47 : decode cX7_quarrels 47 = .ok (.iload_n 1, 1) := by decide +kernel
theorem dX7_quarrels_48 : decode cX7_quarrels 48 = .ok (.iaload, 1) := by decide +kernel
theorem dX7_quarrels_49 : decode cX7_quarrels 49 = .ok (.if_icmp .ge 155, 3) := by decide +kernel
theorem dX7_quarrels_52 : decode cX7_quarrels 52 = .ok (.iload 6, 2) := by decide +kernel
theorem dX7_quarrels_54 : decode cX7_quarrels 54 = .ok (.iconst 1, 1) := by decide +kernel
theorem dX7_quarrels_55 : decode cX7_quarrels 55 = .ok (.iadd, 1) := by decide +kernel
theorem dX7_quarrels_56 : decode cX7_quarrels 56 = .ok (.istore 7, 2) := by decide +kernel
theorem dX7_quarrels_58 : decode cX7_quarrels 58 = .ok (.iload 7, 2) := by decide +kernel
theorem dX7_quarrels_60 : decode cX7_quarrels 60 = .ok (.aload_n 0, 1) := by decide +kernel
theorem dX7_quarrels_61 : decode cX7_quarrels 61 = .ok (.getfield 7, 3) := by decide +kernel
theorem dX7_quarrels_64 : decode cX7_quarrels 64 = .ok (.iload_n 1, 1) := by decide +kernel
theorem dX7_quarrels_65 : decode cX7_quarrels 65 = .ok (.iaload, 1) := by decide +kernel
theorem dX7_quarrels_66 : decode cX7_quarrels 66 = .ok (.if_icmp .ge 132, 3) := by decide +kernel
theorem dX7_quarrels_69 : decode cX7_quarrels 69 = .ok (.iload 6, 2) := by decide +kernel
theorem dX7_quarrels_71 : decode cX7_quarrels 71 = .ok (.iconst 1, 1) := by decide +kernel
theorem dX7_quarrels_72 : decode cX7_quarrels 72 = .ok (.iadd, 1) := by decide +kernel
theorem dX7_quarrels_73 : decode cX7_quarrels 73 = .ok (.istore 8, 2) := by decide +kernel
theorem dX7_quarrels_75 : decode cX7_quarrels 75 = .ok (.iload 8, 2) := by decide +kernel
theorem dX7_quarrels_77 : decode cX7_quarrels 77 = .ok (.iload 7, 2) := by decide +kernel
theorem dX7_quarrels_79 : decode cX7_quarrels 79 = .ok (.iadd, 1) := by decide +kernel
theorem dX7_quarrels_80 : decode cX7_quarrels 80 = .ok (.iload 6, 2) := by decide +kernel
theorem dX7_quarrels_82 : decode cX7_quarrels 82 = .ok (.isub, 1) := by decide +kernel
theorem dX7_quarrels_83 : decode cX7_quarrels 83 = .ok (.aload_n 0, 1) := by decide +kernel
theorem dX7_quarrels_84 : decode cX7_quarrels 84 = .ok (.getfield 7, 3) := by decide +kernel
theorem dX7_quarrels_87 : decode cX7_quarrels 87 = .ok (.iload_n 1, 1) := by decide +kernel
theorem dX7_quarrels_88 : decode cX7_quarrels 88 = .ok (.iaload, 1) := by decide +kernel
theorem dX7_quarrels_89 : decode cX7_quarrels 89 = .ok (.if_icmp .ge 103, 3) := by decide +kernel
theorem dX7_quarrels_92 : decode cX7_quarrels 92 = .ok (.iload 8, 2) := by decide +kernel
theorem dX7_quarrels_94 : decode cX7_quarrels 94 = .ok (.iload 7, 2) := by decide +kernel
theorem dX7_quarrels_96 : decode cX7_quarrels 96 = .ok (.iadd, 1) := by decide +kernel
theorem dX7_quarrels_97 : decode cX7_quarrels 97 = .ok (.iload 6, 2) := by decide +kernel
theorem dX7_quarrels_99 : decode cX7_quarrels 99 = .ok (.isub, 1) := by decide +kernel
theorem dX7_quarrels_100 : decode cX7_quarrels 100 = .ok (.istore 9, 2) := by decide +kernel
theorem dX7_quarrels_102 : decode cX7_quarrels 102 = .ok (.aload_n 0, 1) := by decide +kernel
theorem dX7_quarrels_103 : decode cX7_quarrels 103 = .ok (.iload_n 1, 1) := by decide +kernel
theorem dX7_quarrels_104 : decode cX7_quarrels 104 = .ok (.iload 6, 2) := by decide +kernel
theorem dX7_quarrels_106 : decode cX7_quarrels 106 = .ok (.iload 7, 2) := by decide +kernel
theorem dX7_quarrels_108 : decode cX7_quarrels 108 = .ok (.invokevirtual 89, 3) := by decide +kernel
theorem dX7_quarrels_111 : decode cX7_quarrels 111 = .ok (.ifCond .eq 75, 3) := by decide +kernel
theorem dX7_quarrels_114 : decode cX7_quarrels 114 = .ok (.aload_n 0, 1) := by decide +kernel
theorem dX7_quarrels_115 : decode cX7_quarrels 115 = .ok (.iload_n 1, 1) := by decide +kernel
theorem dX7_quarrels_116 : decode cX7_quarrels 116 = .ok (.iload 8, 2) := by decide +kernel
theorem dX7_quarrels_118 : decode cX7_quarrels 118 = .ok (.iload 9, 2) := by decide +kernel
theorem dX7_quarrels_120 : decode cX7_quarrels 120 = .ok (.invokevirtual 89, 3) := by decide +kernel
theorem dX7_quarrels_123 : decode cX7_quarrels 123 = .ok (.ifCond .eq 63, 3) := by decide +kernel
theorem dX7_quarrels_126 : decode cX7_quarrels 126 = .ok (.aload_n 0, 1) := by decide +kernel
theorem dX7_quarrels_127 : decode cX7_quarrels 127 = .ok (.iload_n 1, 1) := by decide +kernel
theorem dX7_quarrels_128 : decode cX7_quarrels 128 = .ok (.iload 6, 2) := by decide +kernel
theorem dX7_quarrels_130 : decode cX7_quarrels 130 = .ok (.iload 7, 2) := by decide +kernel
theorem dX7_quarrels_132 : decode cX7_quarrels 132 = .ok (.iload_n 2, 1) := by decide +kernel
theorem dX7_quarrels_133 : decode cX7_quarrels 133 = .ok (.invokevirtual 93, 3) := by decide +kernel
theorem dX7_quarrels_136 : decode cX7_quarrels 136 = .ok (.aload_n 0, 1) := by decide +kernel
theorem dX7_quarrels_137 : decode cX7_quarrels 137 = .ok (.iload_n 1, 1) := by decide +kernel
theorem dX7_quarrels_138 : decode cX7_quarrels 138 = .ok (.iload 8, 2) := by decide +kernel
theorem dX7_quarrels_140 : decode cX7_quarrels 140 = .ok (.iload 9, 2) := by decide +kernel
theorem dX7_quarrels_142 : decode cX7_quarrels 142 = .ok (.iload_n 2, 1) := by decide +kernel
theorem dX7_quarrels_143 : decode cX7_quarrels 143 = .ok (.invokevirtual 93, 3) := by decide +kernel
theorem dX7_quarrels_146 : decode cX7_quarrels 146 = .ok (.if_icmp .ne 40, 3) := by decide +kernel
theorem dX7_quarrels_149 : decode cX7_quarrels 149 = .ok (.iload 4, 2) := by decide +kernel
theorem dX7_quarrels_151 : decode cX7_quarrels 151 = .ok (.ifCond .ne 28, 3) := by decide +kernel
theorem dX7_quarrels_154 : decode cX7_quarrels 154 = .ok (.sipush 4096, 3) := by decide +kernel
theorem dX7_quarrels_157 : decode cX7_quarrels 157 = .ok (.iload 6, 2) := by decide +kernel
theorem dX7_quarrels_159 : decode cX7_quarrels 159 = .ok (.imul, 1) := by decide +kernel
theorem dX7_quarrels_160 : decode cX7_quarrels 160 = .ok (.sipush 256, 3) := by decide +kernel
theorem dX7_quarrels_163 : decode cX7_quarrels 163 = .ok (.iload 7, 2) := by decide +kernel
theorem dX7_quarrels_165 : decode cX7_quarrels 165 = .ok (.imul, 1) := by decide +kernel
theorem dX7_quarrels_166 : decode cX7_quarrels 166 = .ok (.iadd, 1) := by decide +kernel
theorem dX7_quarrels_167 : decode cX7_quarrels 167 = .ok (.bipush 16, 2) := by decide +kernel
theorem dX7_quarrels_169 : decode cX7_quarrels 169 = .ok (.iload 8, 2) := by decide +kernel
theorem dX7_quarrels_171 : decode cX7_quarrels 171 = .ok (.imul, 1) := by decide +kernel
theorem dX7_quarrels_172 : decode cX7_quarrels 172 = .ok (.iadd, 1) := by decide +kernel
theorem dX7_quarrels_173 : decode cX7_quarrels 173 = .ok (.iload 9, 2) := by decide +kernel
theorem dX7_quarrels_175 : decode cX7_quarrels 175 = .ok (.iadd, 1) := by decide +kernel
theorem dX7_quarrels_176 : decode cX7_quarrels 176 = .ok (.goto 5, 3) := by decide +kernel
theorem dX7_quarrels_179 : decode cX7_quarrels 179 = .ok (.iload 5, 2) := by decide +kernel
theorem dX7_quarrels_181 : decode cX7_quarrels 181 = .ok (.istore 5, 2) := by decide +kernel
theorem dX7_quarrels_183 : decode cX7_quarrels 183 = .ok (.iinc 4 1, 3) := by decide +kernel
theorem dX7_quarrels_186 : decode cX7_quarrels 186 = .ok (.iinc 8 1, 3) := by decide +kernel
theorem dX7_quarrels_189 : decode cX7_quarrels 189 = .ok (.goto (-114), 3) := by decide +kernel
theorem dX7_quarrels_192 : decode cX7_quarrels 192 = .ok (.iinc 7 1, 3) := by decide +kernel
theorem dX7_quarrels_195 : decode cX7_quarrels 195 = .ok (.goto (-137), 3) := by decide +kernel
theorem dX7_quarrels_198 : decode cX7_quarrels 198 = .ok (.iinc 6 1, 3) := by decide +kernel
theorem dX7_quarrels_201 : decode cX7_quarrels 201 = .ok (.goto (-160), 3) := by decide +kernel
theorem dX7_quarrels_204 : decode cX7_quarrels 204 = .ok (.iload_n 3, 1) := by decide +kernel
theorem dX7_quarrels_205 : decode cX7_quarrels 205 = .ok (.ifCond .ne 8, 3) := by decide +kernel
theorem dX7_quarrels_208 : decode cX7_quarrels 208 = .ok (.iload 5, 2) := by decide +kernel
theorem dX7_quarrels_210 : decode cX7_quarrels 210 = .ok (.goto 23, 3) := by decide +kernel
theorem dX7_quarrels_213 : decode cX7_quarrels 213 = .ok (.iload_n 3, 1) := by decide +kernel
theorem dX7_quarrels_214 : decode cX7_quarrels 214 = .ok (.iconst 1, 1) := by decide +kernel
theorem dX7_quarrels_215 : decode cX7_quarrels 215 = .ok (.if_icmp .ne 8, 3) := by decide +kernel
theorem dX7_quarrels_218 : decode cX7_quarrels 218 = .ok (.iload 4, 2) := by decide +kernel
theorem dX7_quarrels_220 : decode cX7_quarrels 220 = .ok (.goto 13, 3) := by decide +kernel
theorem dX7_quarrels_223 : decode cX7_quarrels 223 = .ok (.iload 4, 2) := by decide +kernel
theorem dX7_quarrels_225 : decode cX7_quarrels 225 = .ok (.ifCond .ne 7, 3) := by decide +kernel
theorem dX7_quarrels_228 : decode cX7_quarrels 228 = .ok (.iconst 1, 1) := by decide +kernel
theorem dX7_quarrels_229 : decode cX7_quarrels 229 = .ok (.goto 4, 3) := by decide +kernel
theorem dX7_quarrels_232 : decode cX7_quarrels 232 = .ok (.iconst 0, 1) := by decide +kernel
theorem dX7_quarrels_233 : decode cX7_quarrels 233 = .ok (.ireturn, 1) := by decide +kernel
theorem dX7_hitsOf_0 : decode cX7_hitsOf 0 = .ok (.iconst 0, 1) := by decide +kernel
theorem dX7_hitsOf_1 : decode cX7_hitsOf 1 = .ok (.istore 5, 2) := by decide +kernel
theorem dX7_hitsOf_3 : decode cX7_hitsOf 3 = .ok (.iconst 0, 1) := by decide +kernel
theorem dX7_hitsOf_4 : decode cX7_hitsOf 4 = .ok (.istore 6, 2) := by decide +kernel
theorem dX7_hitsOf_6 : decode cX7_hitsOf 6 = .ok (.iload 6, 2) := by decide +kernel
theorem dX7_hitsOf_8 : decode cX7_hitsOf 8 = .ok (.aload_n 0, 1) := by decide +kernel
theorem dX7_hitsOf_9 : decode cX7_hitsOf 9 = .ok (.getfield 7, 3) := by decide +kernel
theorem dX7_hitsOf_12 : decode cX7_hitsOf 12 = .ok (.iload_n 1, 1) := by decide +kernel
theorem dX7_hitsOf_13 : decode cX7_hitsOf 13 = .ok (.iaload, 1) := by decide +kernel
theorem dX7_hitsOf_14 : decode cX7_hitsOf 14 = .ok (.if_icmp .ge 66, 3) := by decide +kernel
theorem dX7_hitsOf_17 : decode cX7_hitsOf 17 = .ok (.aload_n 0, 1) := by decide +kernel
theorem dX7_hitsOf_18 : decode cX7_hitsOf 18 = .ok (.iload_n 1, 1) := by decide +kernel
theorem dX7_hitsOf_19 : decode cX7_hitsOf 19 = .ok (.iload 6, 2) := by decide +kernel
theorem dX7_hitsOf_21 : decode cX7_hitsOf 21 = .ok (.invokevirtual 79, 3) := by decide +kernel
theorem dX7_hitsOf_24 : decode cX7_hitsOf 24 = .ok (.istore 7, 2) := by decide +kernel
theorem dX7_hitsOf_26 : decode cX7_hitsOf 26 = .ok (.iload 5, 2) := by decide +kernel
theorem dX7_hitsOf_28 : decode cX7_hitsOf 28 = .ok (.iload 7, 2) := by decide +kernel
theorem dX7_hitsOf_30 : decode cX7_hitsOf 30 = .ok (.bipush 15, 2) := by decide +kernel
theorem dX7_hitsOf_32 : decode cX7_hitsOf 32 = .ok (.if_icmp .ge 38, 3) := by decide +kernel
theorem dX7_hitsOf_35 : decode cX7_hitsOf 35 = .ok (.aload_n 0, 1) := by decide +kernel
theorem dX7_hitsOf_36 : decode cX7_hitsOf 36 = .ok (.iload_n 2, 1) := by decide +kernel
theorem dX7_hitsOf_37 : decode cX7_hitsOf 37 = .ok (.iload 6, 2) := by decide +kernel
theorem dX7_hitsOf_39 : decode cX7_hitsOf 39 = .ok (.iload_n 3, 1) := by decide +kernel
theorem dX7_hitsOf_40 : decode cX7_hitsOf 40 = .ok (.iadd, 1) := by decide +kernel
theorem dX7_hitsOf_41 : decode cX7_hitsOf 41 = .ok (.invokevirtual 79, 3) := by decide +kernel
theorem dX7_hitsOf_44 : decode cX7_hitsOf 44 = .ok (.bipush 15, 2) := by decide +kernel
theorem dX7_hitsOf_46 : decode cX7_hitsOf 46 = .ok (.if_icmp .ge 24, 3) := by decide +kernel
theorem dX7_hitsOf_49 : decode cX7_hitsOf 49 = .ok (.aload_n 0, 1) := by decide +kernel
theorem dX7_hitsOf_50 : decode cX7_hitsOf 50 = .ok (.iload_n 2, 1) := by decide +kernel
theorem dX7_hitsOf_51 : decode cX7_hitsOf 51 = .ok (.iload 6, 2) := by decide +kernel
theorem dX7_hitsOf_53 : decode cX7_hitsOf 53 = .ok (.iload_n 3, 1) := by decide +kernel
theorem dX7_hitsOf_54 : decode cX7_hitsOf 54 = .ok (.iadd, 1) := by decide +kernel
theorem dX7_hitsOf_55 : decode cX7_hitsOf 55 = .ok (.invokevirtual 79, 3) := by decide +kernel
theorem dX7_hitsOf_58 : decode cX7_hitsOf 58 = .ok (.iload 7, 2) := by decide +kernel
theorem dX7_hitsOf_60 : decode cX7_hitsOf 60 = .ok (.iload 4, 2) := by decide +kernel
theorem dX7_hitsOf_62 : decode cX7_hitsOf 62 = .ok (.iadd, 1) := by decide +kernel
theorem dX7_hitsOf_63 : decode cX7_hitsOf 63 = .ok (.if_icmp .ne 7, 3) := by decide +kernel
theorem dX7_hitsOf_66 : decode cX7_hitsOf 66 = .ok (.iconst 1, 1) := by decide +kernel
theorem dX7_hitsOf_67 : decode cX7_hitsOf 67 = .ok (.goto 4, 3) := by decide +kernel
theorem dX7_hitsOf_70 : decode cX7_hitsOf 70 = .ok (.iconst 0, 1) := by decide +kernel
theorem dX7_hitsOf_71 : decode cX7_hitsOf 71 = .ok (.iadd, 1) := by decide +kernel
theorem dX7_hitsOf_72 : decode cX7_hitsOf 72 = .ok (.istore 5, 2) := by decide +kernel
theorem dX7_hitsOf_74 : decode cX7_hitsOf 74 = .ok (.iinc 6 1, 3) := by decide +kernel
theorem dX7_hitsOf_77 : decode cX7_hitsOf 77 = .ok (.goto (-71), 3) := by decide +kernel
theorem dX7_hitsOf_80 : decode cX7_hitsOf 80 = .ok (.iload 5, 2) := by decide +kernel
theorem dX7_hitsOf_82 : decode cX7_hitsOf 82 = .ok (.ireturn, 1) := by decide +kernel
theorem dX7_roundOf_0 : decode cX7_roundOf 0 = .ok (.iconst 0, 1) := by decide +kernel
theorem dX7_roundOf_1 : decode cX7_roundOf 1 = .ok (.istore 5, 2) := by decide +kernel
theorem dX7_roundOf_3 : decode cX7_roundOf 3 = .ok (.iconst 0, 1) := by decide +kernel
theorem dX7_roundOf_4 : decode cX7_roundOf 4 = .ok (.istore 6, 2) := by decide +kernel
theorem dX7_roundOf_6 : decode cX7_roundOf 6 = .ok (.iload 6, 2) := by decide +kernel
theorem dX7_roundOf_8 : decode cX7_roundOf 8 = .ok (.aload_n 0, 1) := by decide +kernel
theorem dX7_roundOf_9 : decode cX7_roundOf 9 = .ok (.getfield 7, 3) := by decide +kernel
theorem dX7_roundOf_12 : decode cX7_roundOf 12 = .ok (.iload_n 1, 1) := by decide +kernel
theorem dX7_roundOf_13 : decode cX7_roundOf 13 = .ok (.iaload, 1) := by decide +kernel
theorem dX7_roundOf_14 : decode cX7_roundOf 14 = .ok (.if_icmp .ge 105, 3) := by decide +kernel
theorem dX7_roundOf_17 : decode cX7_roundOf 17 = .ok (.iload 6, 2) := by decide +kernel
theorem dX7_roundOf_19 : decode cX7_roundOf 19 = .ok (.aload_n 0, 1) := by decide +kernel
theorem dX7_roundOf_20 : decode cX7_roundOf 20 = .ok (.getfield 7, 3) := by decide +kernel
theorem dX7_roundOf_23 : decode cX7_roundOf 23 = .ok (.iload_n 2, 1) := by decide +kernel
theorem dX7_roundOf_24 : decode cX7_roundOf 24 = .ok (.iaload, 1) := by decide +kernel
theorem dX7_roundOf_25 : decode cX7_roundOf 25 = .ok (.if_icmp .ge 94, 3) := by decide +kernel
theorem dX7_roundOf_28 : decode cX7_roundOf 28 = .ok (.aload_n 0, 1) := by decide +kernel
theorem dX7_roundOf_29 : decode cX7_roundOf 29 = .ok (.iload_n 1, 1) := by decide +kernel
theorem dX7_roundOf_30 : decode cX7_roundOf 30 = .ok (.iload 6, 2) := by decide +kernel
theorem dX7_roundOf_32 : decode cX7_roundOf 32 = .ok (.invokevirtual 79, 3) := by decide +kernel
theorem dX7_roundOf_35 : decode cX7_roundOf 35 = .ok (.istore 7, 2) := by decide +kernel
theorem dX7_roundOf_37 : decode cX7_roundOf 37 = .ok (.iload 6, 2) := by decide +kernel
theorem dX7_roundOf_39 : decode cX7_roundOf 39 = .ok (.iload_n 3, 1) := by decide +kernel
theorem dX7_roundOf_40 : decode cX7_roundOf 40 = .ok (.iadd, 1) := by decide +kernel
theorem dX7_roundOf_41 : decode cX7_roundOf 41 = .ok (.bipush 12, 2) := by decide +kernel
theorem dX7_roundOf_43 : decode cX7_roundOf 43 = .ok (.aload_n 0, 1) := by decide +kernel
theorem dX7_roundOf_44 : decode cX7_roundOf 44 = .ok (.getfield 7, 3) := by decide +kernel
theorem dX7_roundOf_47 : decode cX7_roundOf 47 = .ok (.iload_n 2, 1) := by decide +kernel
theorem dX7_roundOf_48 : decode cX7_roundOf 48 = .ok (.iaload, 1) := by decide +kernel
theorem dX7_roundOf_49 : decode cX7_roundOf 49 = .ok (.imul, 1) := by decide +kernel
theorem dX7_roundOf_50 : decode cX7_roundOf 50 = .ok (.iadd, 1) := by decide +kernel
theorem dX7_roundOf_51 : decode cX7_roundOf 51 = .ok (.aload_n 0, 1) := by decide +kernel
theorem dX7_roundOf_52 : decode cX7_roundOf 52 = .ok (.getfield 7, 3) := by decide +kernel
theorem dX7_roundOf_55 : decode cX7_roundOf 55 = .ok (.iload_n 2, 1) := by decide +kernel
theorem dX7_roundOf_56 : decode cX7_roundOf 56 = .ok (.iaload, 1) := by decide +kernel
theorem dX7_roundOf_57 : decode cX7_roundOf 57 = .ok (.irem, 1) := by decide +kernel
theorem dX7_roundOf_58 : decode cX7_roundOf 58 = .ok (.istore 8, 2) := by decide +kernel
theorem dX7_roundOf_60 : decode cX7_roundOf 60 = .ok (.iload 5, 2) := by decide +kernel
theorem dX7_roundOf_62 : decode cX7_roundOf 62 = .ok (.iload 7, 2) := by decide +kernel
theorem dX7_roundOf_64 : decode cX7_roundOf 64 = .ok (.aload_n 0, 1) := by decide +kernel
theorem dX7_roundOf_65 : decode cX7_roundOf 65 = .ok (.getfield 13, 3) := by decide +kernel
theorem dX7_roundOf_68 : decode cX7_roundOf 68 = .ok (.iload_n 2, 1) := by decide +kernel
theorem dX7_roundOf_69 : decode cX7_roundOf 69 = .ok (.iaload, 1) := by decide +kernel
theorem dX7_roundOf_70 : decode cX7_roundOf 70 = .ok (.if_icmp .ge 39, 3) := by decide +kernel
theorem dX7_roundOf_73 : decode cX7_roundOf 73 = .ok (.aload_n 0, 1) := by decide +kernel
theorem dX7_roundOf_74 : decode cX7_roundOf 74 = .ok (.iload_n 2, 1) := by decide +kernel
theorem dX7_roundOf_75 : decode cX7_roundOf 75 = .ok (.iload 8, 2) := by decide +kernel
theorem dX7_roundOf_77 : decode cX7_roundOf 77 = .ok (.invokevirtual 79, 3) := by decide +kernel
theorem dX7_roundOf_80 : decode cX7_roundOf 80 = .ok (.iload 7, 2) := by decide +kernel
theorem dX7_roundOf_82 : decode cX7_roundOf 82 = .ok (.iload 4, 2) := by decide +kernel
theorem dX7_roundOf_84 : decode cX7_roundOf 84 = .ok (.iadd, 1) := by decide +kernel
theorem dX7_roundOf_85 : decode cX7_roundOf 85 = .ok (.bipush 12, 2) := by decide +kernel
theorem dX7_roundOf_87 : decode cX7_roundOf 87 = .ok (.aload_n 0, 1) := by decide +kernel
theorem dX7_roundOf_88 : decode cX7_roundOf 88 = .ok (.getfield 13, 3) := by decide +kernel
theorem dX7_roundOf_91 : decode cX7_roundOf 91 = .ok (.iload_n 2, 1) := by decide +kernel
theorem dX7_roundOf_92 : decode cX7_roundOf 92 = .ok (.iaload, 1) := by decide +kernel
theorem dX7_roundOf_93 : decode cX7_roundOf 93 = .ok (.imul, 1) := by decide +kernel
theorem dX7_roundOf_94 : decode cX7_roundOf 94 = .ok (.iadd, 1) := by decide +kernel
theorem dX7_roundOf_95 : decode cX7_roundOf 95 = .ok (.aload_n 0, 1) := by decide +kernel
theorem dX7_roundOf_96 : decode cX7_roundOf 96 = .ok (.getfield 13, 3) := by decide +kernel
theorem dX7_roundOf_99 : decode cX7_roundOf 99 = .ok (.iload_n 2, 1) := by decide +kernel
theorem dX7_roundOf_100 : decode cX7_roundOf 100 = .ok (.iaload, 1) := by decide +kernel
theorem dX7_roundOf_101 : decode cX7_roundOf 101 = .ok (.irem, 1) := by decide +kernel
theorem dX7_roundOf_102 : decode cX7_roundOf 102 = .ok (.if_icmp .ne 7, 3) := by decide +kernel
theorem dX7_roundOf_105 : decode cX7_roundOf 105 = .ok (.iconst 1, 1) := by decide +kernel
theorem dX7_roundOf_106 : decode cX7_roundOf 106 = .ok (.goto 4, 3) := by decide +kernel
theorem dX7_roundOf_109 : decode cX7_roundOf 109 = .ok (.iconst 0, 1) := by decide +kernel
theorem dX7_roundOf_110 : decode cX7_roundOf 110 = .ok (.iadd, 1) := by decide +kernel
theorem dX7_roundOf_111 : decode cX7_roundOf 111 = .ok (.istore 5, 2) := by decide +kernel
theorem dX7_roundOf_113 : decode cX7_roundOf 113 = .ok (.iinc 6 1, 3) := by decide +kernel
theorem dX7_roundOf_116 : decode cX7_roundOf 116 = .ok (.goto (-110), 3) := by decide +kernel
theorem dX7_roundOf_119 : decode cX7_roundOf 119 = .ok (.iload 5, 2) := by decide +kernel
theorem dX7_roundOf_121 : decode cX7_roundOf 121 = .ok (.ireturn, 1) := by decide +kernel
theorem dX7_hits_0 : decode cX7_hits 0 = .ok (.iload_n 1, 1) := by decide +kernel
theorem dX7_hits_1 : decode cX7_hits 1 = .ok (.invokestatic 50, 3) := by decide +kernel
theorem dX7_hits_4 : decode cX7_hits 4 = .ok (.ifCond .eq 39, 3) := by decide +kernel
theorem dX7_hits_7 : decode cX7_hits 7 = .ok (.iload_n 2, 1) := by decide +kernel
theorem dX7_hits_8 : decode cX7_hits 8 = .ok (.invokestatic 50, 3) := by decide +kernel
theorem dX7_hits_11 : decode cX7_hits 11 = .ok (.ifCond .eq 32, 3) := by decide +kernel
theorem dX7_hits_14 : decode cX7_hits 14 = .ok (.iload_n 3, 1) := by decide +kernel
theorem dX7_hits_15 : decode cX7_hits 15 = .ok (.i2l, 1) := by decide +kernel
theorem dX7_hits_16 : decode cX7_hits 16 = .ok (.ldc2_w 99, 3) := by decide +kernel
theorem dX7_hits_19 : decode cX7_hits 19 = .ok (.ldc2_w 54, 3) := by decide +kernel
theorem dX7_hits_22 : decode cX7_hits 22 = .ok (.invokestatic 46, 3) := by decide +kernel
theorem dX7_hits_25 : decode cX7_hits 25 = .ok (.ifCond .eq 18, 3) := by decide +kernel
theorem dX7_hits_28 : decode cX7_hits 28 = .ok (.iload 4, 2) := by decide +kernel
theorem dX7_hits_30 : decode cX7_hits 30 = .ok (.i2l, 1) := by decide +kernel
theorem dX7_hits_31 : decode cX7_hits 31 = .ok (.ldc2_w 99, 3) := by decide +kernel
theorem dX7_hits_34 : decode cX7_hits 34 = .ok (.ldc2_w 54, 3) := by decide +kernel
theorem dX7_hits_37 : decode cX7_hits 37 = .ok (.invokestatic 46, 3) := by decide +kernel
theorem dX7_hits_40 : decode cX7_hits 40 = .ok (.ifCond .ne 5, 3) := by decide +kernel
theorem dX7_hits_43 : decode cX7_hits 43 = .ok (.iconst (-1), 1) := by decide +kernel
theorem dX7_hits_44 : decode cX7_hits 44 = .ok (.ireturn, 1) := by decide +kernel
theorem dX7_hits_45 : decode cX7_hits 45 = .ok (.iload 5, 2) := by decide +kernel
theorem dX7_hits_47 : decode cX7_hits 47 = .ok (.ifCond .eq 15, 3) := by decide +kernel
theorem dX7_hits_50 : decode cX7_hits 50 = .ok (.aload_n 0, 1) := by decide +kernel
theorem dX7_hits_51 : decode cX7_hits 51 = .ok (.iload_n 1, 1) := by decide +kernel
theorem dX7_hits_52 : decode cX7_hits 52 = .ok (.iload_n 2, 1) := by decide +kernel
theorem dX7_hits_53 : decode cX7_hits 53 = .ok (.iload_n 3, 1) := by decide +kernel
theorem dX7_hits_54 : decode cX7_hits 54 = .ok (.iload 4, 2) := by decide +kernel
theorem dX7_hits_56 : decode cX7_hits 56 = .ok (.invokevirtual 101, 3) := by decide +kernel
theorem dX7_hits_59 : decode cX7_hits 59 = .ok (.goto 12, 3) := by decide +kernel
theorem dX7_hits_62 : decode cX7_hits 62 = .ok (.aload_n 0, 1) := by decide +kernel
theorem dX7_hits_63 : decode cX7_hits 63 = .ok (.iload_n 1, 1) := by decide +kernel
theorem dX7_hits_64 : decode cX7_hits 64 = .ok (.iload_n 2, 1) := by decide +kernel
theorem dX7_hits_65 : decode cX7_hits 65 = .ok (.iload_n 3, 1) := by decide +kernel
theorem dX7_hits_66 : decode cX7_hits 66 = .ok (.iload 4, 2) := by decide +kernel
theorem dX7_hits_68 : decode cX7_hits 68 = .ok (.invokevirtual 104, 3) := by decide +kernel
theorem dX7_hits_71 : decode cX7_hits 71 = .ok (.ireturn, 1) := by decide +kernel
theorem dX7_most_0 : decode cX7_most 0 = .ok (.iload_n 1, 1) := by decide +kernel
theorem dX7_most_1 : decode cX7_most 1 = .ok (.invokestatic 50, 3) := by decide +kernel
theorem dX7_most_4 : decode cX7_most 4 = .ok (.ifCond .eq 22, 3) := by decide +kernel
theorem dX7_most_7 : decode cX7_most 7 = .ok (.iload_n 2, 1) := by decide +kernel
theorem dX7_most_8 : decode cX7_most 8 = .ok (.invokestatic 50, 3) := by decide +kernel
theorem dX7_most_11 : decode cX7_most 11 = .ok (.ifCond .eq 15, 3) := by decide +kernel
theorem dX7_most_14 : decode cX7_most 14 = .ok (.iload_n 3, 1) := by decide +kernel
theorem dX7_most_15 : decode cX7_most 15 = .ok (.i2l, 1) := by decide +kernel
theorem dX7_most_16 : decode cX7_most 16 = .ok (.lconst 0, 1) := by decide +kernel
theorem dX7_most_17 : decode cX7_most 17 = .ok (.ldc2_w 107, 3) := by decide +kernel
theorem dX7_most_20 : decode cX7_most 20 = .ok (.invokestatic 46, 3) := by decide +kernel
theorem dX7_most_23 : decode cX7_most 23 = .ok (.ifCond .ne 6, 3) := by decide +kernel
theorem dX7_most_26 : decode cX7_most 26 = .ok (.bipush (-100), 2) := by decide +kernel
theorem dX7_most_28 : decode cX7_most 28 = .ok (.ireturn, 1) := by decide +kernel
theorem dX7_most_29 : decode cX7_most 29 = .ok (.iconst (-1), 1) := by decide +kernel
theorem dX7_most_30 : decode cX7_most 30 = .ok (.istore 4, 2) := by decide +kernel
theorem dX7_most_32 : decode cX7_most 32 = .ok (.iconst 0, 1) := by decide +kernel
theorem dX7_most_33 : decode cX7_most 33 = .ok (.istore 5, 2) := by decide +kernel
theorem dX7_most_35 : decode cX7_most 35 = .ok (.iconst 0, 1) := by decide +kernel
theorem dX7_most_36 : decode cX7_most 36 = .ok (.istore 6, 2) := by decide +kernel
theorem dX7_most_38 : decode cX7_most 38 = .ok (.iconst 0, 1) := by decide +kernel
theorem dX7_most_39 : decode cX7_most 39 = .ok (.istore 7, 2) := by decide +kernel
theorem dX7_most_41 : decode cX7_most 41 = .ok (.bipush (-12), 2) := by decide +kernel
theorem dX7_most_43 : decode cX7_most 43 = .ok (.istore 8, 2) := by decide +kernel
theorem dX7_most_45 : decode cX7_most 45 = .ok (.iload 8, 2) := by decide +kernel
theorem dX7_most_47 : decode cX7_most 47 = .ok (.bipush 12, 2) := by decide +kernel
theorem dX7_most_49 : decode cX7_most 49 = .ok (.if_icmp .gt 95, 3) := by decide +kernel
theorem dX7_most_52 : decode cX7_most 52 = .ok (.bipush (-12), 2) := by decide +kernel
theorem dX7_most_54 : decode cX7_most 54 = .ok (.istore 9, 2) := by decide +kernel
theorem dX7_most_56 : decode cX7_most 56 = .ok (.iload 9, 2) := by decide +kernel
theorem dX7_most_58 : decode cX7_most 58 = .ok (.bipush 12, 2) := by decide +kernel
theorem dX7_most_60 : decode cX7_most 60 = .ok (.if_icmp .gt 78, 3) := by decide +kernel
theorem dX7_most_63 : decode cX7_most 63 = .ok (.iload_n 1, 1) := by decide +kernel
theorem dX7_most_64 : decode cX7_most 64 = .ok (.iload_n 2, 1) := by decide +kernel
theorem dX7_most_65 : decode cX7_most 65 = .ok (.if_icmp .ne 17, 3) := by decide +kernel
theorem dX7_most_68 : decode cX7_most 68 = .ok (.iload 8, 2) := by decide +kernel
theorem dX7_most_70 : decode cX7_most 70 = .ok (.ifCond .ne 12, 3) := by decide +kernel
theorem dX7_most_73 : decode cX7_most 73 = .ok (.iload 9, 2) := by decide +kernel
theorem dX7_most_75 : decode cX7_most 75 = .ok (.ifCond .ne 7, 3) := by decide +kernel
theorem dX7_most_78 : decode cX7_most 78 = .ok (.iconst (-1), 1) := by decide +kernel
theorem dX7_most_79 : decode cX7_most 79 = .ok (.goto 13, 3) := by decide +kernel
theorem dX7_most_82 : decode cX7_most 82 = .ok (.aload_n 0, 1) := by decide +kernel
theorem dX7_most_83 : decode cX7_most 83 = .ok (.iload_n 1, 1) := by decide +kernel
theorem dX7_most_84 : decode cX7_most 84 = .ok (.iload_n 2, 1) := by decide +kernel
theorem dX7_most_85 : decode cX7_most 85 = .ok (.iload 8, 2) := by decide +kernel
theorem dX7_most_87 : decode cX7_most 87 = .ok (.iload 9, 2) := by decide +kernel
theorem dX7_most_89 : decode cX7_most 89 = .ok (.invokevirtual 104, 3) := by decide +kernel
theorem dX7_most_92 : decode cX7_most 92 = .ok (.istore 10, 2) := by decide +kernel
theorem dX7_most_94 : decode cX7_most 94 = .ok (.iload 7, 2) := by decide +kernel
theorem dX7_most_96 : decode cX7_most 96 = .ok (.iload 10, 2) := by decide +kernel
theorem dX7_most_98 : decode cX7_most 98 = .ok (.ifCond .ge 7, 3) := by decide +kernel
theorem dX7_most_101 : decode cX7_most 101 = .ok (.iconst 0, 1) := by decide +kernel
theorem dX7_most_102 : decode cX7_most 102 = .ok (.goto 8, 3) := by decide +kernel
theorem dX7_most_105 : decode cX7_most 105 = .ok (.iload 10, 2) := by decide +kernel
theorem dX7_most_107 : decode cX7_most 107 = .ok (.iload 10, 2) := by decide +kernel
theorem dX7_most_109 : decode cX7_most 109 = .ok (.imul, 1) := by decide +kernel
theorem dX7_most_110 : decode cX7_most 110 = .ok (.iadd, 1) := by decide +kernel
theorem dX7_most_111 : decode cX7_most 111 = .ok (.istore 7, 2) := by decide +kernel
theorem dX7_most_113 : decode cX7_most 113 = .ok (.iload 10, 2) := by decide +kernel
theorem dX7_most_115 : decode cX7_most 115 = .ok (.iload 4, 2) := by decide +kernel
theorem dX7_most_117 : decode cX7_most 117 = .ok (.if_icmp .le 15, 3) := by decide +kernel
theorem dX7_most_120 : decode cX7_most 120 = .ok (.iload 10, 2) := by decide +kernel
theorem dX7_most_122 : decode cX7_most 122 = .ok (.istore 4, 2) := by decide +kernel
theorem dX7_most_124 : decode cX7_most 124 = .ok (.iload 8, 2) := by decide +kernel
theorem dX7_most_126 : decode cX7_most 126 = .ok (.istore 5, 2) := by decide +kernel
theorem dX7_most_128 : decode cX7_most 128 = .ok (.iload 9, 2) := by decide +kernel
theorem dX7_most_130 : decode cX7_most 130 = .ok (.istore 6, 2) := by decide +kernel
theorem dX7_most_132 : decode cX7_most 132 = .ok (.iinc 9 1, 3) := by decide +kernel
theorem dX7_most_135 : decode cX7_most 135 = .ok (.goto (-79), 3) := by decide +kernel
theorem dX7_most_138 : decode cX7_most 138 = .ok (.iinc 8 1, 3) := by decide +kernel
theorem dX7_most_141 : decode cX7_most 141 = .ok (.goto (-96), 3) := by decide +kernel
theorem dX7_most_144 : decode cX7_most 144 = .ok (.iload_n 3, 1) := by decide +kernel
theorem dX7_most_145 : decode cX7_most 145 = .ok (.ifCond .ne 8, 3) := by decide +kernel
theorem dX7_most_148 : decode cX7_most 148 = .ok (.iload 4, 2) := by decide +kernel
theorem dX7_most_150 : decode cX7_most 150 = .ok (.goto 25, 3) := by decide +kernel
theorem dX7_most_153 : decode cX7_most 153 = .ok (.iload_n 3, 1) := by decide +kernel
theorem dX7_most_154 : decode cX7_most 154 = .ok (.iconst 1, 1) := by decide +kernel
theorem dX7_most_155 : decode cX7_most 155 = .ok (.if_icmp .ne 8, 3) := by decide +kernel
theorem dX7_most_158 : decode cX7_most 158 = .ok (.iload 5, 2) := by decide +kernel
theorem dX7_most_160 : decode cX7_most 160 = .ok (.goto 15, 3) := by decide +kernel
theorem dX7_most_163 : decode cX7_most 163 = .ok (.iload_n 3, 1) := by decide +kernel
theorem dX7_most_164 : decode cX7_most 164 = .ok (.iconst 2, 1) := by decide +kernel
theorem dX7_most_165 : decode cX7_most 165 = .ok (.if_icmp .ne 8, 3) := by decide +kernel
theorem dX7_most_168 : decode cX7_most 168 = .ok (.iload 6, 2) := by decide +kernel
theorem dX7_most_170 : decode cX7_most 170 = .ok (.goto 5, 3) := by decide +kernel
theorem dX7_most_173 : decode cX7_most 173 = .ok (.iload 7, 2) := by decide +kernel
theorem dX7_most_175 : decode cX7_most 175 = .ok (.ireturn, 1) := by decide +kernel
theorem dX7_isLean_0 : decode cX7_isLean 0 = .ok (.iconst 1, 1) := by decide +kernel
theorem dX7_isLean_1 : decode cX7_isLean 1 = .ok (.istore 4, 2) := by decide +kernel
theorem dX7_isLean_3 : decode cX7_isLean 3 = .ok (.iload 4, 2) := by decide +kernel
theorem dX7_isLean_5 : decode cX7_isLean 5 = .ok (.iload_n 1, 1) := by decide +kernel
theorem dX7_isLean_6 : decode cX7_isLean 6 = .ok (.if_icmp .ge 89, 3) := by decide +kernel
theorem dX7_isLean_9 : decode cX7_isLean 9 = .ok (.aload_n 0, 1) := by decide +kernel
theorem dX7_isLean_10 : decode cX7_isLean 10 = .ok (.getfield 29, 3) := by decide +kernel
theorem dX7_isLean_13 : decode cX7_isLean 13 = .ok (.iload_n 1, 1) := by decide +kernel
theorem dX7_isLean_14 : decode cX7_isLean 14 = .ok (.iaload, 1) := by decide +kernel
theorem dX7_isLean_15 : decode cX7_isLean 15 = .ok (.aload_n 0, 1) := by decide +kernel
theorem dX7_isLean_16 : decode cX7_isLean 16 = .ok (.getfield 29, 3) := by decide +kernel
theorem dX7_isLean_19 : decode cX7_isLean 19 = .ok (.iload_n 1, 1) := by decide +kernel
theorem dX7_isLean_20 : decode cX7_isLean 20 = .ok (.iload 4, 2) := by decide +kernel
theorem dX7_isLean_22 : decode cX7_isLean 22 = .ok (.isub, 1) := by decide +kernel
theorem dX7_isLean_23 : decode cX7_isLean 23 = .ok (.iaload, 1) := by decide +kernel
theorem dX7_isLean_24 : decode cX7_isLean 24 = .ok (.isub, 1) := by decide +kernel
theorem dX7_isLean_25 : decode cX7_isLean 25 = .ok (.istore 5, 2) := by decide +kernel
theorem dX7_isLean_27 : decode cX7_isLean 27 = .ok (.iload 4, 2) := by decide +kernel
theorem dX7_isLean_29 : decode cX7_isLean 29 = .ok (.istore 6, 2) := by decide +kernel
theorem dX7_isLean_31 : decode cX7_isLean 31 = .ok (.iload 6, 2) := by decide +kernel
theorem dX7_isLean_33 : decode cX7_isLean 33 = .ok (.iload_n 1, 1) := by decide +kernel
theorem dX7_isLean_34 : decode cX7_isLean 34 = .ok (.if_icmp .ge 55, 3) := by decide +kernel
theorem dX7_isLean_37 : decode cX7_isLean 37 = .ok (.aload_n 0, 1) := by decide +kernel
theorem dX7_isLean_38 : decode cX7_isLean 38 = .ok (.getfield 29, 3) := by decide +kernel
theorem dX7_isLean_41 : decode cX7_isLean 41 = .ok (.iload 6, 2) := by decide +kernel
theorem dX7_isLean_43 : decode cX7_isLean 43 = .ok (.iaload, 1) := by decide +kernel
theorem dX7_isLean_44 : decode cX7_isLean 44 = .ok (.aload_n 0, 1) := by decide +kernel
theorem dX7_isLean_45 : decode cX7_isLean 45 = .ok (.getfield 29, 3) := by decide +kernel
theorem dX7_isLean_48 : decode cX7_isLean 48 = .ok (.iload 6, 2) := by decide +kernel
theorem dX7_isLean_50 : decode cX7_isLean 50 = .ok (.iload 4, 2) := by decide +kernel
theorem dX7_isLean_52 : decode cX7_isLean 52 = .ok (.isub, 1) := by decide +kernel
theorem dX7_isLean_53 : decode cX7_isLean 53 = .ok (.iaload, 1) := by decide +kernel
theorem dX7_isLean_54 : decode cX7_isLean 54 = .ok (.isub, 1) := by decide +kernel
theorem dX7_isLean_55 : decode cX7_isLean 55 = .ok (.istore 7, 2) := by decide +kernel
theorem dX7_isLean_57 : decode cX7_isLean 57 = .ok (.iload_n 3, 1) := by decide +kernel
theorem dX7_isLean_58 : decode cX7_isLean 58 = .ok (.ifCond .ne 13, 3) := by decide +kernel
theorem dX7_isLean_61 : decode cX7_isLean 61 = .ok (.iload 5, 2) := by decide +kernel
theorem dX7_isLean_63 : decode cX7_isLean 63 = .ok (.iload 7, 2) := by decide +kernel
theorem dX7_isLean_65 : decode cX7_isLean 65 = .ok (.if_icmp .ne 18, 3) := by decide +kernel
theorem dX7_isLean_68 : decode cX7_isLean 68 = .ok (.goto 13, 3) := by decide +kernel
theorem dX7_isLean_71 : decode cX7_isLean 71 = .ok (.iload 5, 2) := by decide +kernel
theorem dX7_isLean_73 : decode cX7_isLean 73 = .ok (.iload 7, 2) := by decide +kernel
theorem dX7_isLean_75 : decode cX7_isLean 75 = .ok (.isub, 1) := by decide +kernel
theorem dX7_isLean_76 : decode cX7_isLean 76 = .ok (.iload_n 2, 1) := by decide +kernel
theorem dX7_isLean_77 : decode cX7_isLean 77 = .ok (.irem, 1) := by decide +kernel
theorem dX7_isLean_78 : decode cX7_isLean 78 = .ok (.ifCond .ne 5, 3) := by decide +kernel
theorem dX7_isLean_81 : decode cX7_isLean 81 = .ok (.iconst 0, 1) := by decide +kernel
theorem dX7_isLean_82 : decode cX7_isLean 82 = .ok (.ireturn, 1) := by decide +kernel
theorem dX7_isLean_83 : decode cX7_isLean 83 = .ok (.iinc 6 1, 3) := by decide +kernel
theorem dX7_isLean_86 : decode cX7_isLean 86 = .ok (.goto (-55), 3) := by decide +kernel
theorem dX7_isLean_89 : decode cX7_isLean 89 = .ok (.iinc 4 1, 3) := by decide +kernel
theorem dX7_isLean_92 : decode cX7_isLean 92 = .ok (.goto (-89), 3) := by decide +kernel
theorem dX7_isLean_95 : decode cX7_isLean 95 = .ok (.iconst 1, 1) := by decide +kernel
theorem dX7_isLean_96 : decode cX7_isLean 96 = .ok (.ireturn, 1) := by decide +kernel
theorem dX7_isUnlike_0 : decode cX7_isUnlike 0 = .ok (.iconst 1, 1) := by decide +kernel
theorem dX7_isUnlike_1 : decode cX7_isUnlike 1 = .ok (.istore_n 2, 1) := by decide +kernel
theorem dX7_isUnlike_2 : decode cX7_isUnlike 2 = .ok (.iconst 0, 1) := by decide +kernel
theorem dX7_isUnlike_3 : decode cX7_isUnlike 3 = .ok (.istore_n 3, 1) := by decide +kernel
theorem dX7_isUnlike_4 : decode cX7_isUnlike 4 = .ok (.iload_n 3, 1) := by decide +kernel
theorem dX7_isUnlike_5 : decode cX7_isUnlike 5 = .ok (.iload_n 1, 1) := by decide +kernel
theorem dX7_isUnlike_6 : decode cX7_isUnlike 6 = .ok (.if_icmp .ge 34, 3) := by decide +kernel
theorem dX7_isUnlike_9 : decode cX7_isUnlike 9 = .ok (.iload_n 2, 1) := by decide +kernel
theorem dX7_isUnlike_10 : decode cX7_isUnlike 10 = .ok (.ifCond .eq 22, 3) := by decide +kernel
theorem dX7_isUnlike_13 : decode cX7_isUnlike 13 = .ok (.aload_n 0, 1) := by decide +kernel
theorem dX7_isUnlike_14 : decode cX7_isUnlike 14 = .ok (.getfield 29, 3) := by decide +kernel
theorem dX7_isUnlike_17 : decode cX7_isUnlike 17 = .ok (.iload_n 3, 1) := by decide +kernel
theorem dX7_isUnlike_18 : decode cX7_isUnlike 18 = .ok (.iaload, 1) := by decide +kernel
theorem dX7_isUnlike_19 : decode cX7_isUnlike 19 = .ok (.aload_n 0, 1) := by decide +kernel
theorem dX7_isUnlike_20 : decode cX7_isUnlike 20 = .ok (.getfield 29, 3) := by decide +kernel
theorem dX7_isUnlike_23 : decode cX7_isUnlike 23 = .ok (.iload_n 1, 1) := by decide +kernel
theorem dX7_isUnlike_24 : decode cX7_isUnlike 24 = .ok (.iaload, 1) := by decide +kernel
theorem dX7_isUnlike_25 : decode cX7_isUnlike 25 = .ok (.if_icmp .eq 7, 3) := by decide +kernel
theorem dX7_isUnlike_28 : decode cX7_isUnlike 28 = .ok (.iconst 1, 1) := by decide +kernel
theorem dX7_isUnlike_29 : decode cX7_isUnlike 29 = .ok (.goto 4, 3) := by decide +kernel
theorem dX7_isUnlike_32 : decode cX7_isUnlike 32 = .ok (.iconst 0, 1) := by decide +kernel
theorem dX7_isUnlike_33 : decode cX7_isUnlike 33 = .ok (.istore_n 2, 1) := by decide +kernel
theorem dX7_isUnlike_34 : decode cX7_isUnlike 34 = .ok (.iinc 3 1, 3) := by decide +kernel
theorem dX7_isUnlike_37 : decode cX7_isUnlike 37 = .ok (.goto (-33), 3) := by decide +kernel
theorem dX7_isUnlike_40 : decode cX7_isUnlike 40 = .ok (.iload_n 2, 1) := by decide +kernel
theorem dX7_isUnlike_41 : decode cX7_isUnlike 41 = .ok (.ireturn, 1) := by decide +kernel
theorem dX7_may_0 : decode cX7_may 0 = .ok (.iload 5, 2) := by decide +kernel
theorem dX7_may_2 : decode cX7_may 2 = .ok (.ifCond .lt 31, 3) := by decide +kernel
theorem dX7_may_5 : decode cX7_may 5 = .ok (.aload_n 0, 1) := by decide +kernel
theorem dX7_may_6 : decode cX7_may 6 = .ok (.iload 5, 2) := by decide +kernel
theorem dX7_may_8 : decode cX7_may 8 = .ok (.iload_n 1, 1) := by decide +kernel
theorem dX7_may_9 : decode cX7_may 9 = .ok (.invokevirtual 79, 3) := by decide +kernel
theorem dX7_may_12 : decode cX7_may 12 = .ok (.bipush 15, 2) := by decide +kernel
theorem dX7_may_14 : decode cX7_may 14 = .ok (.if_icmp .eq 19, 3) := by decide +kernel
theorem dX7_may_17 : decode cX7_may 17 = .ok (.aload_n 0, 1) := by decide +kernel
theorem dX7_may_18 : decode cX7_may 18 = .ok (.iload 5, 2) := by decide +kernel
theorem dX7_may_20 : decode cX7_may 20 = .ok (.iload_n 1, 1) := by decide +kernel
theorem dX7_may_21 : decode cX7_may 21 = .ok (.invokevirtual 79, 3) := by decide +kernel
theorem dX7_may_24 : decode cX7_may 24 = .ok (.aload_n 0, 1) := by decide +kernel
theorem dX7_may_25 : decode cX7_may 25 = .ok (.getfield 29, 3) := by decide +kernel
theorem dX7_may_28 : decode cX7_may 28 = .ok (.iload_n 1, 1) := by decide +kernel
theorem dX7_may_29 : decode cX7_may 29 = .ok (.iaload, 1) := by decide +kernel
theorem dX7_may_30 : decode cX7_may 30 = .ok (.if_icmp .ne 7, 3) := by decide +kernel
theorem dX7_may_33 : decode cX7_may 33 = .ok (.iconst 1, 1) := by decide +kernel
theorem dX7_may_34 : decode cX7_may 34 = .ok (.goto 4, 3) := by decide +kernel
theorem dX7_may_37 : decode cX7_may 37 = .ok (.iconst 0, 1) := by decide +kernel
theorem dX7_may_38 : decode cX7_may 38 = .ok (.istore 6, 2) := by decide +kernel
theorem dX7_may_40 : decode cX7_may 40 = .ok (.iload 6, 2) := by decide +kernel
theorem dX7_may_42 : decode cX7_may 42 = .ok (.ifCond .eq 30, 3) := by decide +kernel
theorem dX7_may_45 : decode cX7_may 45 = .ok (.iload 4, 2) := by decide +kernel
theorem dX7_may_47 : decode cX7_may 47 = .ok (.ifCond .eq 11, 3) := by decide +kernel
theorem dX7_may_50 : decode cX7_may 50 = .ok (.aload_n 0, 1) := by decide +kernel
theorem dX7_may_51 : decode cX7_may 51 = .ok (.iload_n 1, 1) := by decide +kernel
theorem dX7_may_52 : decode cX7_may 52 = .ok (.invokevirtual 109, 3) := by decide +kernel
theorem dX7_may_55 : decode cX7_may 55 = .ok (.ifCond .eq 17, 3) := by decide +kernel
theorem dX7_may_58 : decode cX7_may 58 = .ok (.aload_n 0, 1) := by decide +kernel
theorem dX7_may_59 : decode cX7_may 59 = .ok (.iload_n 1, 1) := by decide +kernel
theorem dX7_may_60 : decode cX7_may 60 = .ok (.iload_n 2, 1) := by decide +kernel
theorem dX7_may_61 : decode cX7_may 61 = .ok (.iload_n 3, 1) := by decide +kernel
theorem dX7_may_62 : decode cX7_may 62 = .ok (.invokevirtual 112, 3) := by decide +kernel
theorem dX7_may_65 : decode cX7_may 65 = .ok (.ifCond .eq 7, 3) := by decide +kernel
theorem dX7_may_68 : decode cX7_may 68 = .ok (.iconst 1, 1) := by decide +kernel
theorem dX7_may_69 : decode cX7_may 69 = .ok (.goto 4, 3) := by decide +kernel
theorem dX7_may_72 : decode cX7_may 72 = .ok (.iconst 0, 1) := by decide +kernel
theorem dX7_may_73 : decode cX7_may 73 = .ok (.ireturn, 1) := by decide +kernel
theorem dX7_lays_0 : decode cX7_lays 0 = .ok (.iconst 0, 1) := by decide +kernel
theorem dX7_lays_1 : decode cX7_lays 1 = .ok (.istore 7, 2) := by decide +kernel
theorem dX7_lays_3 : decode cX7_lays 3 = .ok (.iconst 0, 1) := by decide +kernel
theorem dX7_lays_4 : decode cX7_lays 4 = .ok (.istore 8, 2) := by decide +kernel
theorem dX7_lays_6 : decode cX7_lays 6 = .ok (.aload_n 0, 1) := by decide +kernel
theorem dX7_lays_7 : decode cX7_lays 7 = .ok (.iconst 0, 1) := by decide +kernel
theorem dX7_lays_8 : decode cX7_lays 8 = .ok (.putfield 115, 3) := by decide +kernel
theorem dX7_lays_11 : decode cX7_lays 11 = .ok (.aload_n 0, 1) := by decide +kernel
theorem dX7_lays_12 : decode cX7_lays 12 = .ok (.getfield 29, 3) := by decide +kernel
theorem dX7_lays_15 : decode cX7_lays 15 = .ok (.iconst 0, 1) := by decide +kernel
theorem dX7_lays_16 : decode cX7_lays 16 = .ok (.iconst (-1), 1) := by decide +kernel
theorem dX7_lays_17 : decode cX7_lays 17 = .ok (.iastore, 1) := by decide +kernel
theorem dX7_lays_18 : decode cX7_lays 18 = .ok (.iload 8, 2) := by decide +kernel
theorem dX7_lays_20 : decode cX7_lays 20 = .ok (.ifCond .lt 89, 3) := by decide +kernel
theorem dX7_lays_23 : decode cX7_lays 23 = .ok (.aload_n 0, 1) := by decide +kernel
theorem dX7_lays_24 : decode cX7_lays 24 = .ok (.getfield 29, 3) := by decide +kernel
theorem dX7_lays_27 : decode cX7_lays 27 = .ok (.iload 8, 2) := by decide +kernel
theorem dX7_lays_29 : decode cX7_lays 29 = .ok (.dup2, 1) := by decide +kernel
theorem dX7_lays_30 : decode cX7_lays 30 = .ok (.iaload, 1) := by decide +kernel
theorem dX7_lays_31 : decode cX7_lays 31 = .ok (.iconst 1, 1) := by decide +kernel
theorem dX7_lays_32 : decode cX7_lays 32 = .ok (.iadd, 1) := by decide +kernel
theorem dX7_lays_33 : decode cX7_lays 33 = .ok (.iastore, 1) := by decide +kernel
theorem dX7_lays_34 : decode cX7_lays 34 = .ok (.aload_n 0, 1) := by decide +kernel
theorem dX7_lays_35 : decode cX7_lays 35 = .ok (.getfield 29, 3) := by decide +kernel
theorem dX7_lays_38 : decode cX7_lays 38 = .ok (.iload 8, 2) := by decide +kernel
theorem dX7_lays_40 : decode cX7_lays 40 = .ok (.iaload, 1) := by decide +kernel
theorem dX7_lays_41 : decode cX7_lays 41 = .ok (.iload_n 2, 1) := by decide +kernel
theorem dX7_lays_42 : decode cX7_lays 42 = .ok (.if_icmp .ne 9, 3) := by decide +kernel
theorem dX7_lays_45 : decode cX7_lays 45 = .ok (.iinc 8 (-1), 3) := by decide +kernel
theorem dX7_lays_48 : decode cX7_lays 48 = .ok (.goto (-30), 3) := by decide +kernel
theorem dX7_lays_51 : decode cX7_lays 51 = .ok (.aload_n 0, 1) := by decide +kernel
theorem dX7_lays_52 : decode cX7_lays 52 = .ok (.iload 8, 2) := by decide +kernel
theorem dX7_lays_54 : decode cX7_lays 54 = .ok (.iload_n 2, 1) := by decide +kernel
theorem dX7_lays_55 : decode cX7_lays 55 = .ok (.iload_n 3, 1) := by decide +kernel
theorem dX7_lays_56 : decode cX7_lays 56 = .ok (.iload 4, 2) := by decide +kernel
theorem dX7_lays_58 : decode cX7_lays 58 = .ok (.iload 5, 2) := by decide +kernel
theorem dX7_lays_60 : decode cX7_lays 60 = .ok (.invokevirtual 118, 3) := by decide +kernel
theorem dX7_lays_63 : decode cX7_lays 63 = .ok (.ifCond .eq (-45), 3) := by decide +kernel
theorem dX7_lays_66 : decode cX7_lays 66 = .ok (.iload 8, 2) := by decide +kernel
theorem dX7_lays_68 : decode cX7_lays 68 = .ok (.iload_n 1, 1) := by decide +kernel
theorem dX7_lays_69 : decode cX7_lays 69 = .ok (.iconst 1, 1) := by decide +kernel
theorem dX7_lays_70 : decode cX7_lays 70 = .ok (.isub, 1) := by decide +kernel
theorem dX7_lays_71 : decode cX7_lays 71 = .ok (.if_icmp .ge 17, 3) := by decide +kernel
theorem dX7_lays_74 : decode cX7_lays 74 = .ok (.iinc 8 1, 3) := by decide +kernel
theorem dX7_lays_77 : decode cX7_lays 77 = .ok (.aload_n 0, 1) := by decide +kernel
theorem dX7_lays_78 : decode cX7_lays 78 = .ok (.getfield 29, 3) := by decide +kernel
theorem dX7_lays_81 : decode cX7_lays 81 = .ok (.iload 8, 2) := by decide +kernel
theorem dX7_lays_83 : decode cX7_lays 83 = .ok (.iconst (-1), 1) := by decide +kernel
theorem dX7_lays_84 : decode cX7_lays 84 = .ok (.iastore, 1) := by decide +kernel
theorem dX7_lays_85 : decode cX7_lays 85 = .ok (.goto (-67), 3) := by decide +kernel
theorem dX7_lays_88 : decode cX7_lays 88 = .ok (.iload 7, 2) := by decide +kernel
theorem dX7_lays_90 : decode cX7_lays 90 = .ok (.iload 6, 2) := by decide +kernel
theorem dX7_lays_92 : decode cX7_lays 92 = .ok (.if_icmp .ne 11, 3) := by decide +kernel
theorem dX7_lays_95 : decode cX7_lays 95 = .ok (.aload_n 0, 1) := by decide +kernel
theorem dX7_lays_96 : decode cX7_lays 96 = .ok (.iconst 1, 1) := by decide +kernel
theorem dX7_lays_97 : decode cX7_lays 97 = .ok (.putfield 115, 3) := by decide +kernel
theorem dX7_lays_100 : decode cX7_lays 100 = .ok (.iload 7, 2) := by decide +kernel
theorem dX7_lays_102 : decode cX7_lays 102 = .ok (.ireturn, 1) := by decide +kernel
theorem dX7_lays_103 : decode cX7_lays 103 = .ok (.iinc 7 1, 3) := by decide +kernel
theorem dX7_lays_106 : decode cX7_lays 106 = .ok (.goto (-88), 3) := by decide +kernel
theorem dX7_lays_109 : decode cX7_lays 109 = .ok (.iload 7, 2) := by decide +kernel
theorem dX7_lays_111 : decode cX7_lays 111 = .ok (.ireturn, 1) := by decide +kernel
theorem dX7_becomes_0 : decode cX7_becomes 0 = .ok (.iload 5, 2) := by decide +kernel
theorem dX7_becomes_2 : decode cX7_becomes 2 = .ok (.ifCond .ge 6, 3) := by decide +kernel
theorem dX7_becomes_5 : decode cX7_becomes 5 = .ok (.iload 4, 2) := by decide +kernel
theorem dX7_becomes_7 : decode cX7_becomes 7 = .ok (.ireturn, 1) := by decide +kernel
theorem dX7_becomes_8 : decode cX7_becomes 8 = .ok (.aload_n 0, 1) := by decide +kernel
theorem dX7_becomes_9 : decode cX7_becomes 9 = .ok (.getfield 115, 3) := by decide +kernel
theorem dX7_becomes_12 : decode cX7_becomes 12 = .ok (.ifCond .ne 6, 3) := by decide +kernel
theorem dX7_becomes_15 : decode cX7_becomes 15 = .ok (.bipush (-4), 2) := by decide +kernel
theorem dX7_becomes_17 : decode cX7_becomes 17 = .ok (.ireturn, 1) := by decide +kernel
theorem dX7_becomes_18 : decode cX7_becomes 18 = .ok (.aload_n 0, 1) := by decide +kernel
theorem dX7_becomes_19 : decode cX7_becomes 19 = .ok (.getfield 7, 3) := by decide +kernel
theorem dX7_becomes_22 : decode cX7_becomes 22 = .ok (.iload_n 1, 1) := by decide +kernel
theorem dX7_becomes_23 : decode cX7_becomes 23 = .ok (.iload_n 2, 1) := by decide +kernel
theorem dX7_becomes_24 : decode cX7_becomes 24 = .ok (.iastore, 1) := by decide +kernel
theorem dX7_becomes_25 : decode cX7_becomes 25 = .ok (.aload_n 0, 1) := by decide +kernel
theorem dX7_becomes_26 : decode cX7_becomes 26 = .ok (.getfield 13, 3) := by decide +kernel
theorem dX7_becomes_29 : decode cX7_becomes 29 = .ok (.iload_n 1, 1) := by decide +kernel
theorem dX7_becomes_30 : decode cX7_becomes 30 = .ok (.iload_n 3, 1) := by decide +kernel
theorem dX7_becomes_31 : decode cX7_becomes 31 = .ok (.iastore, 1) := by decide +kernel
theorem dX7_becomes_32 : decode cX7_becomes 32 = .ok (.iconst 0, 1) := by decide +kernel
theorem dX7_becomes_33 : decode cX7_becomes 33 = .ok (.istore 6, 2) := by decide +kernel
theorem dX7_becomes_35 : decode cX7_becomes 35 = .ok (.iload 6, 2) := by decide +kernel
theorem dX7_becomes_37 : decode cX7_becomes 37 = .ok (.iload_n 2, 1) := by decide +kernel
theorem dX7_becomes_38 : decode cX7_becomes 38 = .ok (.if_icmp .ge 28, 3) := by decide +kernel
theorem dX7_becomes_41 : decode cX7_becomes 41 = .ok (.aload_n 0, 1) := by decide +kernel
theorem dX7_becomes_42 : decode cX7_becomes 42 = .ok (.getfield 16, 3) := by decide +kernel
theorem dX7_becomes_45 : decode cX7_becomes 45 = .ok (.bipush 12, 2) := by decide +kernel
theorem dX7_becomes_47 : decode cX7_becomes 47 = .ok (.iload_n 1, 1) := by decide +kernel
theorem dX7_becomes_48 : decode cX7_becomes 48 = .ok (.imul, 1) := by decide +kernel
theorem dX7_becomes_49 : decode cX7_becomes 49 = .ok (.iload 6, 2) := by decide +kernel
theorem dX7_becomes_51 : decode cX7_becomes 51 = .ok (.iadd, 1) := by decide +kernel
theorem dX7_becomes_52 : decode cX7_becomes 52 = .ok (.aload_n 0, 1) := by decide +kernel
theorem dX7_becomes_53 : decode cX7_becomes 53 = .ok (.getfield 29, 3) := by decide +kernel
theorem dX7_becomes_56 : decode cX7_becomes 56 = .ok (.iload 6, 2) := by decide +kernel
theorem dX7_becomes_58 : decode cX7_becomes 58 = .ok (.iaload, 1) := by decide +kernel
theorem dX7_becomes_59 : decode cX7_becomes 59 = .ok (.iastore, 1) := by decide +kernel
theorem dX7_becomes_60 : decode cX7_becomes 60 = .ok (.iinc 6 1, 3) := by decide +kernel
theorem dX7_becomes_63 : decode cX7_becomes 63 = .ok (.goto (-28), 3) := by decide +kernel
theorem dX7_becomes_66 : decode cX7_becomes 66 = .ok (.iload_n 1, 1) := by decide +kernel
theorem dX7_becomes_67 : decode cX7_becomes 67 = .ok (.ireturn, 1) := by decide +kernel
theorem dX7_squares_0 : decode cX7_squares 0 = .ok (.iload_n 1, 1) := by decide +kernel
theorem dX7_squares_1 : decode cX7_squares 1 = .ok (.i2l, 1) := by decide +kernel
theorem dX7_squares_2 : decode cX7_squares 2 = .ok (.lconst 1, 1) := by decide +kernel
theorem dX7_squares_3 : decode cX7_squares 3 = .ok (.ldc2_w 58, 3) := by decide +kernel
theorem dX7_squares_6 : decode cX7_squares 6 = .ok (.invokestatic 46, 3) := by decide +kernel
theorem dX7_squares_9 : decode cX7_squares 9 = .ok (.ifCond .eq 15, 3) := by decide +kernel
theorem dX7_squares_12 : decode cX7_squares 12 = .ok (.iload_n 2, 1) := by decide +kernel
theorem dX7_squares_13 : decode cX7_squares 13 = .ok (.iconst (-1), 1) := by decide +kernel
theorem dX7_squares_14 : decode cX7_squares 14 = .ok (.if_icmp .lt 10, 3) := by decide +kernel
theorem dX7_squares_17 : decode cX7_squares 17 = .ok (.iload_n 3, 1) := by decide +kernel
theorem dX7_squares_18 : decode cX7_squares 18 = .ok (.invokestatic 50, 3) := by decide +kernel
theorem dX7_squares_21 : decode cX7_squares 21 = .ok (.ifCond .ne 5, 3) := by decide +kernel
theorem dX7_squares_24 : decode cX7_squares 24 = .ok (.iconst (-1), 1) := by decide +kernel
theorem dX7_squares_25 : decode cX7_squares 25 = .ok (.ireturn, 1) := by decide +kernel
theorem dX7_squares_26 : decode cX7_squares 26 = .ok (.aload_n 0, 1) := by decide +kernel
theorem dX7_squares_27 : decode cX7_squares 27 = .ok (.iload_n 3, 1) := by decide +kernel
theorem dX7_squares_28 : decode cX7_squares 28 = .ok (.iload_n 1, 1) := by decide +kernel
theorem dX7_squares_29 : decode cX7_squares 29 = .ok (.iload_n 1, 1) := by decide +kernel
theorem dX7_squares_30 : decode cX7_squares 30 = .ok (.aload_n 0, 1) := by decide +kernel
theorem dX7_squares_31 : decode cX7_squares 31 = .ok (.iload_n 1, 1) := by decide +kernel
theorem dX7_squares_32 : decode cX7_squares 32 = .ok (.iload_n 1, 1) := by decide +kernel
theorem dX7_squares_33 : decode cX7_squares 33 = .ok (.iconst 0, 1) := by decide +kernel
theorem dX7_squares_34 : decode cX7_squares 34 = .ok (.iconst 1, 1) := by decide +kernel
theorem dX7_squares_35 : decode cX7_squares 35 = .ok (.iconst (-1), 1) := by decide +kernel
theorem dX7_squares_36 : decode cX7_squares 36 = .ok (.iload_n 2, 1) := by decide +kernel
theorem dX7_squares_37 : decode cX7_squares 37 = .ok (.invokevirtual 122, 3) := by decide +kernel
theorem dX7_squares_40 : decode cX7_squares 40 = .ok (.iload_n 2, 1) := by decide +kernel
theorem dX7_squares_41 : decode cX7_squares 41 = .ok (.invokevirtual 126, 3) := by decide +kernel
theorem dX7_squares_44 : decode cX7_squares 44 = .ok (.ireturn, 1) := by decide +kernel
theorem dX7_holding_0 : decode cX7_holding 0 = .ok (.iload_n 1, 1) := by decide +kernel
theorem dX7_holding_1 : decode cX7_holding 1 = .ok (.invokestatic 50, 3) := by decide +kernel
theorem dX7_holding_4 : decode cX7_holding 4 = .ok (.ifCond .eq 15, 3) := by decide +kernel
theorem dX7_holding_7 : decode cX7_holding 7 = .ok (.iload_n 2, 1) := by decide +kernel
theorem dX7_holding_8 : decode cX7_holding 8 = .ok (.iconst (-1), 1) := by decide +kernel
theorem dX7_holding_9 : decode cX7_holding 9 = .ok (.if_icmp .lt 10, 3) := by decide +kernel
theorem dX7_holding_12 : decode cX7_holding 12 = .ok (.iload_n 3, 1) := by decide +kernel
theorem dX7_holding_13 : decode cX7_holding 13 = .ok (.invokestatic 50, 3) := by decide +kernel
theorem dX7_holding_16 : decode cX7_holding 16 = .ok (.ifCond .ne 5, 3) := by decide +kernel
theorem dX7_holding_19 : decode cX7_holding 19 = .ok (.iconst (-1), 1) := by decide +kernel
theorem dX7_holding_20 : decode cX7_holding 20 = .ok (.ireturn, 1) := by decide +kernel
theorem dX7_holding_21 : decode cX7_holding 21 = .ok (.aload_n 0, 1) := by decide +kernel
theorem dX7_holding_22 : decode cX7_holding 22 = .ok (.getfield 7, 3) := by decide +kernel
theorem dX7_holding_25 : decode cX7_holding 25 = .ok (.iload_n 1, 1) := by decide +kernel
theorem dX7_holding_26 : decode cX7_holding 26 = .ok (.iaload, 1) := by decide +kernel
theorem dX7_holding_27 : decode cX7_holding 27 = .ok (.istore 4, 2) := by decide +kernel
theorem dX7_holding_29 : decode cX7_holding 29 = .ok (.iload 4, 2) := by decide +kernel
theorem dX7_holding_31 : decode cX7_holding 31 = .ok (.bipush 8, 2) := by decide +kernel
theorem dX7_holding_33 : decode cX7_holding 33 = .ok (.if_icmp .gt 14, 3) := by decide +kernel
theorem dX7_holding_36 : decode cX7_holding 36 = .ok (.aload_n 0, 1) := by decide +kernel
theorem dX7_holding_37 : decode cX7_holding 37 = .ok (.getfield 13, 3) := by decide +kernel
theorem dX7_holding_40 : decode cX7_holding 40 = .ok (.iload_n 1, 1) := by decide +kernel
theorem dX7_holding_41 : decode cX7_holding 41 = .ok (.iaload, 1) := by decide +kernel
theorem dX7_holding_42 : decode cX7_holding 42 = .ok (.iload 4, 2) := by decide +kernel
theorem dX7_holding_44 : decode cX7_holding 44 = .ok (.if_icmp .eq 6, 3) := by decide +kernel
theorem dX7_holding_47 : decode cX7_holding 47 = .ok (.bipush (-2), 2) := by decide +kernel
theorem dX7_holding_49 : decode cX7_holding 49 = .ok (.ireturn, 1) := by decide +kernel
theorem dX7_holding_50 : decode cX7_holding 50 = .ok (.aload_n 0, 1) := by decide +kernel
theorem dX7_holding_51 : decode cX7_holding 51 = .ok (.iload_n 3, 1) := by decide +kernel
theorem dX7_holding_52 : decode cX7_holding 52 = .ok (.iload 4, 2) := by decide +kernel
theorem dX7_holding_54 : decode cX7_holding 54 = .ok (.iload 4, 2) := by decide +kernel
theorem dX7_holding_56 : decode cX7_holding 56 = .ok (.aload_n 0, 1) := by decide +kernel
theorem dX7_holding_57 : decode cX7_holding 57 = .ok (.iload 4, 2) := by decide +kernel
theorem dX7_holding_59 : decode cX7_holding 59 = .ok (.iload 4, 2) := by decide +kernel
theorem dX7_holding_61 : decode cX7_holding 61 = .ok (.iconst 0, 1) := by decide +kernel
theorem dX7_holding_62 : decode cX7_holding 62 = .ok (.iconst 1, 1) := by decide +kernel
theorem dX7_holding_63 : decode cX7_holding 63 = .ok (.iload_n 1, 1) := by decide +kernel
theorem dX7_holding_64 : decode cX7_holding 64 = .ok (.iload_n 2, 1) := by decide +kernel
theorem dX7_holding_65 : decode cX7_holding 65 = .ok (.invokevirtual 122, 3) := by decide +kernel
theorem dX7_holding_68 : decode cX7_holding 68 = .ok (.iload_n 2, 1) := by decide +kernel
theorem dX7_holding_69 : decode cX7_holding 69 = .ok (.invokevirtual 126, 3) := by decide +kernel
theorem dX7_holding_72 : decode cX7_holding 72 = .ok (.ireturn, 1) := by decide +kernel
theorem dX7_quarrelsLaid_0 : decode cX7_quarrelsLaid 0 = .ok (.iconst 0, 1) := by decide +kernel
theorem dX7_quarrelsLaid_1 : decode cX7_quarrelsLaid 1 = .ok (.istore_n 2, 1) := by decide +kernel
theorem dX7_quarrelsLaid_2 : decode cX7_quarrelsLaid 2 = .ok (.iconst 1, 1) := by decide +kernel
theorem dX7_quarrelsLaid_3 : decode cX7_quarrelsLaid 3 = .ok (.istore_n 3, 1) := by decide +kernel
theorem dX7_quarrelsLaid_4 : decode cX7_quarrelsLaid 4 = .ok (.iload_n 3, 1) := by decide +kernel
theorem dX7_quarrelsLaid_5 : decode cX7_quarrelsLaid 5 = .ok (.iload_n 1, 1) := by decide +kernel
theorem dX7_quarrelsLaid_6 : decode cX7_quarrelsLaid 6 = .ok (.if_icmp .ge 91, 3) := by decide +kernel
theorem dX7_quarrelsLaid_9 : decode cX7_quarrelsLaid 9 = .ok (.iconst 0, 1) := by decide +kernel
theorem dX7_quarrelsLaid_10 : decode cX7_quarrelsLaid 10 = .ok (.istore 4, 2) := by decide +kernel
theorem dX7_quarrelsLaid_12 : decode cX7_quarrelsLaid 12 = .ok (.iload 4, 2) := by decide +kernel
theorem dX7_quarrelsLaid_14 : decode cX7_quarrelsLaid 14 = .ok (.iload_n 3, 1) := by decide +kernel
theorem dX7_quarrelsLaid_15 : decode cX7_quarrelsLaid 15 = .ok (.iadd, 1) := by decide +kernel
theorem dX7_quarrelsLaid_16 : decode cX7_quarrelsLaid 16 = .ok (.iload_n 1, 1) := by decide +kernel
theorem dX7_quarrelsLaid_17 : decode cX7_quarrelsLaid 17 = .ok (.if_icmp .ge 74, 3) := by decide +kernel
theorem dX7_quarrelsLaid_20 : decode cX7_quarrelsLaid 20 = .ok (.iload 4, 2) := by decide +kernel
theorem dX7_quarrelsLaid_22 : decode cX7_quarrelsLaid 22 = .ok (.iconst 1, 1) := by decide +kernel
theorem dX7_quarrelsLaid_23 : decode cX7_quarrelsLaid 23 = .ok (.iadd, 1) := by decide +kernel
theorem dX7_quarrelsLaid_24 : decode cX7_quarrelsLaid 24 = .ok (.istore 5, 2) := by decide +kernel
theorem dX7_quarrelsLaid_26 : decode cX7_quarrelsLaid 26 = .ok (.iload 5, 2) := by decide +kernel
theorem dX7_quarrelsLaid_28 : decode cX7_quarrelsLaid 28 = .ok (.iload_n 3, 1) := by decide +kernel
theorem dX7_quarrelsLaid_29 : decode cX7_quarrelsLaid 29 = .ok (.iadd, 1) := by decide +kernel
theorem dX7_quarrelsLaid_30 : decode cX7_quarrelsLaid 30 = .ok (.iload_n 1, 1) := by decide +kernel
theorem dX7_quarrelsLaid_31 : decode cX7_quarrelsLaid 31 = .ok (.if_icmp .ge 54, 3) := by decide +kernel
theorem dX7_quarrelsLaid_34 : decode cX7_quarrelsLaid 34 = .ok (.iload_n 2, 1) := by decide +kernel
theorem dX7_quarrelsLaid_35 : decode cX7_quarrelsLaid 35 = .ok (.aload_n 0, 1) := by decide +kernel
theorem dX7_quarrelsLaid_36 : decode cX7_quarrelsLaid 36 = .ok (.getfield 29, 3) := by decide +kernel
theorem dX7_quarrelsLaid_39 : decode cX7_quarrelsLaid 39 = .ok (.iload 4, 2) := by decide +kernel
theorem dX7_quarrelsLaid_41 : decode cX7_quarrelsLaid 41 = .ok (.iload_n 3, 1) := by decide +kernel
theorem dX7_quarrelsLaid_42 : decode cX7_quarrelsLaid 42 = .ok (.iadd, 1) := by decide +kernel
theorem dX7_quarrelsLaid_43 : decode cX7_quarrelsLaid 43 = .ok (.iaload, 1) := by decide +kernel
theorem dX7_quarrelsLaid_44 : decode cX7_quarrelsLaid 44 = .ok (.aload_n 0, 1) := by decide +kernel
theorem dX7_quarrelsLaid_45 : decode cX7_quarrelsLaid 45 = .ok (.getfield 29, 3) := by decide +kernel
theorem dX7_quarrelsLaid_48 : decode cX7_quarrelsLaid 48 = .ok (.iload 4, 2) := by decide +kernel
theorem dX7_quarrelsLaid_50 : decode cX7_quarrelsLaid 50 = .ok (.iaload, 1) := by decide +kernel
theorem dX7_quarrelsLaid_51 : decode cX7_quarrelsLaid 51 = .ok (.isub, 1) := by decide +kernel
theorem dX7_quarrelsLaid_52 : decode cX7_quarrelsLaid 52 = .ok (.aload_n 0, 1) := by decide +kernel
theorem dX7_quarrelsLaid_53 : decode cX7_quarrelsLaid 53 = .ok (.getfield 29, 3) := by decide +kernel
theorem dX7_quarrelsLaid_56 : decode cX7_quarrelsLaid 56 = .ok (.iload 5, 2) := by decide +kernel
theorem dX7_quarrelsLaid_58 : decode cX7_quarrelsLaid 58 = .ok (.iload_n 3, 1) := by decide +kernel
theorem dX7_quarrelsLaid_59 : decode cX7_quarrelsLaid 59 = .ok (.iadd, 1) := by decide +kernel
theorem dX7_quarrelsLaid_60 : decode cX7_quarrelsLaid 60 = .ok (.iaload, 1) := by decide +kernel
theorem dX7_quarrelsLaid_61 : decode cX7_quarrelsLaid 61 = .ok (.aload_n 0, 1) := by decide +kernel
theorem dX7_quarrelsLaid_62 : decode cX7_quarrelsLaid 62 = .ok (.getfield 29, 3) := by decide +kernel
theorem dX7_quarrelsLaid_65 : decode cX7_quarrelsLaid 65 = .ok (.iload 5, 2) := by decide +kernel
theorem dX7_quarrelsLaid_67 : decode cX7_quarrelsLaid 67 = .ok (.iaload, 1) := by decide +kernel
theorem dX7_quarrelsLaid_68 : decode cX7_quarrelsLaid 68 = .ok (.isub, 1) := by decide +kernel
theorem dX7_quarrelsLaid_69 : decode cX7_quarrelsLaid 69 = .ok (.if_icmp .ne 7, 3) := by decide +kernel
theorem dX7_quarrelsLaid_72 : decode cX7_quarrelsLaid 72 = .ok (.iconst 1, 1) := by decide +kernel
theorem dX7_quarrelsLaid_73 : decode cX7_quarrelsLaid 73 = .ok (.goto 4, 3) := by decide +kernel
theorem dX7_quarrelsLaid_76 : decode cX7_quarrelsLaid 76 = .ok (.iconst 0, 1) := by decide +kernel
theorem dX7_quarrelsLaid_77 : decode cX7_quarrelsLaid 77 = .ok (.iadd, 1) := by decide +kernel
theorem dX7_quarrelsLaid_78 : decode cX7_quarrelsLaid 78 = .ok (.istore_n 2, 1) := by decide +kernel
theorem dX7_quarrelsLaid_79 : decode cX7_quarrelsLaid 79 = .ok (.iinc 5 1, 3) := by decide +kernel
theorem dX7_quarrelsLaid_82 : decode cX7_quarrelsLaid 82 = .ok (.goto (-56), 3) := by decide +kernel
theorem dX7_quarrelsLaid_85 : decode cX7_quarrelsLaid 85 = .ok (.iinc 4 1, 3) := by decide +kernel
theorem dX7_quarrelsLaid_88 : decode cX7_quarrelsLaid 88 = .ok (.goto (-76), 3) := by decide +kernel
theorem dX7_quarrelsLaid_91 : decode cX7_quarrelsLaid 91 = .ok (.iinc 3 1, 3) := by decide +kernel
theorem dX7_quarrelsLaid_94 : decode cX7_quarrelsLaid 94 = .ok (.goto (-90), 3) := by decide +kernel
theorem dX7_quarrelsLaid_97 : decode cX7_quarrelsLaid 97 = .ok (.iload_n 2, 1) := by decide +kernel
theorem dX7_quarrelsLaid_98 : decode cX7_quarrelsLaid 98 = .ok (.ireturn, 1) := by decide +kernel
theorem dX7_nearly_0 : decode cX7_nearly 0 = .ok (.iload_n 1, 1) := by decide +kernel
theorem dX7_nearly_1 : decode cX7_nearly 1 = .ok (.i2l, 1) := by decide +kernel
theorem dX7_nearly_2 : decode cX7_nearly 2 = .ok (.lconst 1, 1) := by decide +kernel
theorem dX7_nearly_3 : decode cX7_nearly 3 = .ok (.ldc2_w 130, 3) := by decide +kernel
theorem dX7_nearly_6 : decode cX7_nearly 6 = .ok (.invokestatic 46, 3) := by decide +kernel
theorem dX7_nearly_9 : decode cX7_nearly 9 = .ok (.ifCond .eq 7, 3) := by decide +kernel
theorem dX7_nearly_12 : decode cX7_nearly 12 = .ok (.iload_n 2, 1) := by decide +kernel
theorem dX7_nearly_13 : decode cX7_nearly 13 = .ok (.ifCond .ge 5, 3) := by decide +kernel
theorem dX7_nearly_16 : decode cX7_nearly 16 = .ok (.iconst (-1), 1) := by decide +kernel
theorem dX7_nearly_17 : decode cX7_nearly 17 = .ok (.ireturn, 1) := by decide +kernel
theorem dX7_nearly_18 : decode cX7_nearly 18 = .ok (.iconst 0, 1) := by decide +kernel
theorem dX7_nearly_19 : decode cX7_nearly 19 = .ok (.istore_n 3, 1) := by decide +kernel
theorem dX7_nearly_20 : decode cX7_nearly 20 = .ok (.iconst 1, 1) := by decide +kernel
theorem dX7_nearly_21 : decode cX7_nearly 21 = .ok (.istore 4, 2) := by decide +kernel
theorem dX7_nearly_23 : decode cX7_nearly 23 = .ok (.iconst 0, 1) := by decide +kernel
theorem dX7_nearly_24 : decode cX7_nearly 24 = .ok (.istore 5, 2) := by decide +kernel
theorem dX7_nearly_26 : decode cX7_nearly 26 = .ok (.iload 5, 2) := by decide +kernel
theorem dX7_nearly_28 : decode cX7_nearly 28 = .ok (.iload_n 1, 1) := by decide +kernel
theorem dX7_nearly_29 : decode cX7_nearly 29 = .ok (.if_icmp .ge 15, 3) := by decide +kernel
theorem dX7_nearly_32 : decode cX7_nearly 32 = .ok (.iload 4, 2) := by decide +kernel
theorem dX7_nearly_34 : decode cX7_nearly 34 = .ok (.iload_n 1, 1) := by decide +kernel
theorem dX7_nearly_35 : decode cX7_nearly 35 = .ok (.imul, 1) := by decide +kernel
theorem dX7_nearly_36 : decode cX7_nearly 36 = .ok (.istore 4, 2) := by decide +kernel
theorem dX7_nearly_38 : decode cX7_nearly 38 = .ok (.iinc 5 1, 3) := by decide +kernel
theorem dX7_nearly_41 : decode cX7_nearly 41 = .ok (.goto (-15), 3) := by decide +kernel
theorem dX7_nearly_44 : decode cX7_nearly 44 = .ok (.iconst 0, 1) := by decide +kernel
theorem dX7_nearly_45 : decode cX7_nearly 45 = .ok (.istore 5, 2) := by decide +kernel
theorem dX7_nearly_47 : decode cX7_nearly 47 = .ok (.iload 5, 2) := by decide +kernel
theorem dX7_nearly_49 : decode cX7_nearly 49 = .ok (.iload 4, 2) := by decide +kernel
theorem dX7_nearly_51 : decode cX7_nearly 51 = .ok (.if_icmp .ge 91, 3) := by decide +kernel
theorem dX7_nearly_54 : decode cX7_nearly 54 = .ok (.iload 5, 2) := by decide +kernel
theorem dX7_nearly_56 : decode cX7_nearly 56 = .ok (.istore 6, 2) := by decide +kernel
theorem dX7_nearly_58 : decode cX7_nearly 58 = .ok (.iconst 1, 1) := by decide +kernel
theorem dX7_nearly_59 : decode cX7_nearly 59 = .ok (.istore 7, 2) := by decide +kernel
theorem dX7_nearly_61 : decode cX7_nearly 61 = .ok (.iconst 0, 1) := by decide +kernel
theorem dX7_nearly_62 : decode cX7_nearly 62 = .ok (.istore 8, 2) := by decide +kernel
theorem dX7_nearly_64 : decode cX7_nearly 64 = .ok (.iload 8, 2) := by decide +kernel
theorem dX7_nearly_66 : decode cX7_nearly 66 = .ok (.iload_n 1, 1) := by decide +kernel
theorem dX7_nearly_67 : decode cX7_nearly 67 = .ok (.if_icmp .ge 47, 3) := by decide +kernel
theorem dX7_nearly_70 : decode cX7_nearly 70 = .ok (.aload_n 0, 1) := by decide +kernel
theorem dX7_nearly_71 : decode cX7_nearly 71 = .ok (.getfield 29, 3) := by decide +kernel
theorem dX7_nearly_74 : decode cX7_nearly 74 = .ok (.iload 8, 2) := by decide +kernel
theorem dX7_nearly_76 : decode cX7_nearly 76 = .ok (.iload 6, 2) := by decide +kernel
theorem dX7_nearly_78 : decode cX7_nearly 78 = .ok (.iload_n 1, 1) := by decide +kernel
theorem dX7_nearly_79 : decode cX7_nearly 79 = .ok (.irem, 1) := by decide +kernel
theorem dX7_nearly_80 : decode cX7_nearly 80 = .ok (.iastore, 1) := by decide +kernel
theorem dX7_nearly_81 : decode cX7_nearly 81 = .ok (.iload 6, 2) := by decide +kernel
theorem dX7_nearly_83 : decode cX7_nearly 83 = .ok (.iload_n 1, 1) := by decide +kernel
theorem dX7_nearly_84 : decode cX7_nearly 84 = .ok (.idiv, 1) := by decide +kernel
theorem dX7_nearly_85 : decode cX7_nearly 85 = .ok (.istore 6, 2) := by decide +kernel
theorem dX7_nearly_87 : decode cX7_nearly 87 = .ok (.iload 7, 2) := by decide +kernel
theorem dX7_nearly_89 : decode cX7_nearly 89 = .ok (.ifCond .eq 16, 3) := by decide +kernel
theorem dX7_nearly_92 : decode cX7_nearly 92 = .ok (.aload_n 0, 1) := by decide +kernel
theorem dX7_nearly_93 : decode cX7_nearly 93 = .ok (.iload 8, 2) := by decide +kernel
theorem dX7_nearly_95 : decode cX7_nearly 95 = .ok (.invokevirtual 109, 3) := by decide +kernel
theorem dX7_nearly_98 : decode cX7_nearly 98 = .ok (.ifCond .eq 7, 3) := by decide +kernel
theorem dX7_nearly_101 : decode cX7_nearly 101 = .ok (.iconst 1, 1) := by decide +kernel
theorem dX7_nearly_102 : decode cX7_nearly 102 = .ok (.goto 4, 3) := by decide +kernel
theorem dX7_nearly_105 : decode cX7_nearly 105 = .ok (.iconst 0, 1) := by decide +kernel
theorem dX7_nearly_106 : decode cX7_nearly 106 = .ok (.istore 7, 2) := by decide +kernel
theorem dX7_nearly_108 : decode cX7_nearly 108 = .ok (.iinc 8 1, 3) := by decide +kernel
theorem dX7_nearly_111 : decode cX7_nearly 111 = .ok (.goto (-47), 3) := by decide +kernel
theorem dX7_nearly_114 : decode cX7_nearly 114 = .ok (.iload_n 3, 1) := by decide +kernel
theorem dX7_nearly_115 : decode cX7_nearly 115 = .ok (.iload 7, 2) := by decide +kernel
theorem dX7_nearly_117 : decode cX7_nearly 117 = .ok (.ifCond .eq 16, 3) := by decide +kernel
theorem dX7_nearly_120 : decode cX7_nearly 120 = .ok (.aload_n 0, 1) := by decide +kernel
theorem dX7_nearly_121 : decode cX7_nearly 121 = .ok (.iload_n 1, 1) := by decide +kernel
theorem dX7_nearly_122 : decode cX7_nearly 122 = .ok (.invokevirtual 132, 3) := by decide +kernel
theorem dX7_nearly_125 : decode cX7_nearly 125 = .ok (.iload_n 2, 1) := by decide +kernel
theorem dX7_nearly_126 : decode cX7_nearly 126 = .ok (.if_icmp .ne 7, 3) := by decide +kernel
theorem dX7_nearly_129 : decode cX7_nearly 129 = .ok (.iconst 1, 1) := by decide +kernel
theorem dX7_nearly_130 : decode cX7_nearly 130 = .ok (.goto 4, 3) := by decide +kernel
theorem dX7_nearly_133 : decode cX7_nearly 133 = .ok (.iconst 0, 1) := by decide +kernel
theorem dX7_nearly_134 : decode cX7_nearly 134 = .ok (.iadd, 1) := by decide +kernel
theorem dX7_nearly_135 : decode cX7_nearly 135 = .ok (.istore_n 3, 1) := by decide +kernel
theorem dX7_nearly_136 : decode cX7_nearly 136 = .ok (.iinc 5 1, 3) := by decide +kernel
theorem dX7_nearly_139 : decode cX7_nearly 139 = .ok (.goto (-92), 3) := by decide +kernel
theorem dX7_nearly_142 : decode cX7_nearly 142 = .ok (.iload_n 3, 1) := by decide +kernel
theorem dX7_nearly_143 : decode cX7_nearly 143 = .ok (.ireturn, 1) := by decide +kernel
theorem dX7_rows_0 : decode cX7_rows 0 = .ok (.iload_n 1, 1) := by decide +kernel
theorem dX7_rows_1 : decode cX7_rows 1 = .ok (.i2l, 1) := by decide +kernel
theorem dX7_rows_2 : decode cX7_rows 2 = .ok (.lconst 1, 1) := by decide +kernel
theorem dX7_rows_3 : decode cX7_rows 3 = .ok (.ldc2_w 58, 3) := by decide +kernel
theorem dX7_rows_6 : decode cX7_rows 6 = .ok (.invokestatic 46, 3) := by decide +kernel
theorem dX7_rows_9 : decode cX7_rows 9 = .ok (.ifCond .eq 39, 3) := by decide +kernel
theorem dX7_rows_12 : decode cX7_rows 12 = .ok (.iload_n 2, 1) := by decide +kernel
theorem dX7_rows_13 : decode cX7_rows 13 = .ok (.i2l, 1) := by decide +kernel
theorem dX7_rows_14 : decode cX7_rows 14 = .ok (.lconst 1, 1) := by decide +kernel
theorem dX7_rows_15 : decode cX7_rows 15 = .ok (.ldc2_w 130, 3) := by decide +kernel
theorem dX7_rows_18 : decode cX7_rows 18 = .ok (.invokestatic 46, 3) := by decide +kernel
theorem dX7_rows_21 : decode cX7_rows 21 = .ok (.ifCond .eq 27, 3) := by decide +kernel
theorem dX7_rows_24 : decode cX7_rows 24 = .ok (.iload_n 3, 1) := by decide +kernel
theorem dX7_rows_25 : decode cX7_rows 25 = .ok (.i2l, 1) := by decide +kernel
theorem dX7_rows_26 : decode cX7_rows 26 = .ok (.lconst 0, 1) := by decide +kernel
theorem dX7_rows_27 : decode cX7_rows 27 = .ok (.lconst 1, 1) := by decide +kernel
theorem dX7_rows_28 : decode cX7_rows 28 = .ok (.invokestatic 46, 3) := by decide +kernel
theorem dX7_rows_31 : decode cX7_rows 31 = .ok (.ifCond .eq 17, 3) := by decide +kernel
theorem dX7_rows_34 : decode cX7_rows 34 = .ok (.iload 4, 2) := by decide +kernel
theorem dX7_rows_36 : decode cX7_rows 36 = .ok (.iconst (-1), 1) := by decide +kernel
theorem dX7_rows_37 : decode cX7_rows 37 = .ok (.if_icmp .lt 11, 3) := by decide +kernel
theorem dX7_rows_40 : decode cX7_rows 40 = .ok (.iload 5, 2) := by decide +kernel
theorem dX7_rows_42 : decode cX7_rows 42 = .ok (.invokestatic 50, 3) := by decide +kernel
theorem dX7_rows_45 : decode cX7_rows 45 = .ok (.ifCond .ne 5, 3) := by decide +kernel
theorem dX7_rows_48 : decode cX7_rows 48 = .ok (.iconst (-1), 1) := by decide +kernel
theorem dX7_rows_49 : decode cX7_rows 49 = .ok (.ireturn, 1) := by decide +kernel
theorem dX7_rows_50 : decode cX7_rows 50 = .ok (.aload_n 0, 1) := by decide +kernel
theorem dX7_rows_51 : decode cX7_rows 51 = .ok (.iload 5, 2) := by decide +kernel
theorem dX7_rows_53 : decode cX7_rows 53 = .ok (.iload_n 1, 1) := by decide +kernel
theorem dX7_rows_54 : decode cX7_rows 54 = .ok (.iload_n 2, 1) := by decide +kernel
theorem dX7_rows_55 : decode cX7_rows 55 = .ok (.aload_n 0, 1) := by decide +kernel
theorem dX7_rows_56 : decode cX7_rows 56 = .ok (.iload_n 1, 1) := by decide +kernel
theorem dX7_rows_57 : decode cX7_rows 57 = .ok (.iload_n 2, 1) := by decide +kernel
theorem dX7_rows_58 : decode cX7_rows 58 = .ok (.iload_n 3, 1) := by decide +kernel
theorem dX7_rows_59 : decode cX7_rows 59 = .ok (.iconst 0, 1) := by decide +kernel
theorem dX7_rows_60 : decode cX7_rows 60 = .ok (.iconst (-1), 1) := by decide +kernel
theorem dX7_rows_61 : decode cX7_rows 61 = .ok (.iload 4, 2) := by decide +kernel
theorem dX7_rows_63 : decode cX7_rows 63 = .ok (.invokevirtual 122, 3) := by decide +kernel
theorem dX7_rows_66 : decode cX7_rows 66 = .ok (.iload 4, 2) := by decide +kernel
theorem dX7_rows_68 : decode cX7_rows 68 = .ok (.invokevirtual 126, 3) := by decide +kernel
theorem dX7_rows_71 : decode cX7_rows 71 = .ok (.ireturn, 1) := by decide +kernel
theorem dX7_longest_0 : decode cX7_longest 0 = .ok (.iload_n 1, 1) := by decide +kernel
theorem dX7_longest_1 : decode cX7_longest 1 = .ok (.i2l, 1) := by decide +kernel
theorem dX7_longest_2 : decode cX7_longest 2 = .ok (.lconst 1, 1) := by decide +kernel
theorem dX7_longest_3 : decode cX7_longest 3 = .ok (.ldc2_w 136, 3) := by decide +kernel
theorem dX7_longest_6 : decode cX7_longest 6 = .ok (.invokestatic 46, 3) := by decide +kernel
theorem dX7_longest_9 : decode cX7_longest 9 = .ok (.ifCond .eq 13, 3) := by decide +kernel
theorem dX7_longest_12 : decode cX7_longest 12 = .ok (.iload_n 2, 1) := by decide +kernel
theorem dX7_longest_13 : decode cX7_longest 13 = .ok (.i2l, 1) := by decide +kernel
theorem dX7_longest_14 : decode cX7_longest 14 = .ok (.lconst 0, 1) := by decide +kernel
theorem dX7_longest_15 : decode cX7_longest 15 = .ok (.lconst 1, 1) := by decide +kernel
theorem dX7_longest_16 : decode cX7_longest 16 = .ok (.invokestatic 46, 3) := by decide +kernel
theorem dX7_longest_19 : decode cX7_longest 19 = .ok (.ifCond .ne 5, 3) := by decide +kernel
theorem dX7_longest_22 : decode cX7_longest 22 = .ok (.iconst (-1), 1) := by decide +kernel
theorem dX7_longest_23 : decode cX7_longest 23 = .ok (.ireturn, 1) := by decide +kernel
theorem dX7_longest_24 : decode cX7_longest 24 = .ok (.iconst 1, 1) := by decide +kernel
theorem dX7_longest_25 : decode cX7_longest 25 = .ok (.istore_n 3, 1) := by decide +kernel
theorem dX7_longest_26 : decode cX7_longest 26 = .ok (.iload_n 3, 1) := by decide +kernel
theorem dX7_longest_27 : decode cX7_longest 27 = .ok (.bipush 12, 2) := by decide +kernel
theorem dX7_longest_29 : decode cX7_longest 29 = .ok (.if_icmp .ge 21, 3) := by decide +kernel
theorem dX7_longest_32 : decode cX7_longest 32 = .ok (.aload_n 0, 1) := by decide +kernel
theorem dX7_longest_33 : decode cX7_longest 33 = .ok (.iload_n 3, 1) := by decide +kernel
theorem dX7_longest_34 : decode cX7_longest 34 = .ok (.iconst 1, 1) := by decide +kernel
theorem dX7_longest_35 : decode cX7_longest 35 = .ok (.iadd, 1) := by decide +kernel
theorem dX7_longest_36 : decode cX7_longest 36 = .ok (.iload_n 1, 1) := by decide +kernel
theorem dX7_longest_37 : decode cX7_longest 37 = .ok (.iload_n 2, 1) := by decide +kernel
theorem dX7_longest_38 : decode cX7_longest 38 = .ok (.invokevirtual 138, 3) := by decide +kernel
theorem dX7_longest_41 : decode cX7_longest 41 = .ok (.ifCond .eq 9, 3) := by decide +kernel
theorem dX7_longest_44 : decode cX7_longest 44 = .ok (.iinc 3 1, 3) := by decide +kernel
theorem dX7_longest_47 : decode cX7_longest 47 = .ok (.goto (-21), 3) := by decide +kernel
theorem dX7_longest_50 : decode cX7_longest 50 = .ok (.iload_n 3, 1) := by decide +kernel
theorem dX7_longest_51 : decode cX7_longest 51 = .ok (.ireturn, 1) := by decide +kernel
theorem dX7_there_0 : decode cX7_there 0 = .ok (.aload_n 0, 1) := by decide +kernel
theorem dX7_there_1 : decode cX7_there 1 = .ok (.iload_n 1, 1) := by decide +kernel
theorem dX7_there_2 : decode cX7_there 2 = .ok (.iload_n 2, 1) := by decide +kernel
theorem dX7_there_3 : decode cX7_there 3 = .ok (.iload_n 3, 1) := by decide +kernel
theorem dX7_there_4 : decode cX7_there 4 = .ok (.iconst 0, 1) := by decide +kernel
theorem dX7_there_5 : decode cX7_there 5 = .ok (.iconst (-1), 1) := by decide +kernel
theorem dX7_there_6 : decode cX7_there 6 = .ok (.iconst 0, 1) := by decide +kernel
theorem dX7_there_7 : decode cX7_there 7 = .ok (.invokevirtual 122, 3) := by decide +kernel
theorem dX7_there_10 : decode cX7_there 10 = .ok (.pop, 1) := by decide +kernel
theorem dX7_there_11 : decode cX7_there 11 = .ok (.aload_n 0, 1) := by decide +kernel
theorem dX7_there_12 : decode cX7_there 12 = .ok (.getfield 115, 3) := by decide +kernel
theorem dX7_there_15 : decode cX7_there 15 = .ok (.iconst 1, 1) := by decide +kernel
theorem dX7_there_16 : decode cX7_there 16 = .ok (.if_icmp .ne 7, 3) := by decide +kernel
theorem dX7_there_19 : decode cX7_there 19 = .ok (.iconst 1, 1) := by decide +kernel
theorem dX7_there_20 : decode cX7_there 20 = .ok (.goto 4, 3) := by decide +kernel
theorem dX7_there_23 : decode cX7_there 23 = .ok (.iconst 0, 1) := by decide +kernel
theorem dX7_there_24 : decode cX7_there 24 = .ok (.ireturn, 1) := by decide +kernel
theorem dX7_isPrime_0 : decode cX7_isPrime 0 = .ok (.iload_n 0, 1) := by decide +kernel
theorem dX7_isPrime_1 : decode cX7_isPrime 1 = .ok (.iconst 3, 1) := by decide +kernel
theorem dX7_isPrime_2 : decode cX7_isPrime 2 = .ok (.if_icmp .eq 26, 3) := by decide +kernel
theorem dX7_isPrime_5 : decode cX7_isPrime 5 = .ok (.iload_n 0, 1) := by decide +kernel
theorem dX7_isPrime_6 : decode cX7_isPrime 6 = .ok (.iconst 5, 1) := by decide +kernel
theorem dX7_isPrime_7 : decode cX7_isPrime 7 = .ok (.if_icmp .eq 21, 3) := by decide +kernel
theorem dX7_isPrime_10 : decode cX7_isPrime 10 = .ok (.iload_n 0, 1) := by decide +kernel
theorem dX7_isPrime_11 : decode cX7_isPrime 11 = .ok (.bipush 7, 2) := by decide +kernel
theorem dX7_isPrime_13 : decode cX7_isPrime 13 = .ok (.if_icmp .eq 15, 3) := by decide +kernel
theorem dX7_isPrime_16 : decode cX7_isPrime 16 = .ok (.iload_n 0, 1) := by decide +kernel
theorem dX7_isPrime_17 : decode cX7_isPrime 17 = .ok (.bipush 11, 2) := by decide +kernel
theorem dX7_isPrime_19 : decode cX7_isPrime 19 = .ok (.if_icmp .eq 9, 3) := by decide +kernel
theorem dX7_isPrime_22 : decode cX7_isPrime 22 = .ok (.iload_n 0, 1) := by decide +kernel
theorem dX7_isPrime_23 : decode cX7_isPrime 23 = .ok (.bipush 13, 2) := by decide +kernel
theorem dX7_isPrime_25 : decode cX7_isPrime 25 = .ok (.if_icmp .ne 7, 3) := by decide +kernel
theorem dX7_isPrime_28 : decode cX7_isPrime 28 = .ok (.iconst 1, 1) := by decide +kernel
theorem dX7_isPrime_29 : decode cX7_isPrime 29 = .ok (.goto 4, 3) := by decide +kernel
theorem dX7_isPrime_32 : decode cX7_isPrime 32 = .ok (.iconst 0, 1) := by decide +kernel
theorem dX7_isPrime_33 : decode cX7_isPrime 33 = .ok (.ireturn, 1) := by decide +kernel
theorem dX7_power_0 : decode cX7_power 0 = .ok (.iconst 1, 1) := by decide +kernel
theorem dX7_power_1 : decode cX7_power 1 = .ok (.istore_n 3, 1) := by decide +kernel
theorem dX7_power_2 : decode cX7_power 2 = .ok (.iconst 0, 1) := by decide +kernel
theorem dX7_power_3 : decode cX7_power 3 = .ok (.istore 4, 2) := by decide +kernel
theorem dX7_power_5 : decode cX7_power 5 = .ok (.iload 4, 2) := by decide +kernel
theorem dX7_power_7 : decode cX7_power 7 = .ok (.iload_n 2, 1) := by decide +kernel
theorem dX7_power_8 : decode cX7_power 8 = .ok (.if_icmp .ge 15, 3) := by decide +kernel
theorem dX7_power_11 : decode cX7_power 11 = .ok (.iload_n 3, 1) := by decide +kernel
theorem dX7_power_12 : decode cX7_power 12 = .ok (.iload_n 1, 1) := by decide +kernel
theorem dX7_power_13 : decode cX7_power 13 = .ok (.imul, 1) := by decide +kernel
theorem dX7_power_14 : decode cX7_power 14 = .ok (.iload_n 0, 1) := by decide +kernel
theorem dX7_power_15 : decode cX7_power 15 = .ok (.irem, 1) := by decide +kernel
theorem dX7_power_16 : decode cX7_power 16 = .ok (.istore_n 3, 1) := by decide +kernel
theorem dX7_power_17 : decode cX7_power 17 = .ok (.iinc 4 1, 3) := by decide +kernel
theorem dX7_power_20 : decode cX7_power 20 = .ok (.goto (-15), 3) := by decide +kernel
theorem dX7_power_23 : decode cX7_power 23 = .ok (.iload_n 3, 1) := by decide +kernel
theorem dX7_power_24 : decode cX7_power 24 = .ok (.ireturn, 1) := by decide +kernel
theorem dX7_made_0 : decode cX7_made 0 = .ok (.iconst 0, 1) := by decide +kernel
theorem dX7_made_1 : decode cX7_made 1 = .ok (.istore_n 3, 1) := by decide +kernel
theorem dX7_made_2 : decode cX7_made 2 = .ok (.iload_n 3, 1) := by decide +kernel
theorem dX7_made_3 : decode cX7_made 3 = .ok (.iload_n 2, 1) := by decide +kernel
theorem dX7_made_4 : decode cX7_made 4 = .ok (.if_icmp .ge 38, 3) := by decide +kernel
theorem dX7_made_7 : decode cX7_made 7 = .ok (.aload_n 0, 1) := by decide +kernel
theorem dX7_made_8 : decode cX7_made 8 = .ok (.getfield 29, 3) := by decide +kernel
theorem dX7_made_11 : decode cX7_made 11 = .ok (.iload_n 3, 1) := by decide +kernel
theorem dX7_made_12 : decode cX7_made 12 = .ok (.iaload, 1) := by decide +kernel
theorem dX7_made_13 : decode cX7_made 13 = .ok (.i2l, 1) := by decide +kernel
theorem dX7_made_14 : decode cX7_made 14 = .ok (.lconst 0, 1) := by decide +kernel
theorem dX7_made_15 : decode cX7_made 15 = .ok (.iload_n 2, 1) := by decide +kernel
theorem dX7_made_16 : decode cX7_made 16 = .ok (.iconst 1, 1) := by decide +kernel
theorem dX7_made_17 : decode cX7_made 17 = .ok (.isub, 1) := by decide +kernel
theorem dX7_made_18 : decode cX7_made 18 = .ok (.i2l, 1) := by decide +kernel
theorem dX7_made_19 : decode cX7_made 19 = .ok (.invokestatic 46, 3) := by decide +kernel
theorem dX7_made_22 : decode cX7_made 22 = .ok (.ifCond .eq 11, 3) := by decide +kernel
theorem dX7_made_25 : decode cX7_made 25 = .ok (.aload_n 0, 1) := by decide +kernel
theorem dX7_made_26 : decode cX7_made 26 = .ok (.iload_n 3, 1) := by decide +kernel
theorem dX7_made_27 : decode cX7_made 27 = .ok (.invokevirtual 109, 3) := by decide +kernel
theorem dX7_made_30 : decode cX7_made 30 = .ok (.ifCond .ne 6, 3) := by decide +kernel
theorem dX7_made_33 : decode cX7_made 33 = .ok (.bipush (-2), 2) := by decide +kernel
theorem dX7_made_35 : decode cX7_made 35 = .ok (.ireturn, 1) := by decide +kernel
theorem dX7_made_36 : decode cX7_made 36 = .ok (.iinc 3 1, 3) := by decide +kernel
theorem dX7_made_39 : decode cX7_made 39 = .ok (.goto (-37), 3) := by decide +kernel
theorem dX7_made_42 : decode cX7_made 42 = .ok (.aload_n 0, 1) := by decide +kernel
theorem dX7_made_43 : decode cX7_made 43 = .ok (.getfield 7, 3) := by decide +kernel
theorem dX7_made_46 : decode cX7_made 46 = .ok (.iload_n 1, 1) := by decide +kernel
theorem dX7_made_47 : decode cX7_made 47 = .ok (.iload_n 2, 1) := by decide +kernel
theorem dX7_made_48 : decode cX7_made 48 = .ok (.iastore, 1) := by decide +kernel
theorem dX7_made_49 : decode cX7_made 49 = .ok (.aload_n 0, 1) := by decide +kernel
theorem dX7_made_50 : decode cX7_made 50 = .ok (.getfield 13, 3) := by decide +kernel
theorem dX7_made_53 : decode cX7_made 53 = .ok (.iload_n 1, 1) := by decide +kernel
theorem dX7_made_54 : decode cX7_made 54 = .ok (.iload_n 2, 1) := by decide +kernel
theorem dX7_made_55 : decode cX7_made 55 = .ok (.iastore, 1) := by decide +kernel
theorem dX7_made_56 : decode cX7_made 56 = .ok (.iconst 0, 1) := by decide +kernel
theorem dX7_made_57 : decode cX7_made 57 = .ok (.istore_n 3, 1) := by decide +kernel
theorem dX7_made_58 : decode cX7_made 58 = .ok (.iload_n 3, 1) := by decide +kernel
theorem dX7_made_59 : decode cX7_made 59 = .ok (.iload_n 2, 1) := by decide +kernel
theorem dX7_made_60 : decode cX7_made 60 = .ok (.if_icmp .ge 26, 3) := by decide +kernel
theorem dX7_made_63 : decode cX7_made 63 = .ok (.aload_n 0, 1) := by decide +kernel
theorem dX7_made_64 : decode cX7_made 64 = .ok (.getfield 16, 3) := by decide +kernel
theorem dX7_made_67 : decode cX7_made 67 = .ok (.bipush 12, 2) := by decide +kernel
theorem dX7_made_69 : decode cX7_made 69 = .ok (.iload_n 1, 1) := by decide +kernel
theorem dX7_made_70 : decode cX7_made 70 = .ok (.imul, 1) := by decide +kernel
theorem dX7_made_71 : decode cX7_made 71 = .ok (.iload_n 3, 1) := by decide +kernel
theorem dX7_made_72 : decode cX7_made 72 = .ok (.iadd, 1) := by decide +kernel
theorem dX7_made_73 : decode cX7_made 73 = .ok (.aload_n 0, 1) := by decide +kernel
theorem dX7_made_74 : decode cX7_made 74 = .ok (.getfield 29, 3) := by decide +kernel
theorem dX7_made_77 : decode cX7_made 77 = .ok (.iload_n 3, 1) := by decide +kernel
theorem dX7_made_78 : decode cX7_made 78 = .ok (.iaload, 1) := by decide +kernel
theorem dX7_made_79 : decode cX7_made 79 = .ok (.iastore, 1) := by decide +kernel
theorem dX7_made_80 : decode cX7_made 80 = .ok (.iinc 3 1, 3) := by decide +kernel
theorem dX7_made_83 : decode cX7_made 83 = .ok (.goto (-25), 3) := by decide +kernel
theorem dX7_made_86 : decode cX7_made 86 = .ok (.iload_n 2, 1) := by decide +kernel
theorem dX7_made_87 : decode cX7_made 87 = .ok (.ireturn, 1) := by decide +kernel
theorem dX7_powers_0 : decode cX7_powers 0 = .ok (.iload_n 1, 1) := by decide +kernel
theorem dX7_powers_1 : decode cX7_powers 1 = .ok (.invokestatic 141, 3) := by decide +kernel
theorem dX7_powers_4 : decode cX7_powers 4 = .ok (.ifCond .eq 39, 3) := by decide +kernel
theorem dX7_powers_7 : decode cX7_powers 7 = .ok (.iload_n 2, 1) := by decide +kernel
theorem dX7_powers_8 : decode cX7_powers 8 = .ok (.i2l, 1) := by decide +kernel
theorem dX7_powers_9 : decode cX7_powers 9 = .ok (.ldc2_w 97, 3) := by decide +kernel
theorem dX7_powers_12 : decode cX7_powers 12 = .ok (.iload_n 1, 1) := by decide +kernel
theorem dX7_powers_13 : decode cX7_powers 13 = .ok (.iconst 1, 1) := by decide +kernel
theorem dX7_powers_14 : decode cX7_powers 14 = .ok (.isub, 1) := by decide +kernel
theorem dX7_powers_15 : decode cX7_powers 15 = .ok (.i2l, 1) := by decide +kernel
theorem dX7_powers_16 : decode cX7_powers 16 = .ok (.invokestatic 46, 3) := by decide +kernel
theorem dX7_powers_19 : decode cX7_powers 19 = .ok (.ifCond .eq 24, 3) := by decide +kernel
theorem dX7_powers_22 : decode cX7_powers 22 = .ok (.iload_n 3, 1) := by decide +kernel
theorem dX7_powers_23 : decode cX7_powers 23 = .ok (.i2l, 1) := by decide +kernel
theorem dX7_powers_24 : decode cX7_powers 24 = .ok (.lconst 0, 1) := by decide +kernel
theorem dX7_powers_25 : decode cX7_powers 25 = .ok (.iload_n 1, 1) := by decide +kernel
theorem dX7_powers_26 : decode cX7_powers 26 = .ok (.iconst 2, 1) := by decide +kernel
theorem dX7_powers_27 : decode cX7_powers 27 = .ok (.isub, 1) := by decide +kernel
theorem dX7_powers_28 : decode cX7_powers 28 = .ok (.i2l, 1) := by decide +kernel
theorem dX7_powers_29 : decode cX7_powers 29 = .ok (.invokestatic 46, 3) := by decide +kernel
theorem dX7_powers_32 : decode cX7_powers 32 = .ok (.ifCond .eq 11, 3) := by decide +kernel
theorem dX7_powers_35 : decode cX7_powers 35 = .ok (.iload 4, 2) := by decide +kernel
theorem dX7_powers_37 : decode cX7_powers 37 = .ok (.invokestatic 50, 3) := by decide +kernel
theorem dX7_powers_40 : decode cX7_powers 40 = .ok (.ifCond .ne 5, 3) := by decide +kernel
theorem dX7_powers_43 : decode cX7_powers 43 = .ok (.iconst (-1), 1) := by decide +kernel
theorem dX7_powers_44 : decode cX7_powers 44 = .ok (.ireturn, 1) := by decide +kernel
theorem dX7_powers_45 : decode cX7_powers 45 = .ok (.iconst 0, 1) := by decide +kernel
theorem dX7_powers_46 : decode cX7_powers 46 = .ok (.istore 5, 2) := by decide +kernel
theorem dX7_powers_48 : decode cX7_powers 48 = .ok (.iload 5, 2) := by decide +kernel
theorem dX7_powers_50 : decode cX7_powers 50 = .ok (.iload_n 1, 1) := by decide +kernel
theorem dX7_powers_51 : decode cX7_powers 51 = .ok (.iconst 1, 1) := by decide +kernel
theorem dX7_powers_52 : decode cX7_powers 52 = .ok (.isub, 1) := by decide +kernel
theorem dX7_powers_53 : decode cX7_powers 53 = .ok (.if_icmp .ge 27, 3) := by decide +kernel
theorem dX7_powers_56 : decode cX7_powers 56 = .ok (.aload_n 0, 1) := by decide +kernel
theorem dX7_powers_57 : decode cX7_powers 57 = .ok (.getfield 29, 3) := by decide +kernel
theorem dX7_powers_60 : decode cX7_powers 60 = .ok (.iload 5, 2) := by decide +kernel
theorem dX7_powers_62 : decode cX7_powers 62 = .ok (.iload_n 1, 1) := by decide +kernel
theorem dX7_powers_63 : decode cX7_powers 63 = .ok (.iload_n 2, 1) := by decide +kernel
theorem dX7_powers_64 : decode cX7_powers 64 = .ok (.iload 5, 2) := by decide +kernel
theorem dX7_powers_66 : decode cX7_powers 66 = .ok (.iload_n 3, 1) := by decide +kernel
theorem dX7_powers_67 : decode cX7_powers 67 = .ok (.iadd, 1) := by decide +kernel
theorem dX7_powers_68 : decode cX7_powers 68 = .ok (.invokestatic 144, 3) := by decide +kernel
theorem dX7_powers_71 : decode cX7_powers 71 = .ok (.iconst 1, 1) := by decide +kernel
theorem dX7_powers_72 : decode cX7_powers 72 = .ok (.isub, 1) := by decide +kernel
theorem dX7_powers_73 : decode cX7_powers 73 = .ok (.iastore, 1) := by decide +kernel
theorem dX7_powers_74 : decode cX7_powers 74 = .ok (.iinc 5 1, 3) := by decide +kernel
theorem dX7_powers_77 : decode cX7_powers 77 = .ok (.goto (-29), 3) := by decide +kernel
theorem dX7_powers_80 : decode cX7_powers 80 = .ok (.aload_n 0, 1) := by decide +kernel
theorem dX7_powers_81 : decode cX7_powers 81 = .ok (.iload 4, 2) := by decide +kernel
theorem dX7_powers_83 : decode cX7_powers 83 = .ok (.iload_n 1, 1) := by decide +kernel
theorem dX7_powers_84 : decode cX7_powers 84 = .ok (.iconst 1, 1) := by decide +kernel
theorem dX7_powers_85 : decode cX7_powers 85 = .ok (.isub, 1) := by decide +kernel
theorem dX7_powers_86 : decode cX7_powers 86 = .ok (.invokevirtual 148, 3) := by decide +kernel
theorem dX7_powers_89 : decode cX7_powers 89 = .ok (.ireturn, 1) := by decide +kernel
theorem dX7_sums_0 : decode cX7_sums 0 = .ok (.iload_n 1, 1) := by decide +kernel
theorem dX7_sums_1 : decode cX7_sums 1 = .ok (.invokestatic 141, 3) := by decide +kernel
theorem dX7_sums_4 : decode cX7_sums 4 = .ok (.ifCond .eq 46, 3) := by decide +kernel
theorem dX7_sums_7 : decode cX7_sums 7 = .ok (.iload_n 1, 1) := by decide +kernel
theorem dX7_sums_8 : decode cX7_sums 8 = .ok (.iconst 3, 1) := by decide +kernel
theorem dX7_sums_9 : decode cX7_sums 9 = .ok (.if_icmp .eq 41, 3) := by decide +kernel
theorem dX7_sums_12 : decode cX7_sums 12 = .ok (.iload_n 2, 1) := by decide +kernel
theorem dX7_sums_13 : decode cX7_sums 13 = .ok (.i2l, 1) := by decide +kernel
theorem dX7_sums_14 : decode cX7_sums 14 = .ok (.ldc2_w 97, 3) := by decide +kernel
theorem dX7_sums_17 : decode cX7_sums 17 = .ok (.iload_n 1, 1) := by decide +kernel
theorem dX7_sums_18 : decode cX7_sums 18 = .ok (.iconst 1, 1) := by decide +kernel
theorem dX7_sums_19 : decode cX7_sums 19 = .ok (.isub, 1) := by decide +kernel
theorem dX7_sums_20 : decode cX7_sums 20 = .ok (.i2l, 1) := by decide +kernel
theorem dX7_sums_21 : decode cX7_sums 21 = .ok (.invokestatic 46, 3) := by decide +kernel
theorem dX7_sums_24 : decode cX7_sums 24 = .ok (.ifCond .eq 26, 3) := by decide +kernel
theorem dX7_sums_27 : decode cX7_sums 27 = .ok (.iload_n 3, 1) := by decide +kernel
theorem dX7_sums_28 : decode cX7_sums 28 = .ok (.i2l, 1) := by decide +kernel
theorem dX7_sums_29 : decode cX7_sums 29 = .ok (.ldc2_w 97, 3) := by decide +kernel
theorem dX7_sums_32 : decode cX7_sums 32 = .ok (.iload_n 1, 1) := by decide +kernel
theorem dX7_sums_33 : decode cX7_sums 33 = .ok (.iconst 1, 1) := by decide +kernel
theorem dX7_sums_34 : decode cX7_sums 34 = .ok (.isub, 1) := by decide +kernel
theorem dX7_sums_35 : decode cX7_sums 35 = .ok (.i2l, 1) := by decide +kernel
theorem dX7_sums_36 : decode cX7_sums 36 = .ok (.invokestatic 46, 3) := by decide +kernel
theorem dX7_sums_39 : decode cX7_sums 39 = .ok (.ifCond .eq 11, 3) := by decide +kernel
theorem dX7_sums_42 : decode cX7_sums 42 = .ok (.iload 4, 2) := by decide +kernel
theorem dX7_sums_44 : decode cX7_sums 44 = .ok (.invokestatic 50, 3) := by decide +kernel
theorem dX7_sums_47 : decode cX7_sums 47 = .ok (.ifCond .ne 5, 3) := by decide +kernel
theorem dX7_sums_50 : decode cX7_sums 50 = .ok (.iconst (-1), 1) := by decide +kernel
theorem dX7_sums_51 : decode cX7_sums 51 = .ok (.ireturn, 1) := by decide +kernel
theorem dX7_sums_52 : decode cX7_sums 52 = .ok (.iconst 0, 1) := by decide +kernel
theorem dX7_sums_53 : decode cX7_sums 53 = .ok (.istore 5, 2) := by decide +kernel
theorem dX7_sums_55 : decode cX7_sums 55 = .ok (.iload 5, 2) := by decide +kernel
theorem dX7_sums_57 : decode cX7_sums 57 = .ok (.iload_n 1, 1) := by decide +kernel
theorem dX7_sums_58 : decode cX7_sums 58 = .ok (.iconst 2, 1) := by decide +kernel
theorem dX7_sums_59 : decode cX7_sums 59 = .ok (.isub, 1) := by decide +kernel
theorem dX7_sums_60 : decode cX7_sums 60 = .ok (.if_icmp .ge 90, 3) := by decide +kernel
theorem dX7_sums_63 : decode cX7_sums 63 = .ok (.iconst 0, 1) := by decide +kernel
theorem dX7_sums_64 : decode cX7_sums 64 = .ok (.istore 6, 2) := by decide +kernel
theorem dX7_sums_66 : decode cX7_sums 66 = .ok (.iconst 0, 1) := by decide +kernel
theorem dX7_sums_67 : decode cX7_sums 67 = .ok (.istore 7, 2) := by decide +kernel
theorem dX7_sums_69 : decode cX7_sums 69 = .ok (.iload 7, 2) := by decide +kernel
theorem dX7_sums_71 : decode cX7_sums 71 = .ok (.iload_n 1, 1) := by decide +kernel
theorem dX7_sums_72 : decode cX7_sums 72 = .ok (.iconst 2, 1) := by decide +kernel
theorem dX7_sums_73 : decode cX7_sums 73 = .ok (.isub, 1) := by decide +kernel
theorem dX7_sums_74 : decode cX7_sums 74 = .ok (.if_icmp .ge 46, 3) := by decide +kernel
theorem dX7_sums_77 : decode cX7_sums 77 = .ok (.iload_n 1, 1) := by decide +kernel
theorem dX7_sums_78 : decode cX7_sums 78 = .ok (.iload_n 2, 1) := by decide +kernel
theorem dX7_sums_79 : decode cX7_sums 79 = .ok (.iload 5, 2) := by decide +kernel
theorem dX7_sums_81 : decode cX7_sums 81 = .ok (.iconst 1, 1) := by decide +kernel
theorem dX7_sums_82 : decode cX7_sums 82 = .ok (.iadd, 1) := by decide +kernel
theorem dX7_sums_83 : decode cX7_sums 83 = .ok (.invokestatic 144, 3) := by decide +kernel
theorem dX7_sums_86 : decode cX7_sums 86 = .ok (.iload_n 1, 1) := by decide +kernel
theorem dX7_sums_87 : decode cX7_sums 87 = .ok (.iload_n 3, 1) := by decide +kernel
theorem dX7_sums_88 : decode cX7_sums 88 = .ok (.iload 7, 2) := by decide +kernel
theorem dX7_sums_90 : decode cX7_sums 90 = .ok (.iconst 1, 1) := by decide +kernel
theorem dX7_sums_91 : decode cX7_sums 91 = .ok (.iadd, 1) := by decide +kernel
theorem dX7_sums_92 : decode cX7_sums 92 = .ok (.invokestatic 144, 3) := by decide +kernel
theorem dX7_sums_95 : decode cX7_sums 95 = .ok (.iadd, 1) := by decide +kernel
theorem dX7_sums_96 : decode cX7_sums 96 = .ok (.iload_n 1, 1) := by decide +kernel
theorem dX7_sums_97 : decode cX7_sums 97 = .ok (.irem, 1) := by decide +kernel
theorem dX7_sums_98 : decode cX7_sums 98 = .ok (.iconst 1, 1) := by decide +kernel
theorem dX7_sums_99 : decode cX7_sums 99 = .ok (.if_icmp .ne 15, 3) := by decide +kernel
theorem dX7_sums_102 : decode cX7_sums 102 = .ok (.aload_n 0, 1) := by decide +kernel
theorem dX7_sums_103 : decode cX7_sums 103 = .ok (.getfield 29, 3) := by decide +kernel
theorem dX7_sums_106 : decode cX7_sums 106 = .ok (.iload 5, 2) := by decide +kernel
theorem dX7_sums_108 : decode cX7_sums 108 = .ok (.iload 7, 2) := by decide +kernel
theorem dX7_sums_110 : decode cX7_sums 110 = .ok (.iastore, 1) := by decide +kernel
theorem dX7_sums_111 : decode cX7_sums 111 = .ok (.iinc 6 1, 3) := by decide +kernel
theorem dX7_sums_114 : decode cX7_sums 114 = .ok (.iinc 7 1, 3) := by decide +kernel
theorem dX7_sums_117 : decode cX7_sums 117 = .ok (.goto (-48), 3) := by decide +kernel
theorem dX7_sums_120 : decode cX7_sums 120 = .ok (.aload_n 0, 1) := by decide +kernel
theorem dX7_sums_121 : decode cX7_sums 121 = .ok (.getfield 29, 3) := by decide +kernel
theorem dX7_sums_124 : decode cX7_sums 124 = .ok (.iload 5, 2) := by decide +kernel
theorem dX7_sums_126 : decode cX7_sums 126 = .ok (.iload 6, 2) := by decide +kernel
theorem dX7_sums_128 : decode cX7_sums 128 = .ok (.iconst 1, 1) := by decide +kernel
theorem dX7_sums_129 : decode cX7_sums 129 = .ok (.if_icmp .ne 13, 3) := by decide +kernel
theorem dX7_sums_132 : decode cX7_sums 132 = .ok (.aload_n 0, 1) := by decide +kernel
theorem dX7_sums_133 : decode cX7_sums 133 = .ok (.getfield 29, 3) := by decide +kernel
theorem dX7_sums_136 : decode cX7_sums 136 = .ok (.iload 5, 2) := by decide +kernel
theorem dX7_sums_138 : decode cX7_sums 138 = .ok (.iaload, 1) := by decide +kernel
theorem dX7_sums_139 : decode cX7_sums 139 = .ok (.goto 4, 3) := by decide +kernel
theorem dX7_sums_142 : decode cX7_sums 142 = .ok (.iconst (-1), 1) := by decide +kernel
theorem dX7_sums_143 : decode cX7_sums 143 = .ok (.iastore, 1) := by decide +kernel
theorem dX7_sums_144 : decode cX7_sums 144 = .ok (.iinc 5 1, 3) := by decide +kernel
theorem dX7_sums_147 : decode cX7_sums 147 = .ok (.goto (-92), 3) := by decide +kernel
theorem dX7_sums_150 : decode cX7_sums 150 = .ok (.aload_n 0, 1) := by decide +kernel
theorem dX7_sums_151 : decode cX7_sums 151 = .ok (.iload 4, 2) := by decide +kernel
theorem dX7_sums_153 : decode cX7_sums 153 = .ok (.iload_n 1, 1) := by decide +kernel
theorem dX7_sums_154 : decode cX7_sums 154 = .ok (.iconst 2, 1) := by decide +kernel
theorem dX7_sums_155 : decode cX7_sums 155 = .ok (.isub, 1) := by decide +kernel
theorem dX7_sums_156 : decode cX7_sums 156 = .ok (.invokevirtual 148, 3) := by decide +kernel
theorem dX7_sums_159 : decode cX7_sums 159 = .ok (.ireturn, 1) := by decide +kernel
theorem dX7_isSquare_0 : decode cX7_isSquare 0 = .ok (.aload_n 0, 1) := by decide +kernel
theorem dX7_isSquare_1 : decode cX7_isSquare 1 = .ok (.getfield 7, 3) := by decide +kernel
theorem dX7_isSquare_4 : decode cX7_isSquare 4 = .ok (.iload_n 1, 1) := by decide +kernel
theorem dX7_isSquare_5 : decode cX7_isSquare 5 = .ok (.iaload, 1) := by decide +kernel
theorem dX7_isSquare_6 : decode cX7_isSquare 6 = .ok (.aload_n 0, 1) := by decide +kernel
theorem dX7_isSquare_7 : decode cX7_isSquare 7 = .ok (.getfield 13, 3) := by decide +kernel
theorem dX7_isSquare_10 : decode cX7_isSquare 10 = .ok (.iload_n 1, 1) := by decide +kernel
theorem dX7_isSquare_11 : decode cX7_isSquare 11 = .ok (.iaload, 1) := by decide +kernel
theorem dX7_isSquare_12 : decode cX7_isSquare 12 = .ok (.if_icmp .ne 7, 3) := by decide +kernel
theorem dX7_isSquare_15 : decode cX7_isSquare 15 = .ok (.iconst 1, 1) := by decide +kernel
theorem dX7_isSquare_16 : decode cX7_isSquare 16 = .ok (.goto 4, 3) := by decide +kernel
theorem dX7_isSquare_19 : decode cX7_isSquare 19 = .ok (.iconst 0, 1) := by decide +kernel
theorem dX7_isSquare_20 : decode cX7_isSquare 20 = .ok (.istore_n 2, 1) := by decide +kernel
theorem dX7_isSquare_21 : decode cX7_isSquare 21 = .ok (.iconst 0, 1) := by decide +kernel
theorem dX7_isSquare_22 : decode cX7_isSquare 22 = .ok (.istore_n 3, 1) := by decide +kernel
theorem dX7_isSquare_23 : decode cX7_isSquare 23 = .ok (.iload_n 3, 1) := by decide +kernel
theorem dX7_isSquare_24 : decode cX7_isSquare 24 = .ok (.aload_n 0, 1) := by decide +kernel
theorem dX7_isSquare_25 : decode cX7_isSquare 25 = .ok (.getfield 7, 3) := by decide +kernel
theorem dX7_isSquare_28 : decode cX7_isSquare 28 = .ok (.iload_n 1, 1) := by decide +kernel
theorem dX7_isSquare_29 : decode cX7_isSquare 29 = .ok (.iaload, 1) := by decide +kernel
theorem dX7_isSquare_30 : decode cX7_isSquare 30 = .ok (.if_icmp .ge 50, 3) := by decide +kernel
theorem dX7_isSquare_33 : decode cX7_isSquare 33 = .ok (.aload_n 0, 1) := by decide +kernel
theorem dX7_isSquare_34 : decode cX7_isSquare 34 = .ok (.getfield 29, 3) := by decide +kernel
theorem dX7_isSquare_37 : decode cX7_isSquare 37 = .ok (.iload_n 3, 1) := by decide +kernel
theorem dX7_isSquare_38 : decode cX7_isSquare 38 = .ok (.aload_n 0, 1) := by decide +kernel
theorem dX7_isSquare_39 : decode cX7_isSquare 39 = .ok (.iload_n 1, 1) := by decide +kernel
theorem dX7_isSquare_40 : decode cX7_isSquare 40 = .ok (.iload_n 3, 1) := by decide +kernel
theorem dX7_isSquare_41 : decode cX7_isSquare 41 = .ok (.invokevirtual 79, 3) := by decide +kernel
theorem dX7_isSquare_44 : decode cX7_isSquare 44 = .ok (.iastore, 1) := by decide +kernel
theorem dX7_isSquare_45 : decode cX7_isSquare 45 = .ok (.iload_n 2, 1) := by decide +kernel
theorem dX7_isSquare_46 : decode cX7_isSquare 46 = .ok (.ifCond .eq 26, 3) := by decide +kernel
theorem dX7_isSquare_49 : decode cX7_isSquare 49 = .ok (.aload_n 0, 1) := by decide +kernel
theorem dX7_isSquare_50 : decode cX7_isSquare 50 = .ok (.getfield 29, 3) := by decide +kernel
theorem dX7_isSquare_53 : decode cX7_isSquare 53 = .ok (.iload_n 3, 1) := by decide +kernel
theorem dX7_isSquare_54 : decode cX7_isSquare 54 = .ok (.iaload, 1) := by decide +kernel
theorem dX7_isSquare_55 : decode cX7_isSquare 55 = .ok (.bipush 15, 2) := by decide +kernel
theorem dX7_isSquare_57 : decode cX7_isSquare 57 = .ok (.if_icmp .ge 15, 3) := by decide +kernel
theorem dX7_isSquare_60 : decode cX7_isSquare 60 = .ok (.aload_n 0, 1) := by decide +kernel
theorem dX7_isSquare_61 : decode cX7_isSquare 61 = .ok (.iload_n 3, 1) := by decide +kernel
theorem dX7_isSquare_62 : decode cX7_isSquare 62 = .ok (.invokevirtual 109, 3) := by decide +kernel
theorem dX7_isSquare_65 : decode cX7_isSquare 65 = .ok (.ifCond .eq 7, 3) := by decide +kernel
theorem dX7_isSquare_68 : decode cX7_isSquare 68 = .ok (.iconst 1, 1) := by decide +kernel
theorem dX7_isSquare_69 : decode cX7_isSquare 69 = .ok (.goto 4, 3) := by decide +kernel
theorem dX7_isSquare_72 : decode cX7_isSquare 72 = .ok (.iconst 0, 1) := by decide +kernel
theorem dX7_isSquare_73 : decode cX7_isSquare 73 = .ok (.istore_n 2, 1) := by decide +kernel
theorem dX7_isSquare_74 : decode cX7_isSquare 74 = .ok (.iinc 3 1, 3) := by decide +kernel
theorem dX7_isSquare_77 : decode cX7_isSquare 77 = .ok (.goto (-54), 3) := by decide +kernel
theorem dX7_isSquare_80 : decode cX7_isSquare 80 = .ok (.iload_n 2, 1) := by decide +kernel
theorem dX7_isSquare_81 : decode cX7_isSquare 81 = .ok (.ireturn, 1) := by decide +kernel
theorem dX7_turns_0 : decode cX7_turns 0 = .ok (.aload_n 0, 1) := by decide +kernel
theorem dX7_turns_1 : decode cX7_turns 1 = .ok (.getfield 7, 3) := by decide +kernel
theorem dX7_turns_4 : decode cX7_turns 4 = .ok (.iload_n 1, 1) := by decide +kernel
theorem dX7_turns_5 : decode cX7_turns 5 = .ok (.iaload, 1) := by decide +kernel
theorem dX7_turns_6 : decode cX7_turns 6 = .ok (.istore_n 3, 1) := by decide +kernel
theorem dX7_turns_7 : decode cX7_turns 7 = .ok (.iconst 0, 1) := by decide +kernel
theorem dX7_turns_8 : decode cX7_turns 8 = .ok (.istore 4, 2) := by decide +kernel
theorem dX7_turns_10 : decode cX7_turns 10 = .ok (.iload 4, 2) := by decide +kernel
theorem dX7_turns_12 : decode cX7_turns 12 = .ok (.iload_n 3, 1) := by decide +kernel
theorem dX7_turns_13 : decode cX7_turns 13 = .ok (.if_icmp .ge 37, 3) := by decide +kernel
theorem dX7_turns_16 : decode cX7_turns 16 = .ok (.aload_n 0, 1) := by decide +kernel
theorem dX7_turns_17 : decode cX7_turns 17 = .ok (.getfield 38, 3) := by decide +kernel
theorem dX7_turns_20 : decode cX7_turns 20 = .ok (.iload 4, 2) := by decide +kernel
theorem dX7_turns_22 : decode cX7_turns 22 = .ok (.aload_n 0, 1) := by decide +kernel
theorem dX7_turns_23 : decode cX7_turns 23 = .ok (.iload_n 1, 1) := by decide +kernel
theorem dX7_turns_24 : decode cX7_turns 24 = .ok (.iload_n 2, 1) := by decide +kernel
theorem dX7_turns_25 : decode cX7_turns 25 = .ok (.iconst 3, 1) := by decide +kernel
theorem dX7_turns_26 : decode cX7_turns 26 = .ok (.if_icmp .le 12, 3) := by decide +kernel
theorem dX7_turns_29 : decode cX7_turns 29 = .ok (.iload_n 3, 1) := by decide +kernel
theorem dX7_turns_30 : decode cX7_turns 30 = .ok (.iconst 1, 1) := by decide +kernel
theorem dX7_turns_31 : decode cX7_turns 31 = .ok (.isub, 1) := by decide +kernel
theorem dX7_turns_32 : decode cX7_turns 32 = .ok (.iload 4, 2) := by decide +kernel
theorem dX7_turns_34 : decode cX7_turns 34 = .ok (.isub, 1) := by decide +kernel
theorem dX7_turns_35 : decode cX7_turns 35 = .ok (.goto 5, 3) := by decide +kernel
theorem dX7_turns_38 : decode cX7_turns 38 = .ok (.iload 4, 2) := by decide +kernel
theorem dX7_turns_40 : decode cX7_turns 40 = .ok (.invokevirtual 79, 3) := by decide +kernel
theorem dX7_turns_43 : decode cX7_turns 43 = .ok (.iastore, 1) := by decide +kernel
theorem dX7_turns_44 : decode cX7_turns 44 = .ok (.iinc 4 1, 3) := by decide +kernel
theorem dX7_turns_47 : decode cX7_turns 47 = .ok (.goto (-37), 3) := by decide +kernel
theorem dX7_turns_50 : decode cX7_turns 50 = .ok (.iconst 0, 1) := by decide +kernel
theorem dX7_turns_51 : decode cX7_turns 51 = .ok (.istore 4, 2) := by decide +kernel
theorem dX7_turns_53 : decode cX7_turns 53 = .ok (.iload 4, 2) := by decide +kernel
theorem dX7_turns_55 : decode cX7_turns 55 = .ok (.iload_n 2, 1) := by decide +kernel
theorem dX7_turns_56 : decode cX7_turns 56 = .ok (.iconst 4, 1) := by decide +kernel
theorem dX7_turns_57 : decode cX7_turns 57 = .ok (.irem, 1) := by decide +kernel
theorem dX7_turns_58 : decode cX7_turns 58 = .ok (.if_icmp .ge 71, 3) := by decide +kernel
theorem dX7_turns_61 : decode cX7_turns 61 = .ok (.iconst 0, 1) := by decide +kernel
theorem dX7_turns_62 : decode cX7_turns 62 = .ok (.istore 5, 2) := by decide +kernel
theorem dX7_turns_64 : decode cX7_turns 64 = .ok (.iload 5, 2) := by decide +kernel
theorem dX7_turns_66 : decode cX7_turns 66 = .ok (.iload_n 3, 1) := by decide +kernel
theorem dX7_turns_67 : decode cX7_turns 67 = .ok (.if_icmp .ge 27, 3) := by decide +kernel
theorem dX7_turns_70 : decode cX7_turns 70 = .ok (.aload_n 0, 1) := by decide +kernel
theorem dX7_turns_71 : decode cX7_turns 71 = .ok (.getfield 41, 3) := by decide +kernel
theorem dX7_turns_74 : decode cX7_turns 74 = .ok (.aload_n 0, 1) := by decide +kernel
theorem dX7_turns_75 : decode cX7_turns 75 = .ok (.getfield 38, 3) := by decide +kernel
theorem dX7_turns_78 : decode cX7_turns 78 = .ok (.iload 5, 2) := by decide +kernel
theorem dX7_turns_80 : decode cX7_turns 80 = .ok (.iaload, 1) := by decide +kernel
theorem dX7_turns_81 : decode cX7_turns 81 = .ok (.iload_n 3, 1) := by decide +kernel
theorem dX7_turns_82 : decode cX7_turns 82 = .ok (.iconst 1, 1) := by decide +kernel
theorem dX7_turns_83 : decode cX7_turns 83 = .ok (.isub, 1) := by decide +kernel
theorem dX7_turns_84 : decode cX7_turns 84 = .ok (.iload 5, 2) := by decide +kernel
theorem dX7_turns_86 : decode cX7_turns 86 = .ok (.isub, 1) := by decide +kernel
theorem dX7_turns_87 : decode cX7_turns 87 = .ok (.iastore, 1) := by decide +kernel
theorem dX7_turns_88 : decode cX7_turns 88 = .ok (.iinc 5 1, 3) := by decide +kernel
theorem dX7_turns_91 : decode cX7_turns 91 = .ok (.goto (-27), 3) := by decide +kernel
theorem dX7_turns_94 : decode cX7_turns 94 = .ok (.iconst 0, 1) := by decide +kernel
theorem dX7_turns_95 : decode cX7_turns 95 = .ok (.istore 5, 2) := by decide +kernel
theorem dX7_turns_97 : decode cX7_turns 97 = .ok (.iload 5, 2) := by decide +kernel
theorem dX7_turns_99 : decode cX7_turns 99 = .ok (.iload_n 3, 1) := by decide +kernel
theorem dX7_turns_100 : decode cX7_turns 100 = .ok (.if_icmp .ge 23, 3) := by decide +kernel
theorem dX7_turns_103 : decode cX7_turns 103 = .ok (.aload_n 0, 1) := by decide +kernel
theorem dX7_turns_104 : decode cX7_turns 104 = .ok (.getfield 38, 3) := by decide +kernel
theorem dX7_turns_107 : decode cX7_turns 107 = .ok (.iload 5, 2) := by decide +kernel
theorem dX7_turns_109 : decode cX7_turns 109 = .ok (.aload_n 0, 1) := by decide +kernel
theorem dX7_turns_110 : decode cX7_turns 110 = .ok (.getfield 41, 3) := by decide +kernel
theorem dX7_turns_113 : decode cX7_turns 113 = .ok (.iload 5, 2) := by decide +kernel
theorem dX7_turns_115 : decode cX7_turns 115 = .ok (.iaload, 1) := by decide +kernel
theorem dX7_turns_116 : decode cX7_turns 116 = .ok (.iastore, 1) := by decide +kernel
theorem dX7_turns_117 : decode cX7_turns 117 = .ok (.iinc 5 1, 3) := by decide +kernel
theorem dX7_turns_120 : decode cX7_turns 120 = .ok (.goto (-23), 3) := by decide +kernel
theorem dX7_turns_123 : decode cX7_turns 123 = .ok (.iinc 4 1, 3) := by decide +kernel
theorem dX7_turns_126 : decode cX7_turns 126 = .ok (.goto (-73), 3) := by decide +kernel
theorem dX7_turns_129 : decode cX7_turns 129 = .ok (.return_, 1) := by decide +kernel
theorem dX7_turn_0 : decode cX7_turn 0 = .ok (.iload_n 1, 1) := by decide +kernel
theorem dX7_turn_1 : decode cX7_turn 1 = .ok (.invokestatic 50, 3) := by decide +kernel
end
section
theorem dX7_turn_4 : decode cX7_turn 4 = .ok (.ifCond .eq 15, 3) := by decide +kernel
theorem dX7_turn_7 : decode cX7_turn 7 = .ok (.iload_n 2, 1) := by decide +kernel
theorem dX7_turn_8 : decode cX7_turn 8 = .ok (.i2l, 1) := by decide +kernel
theorem dX7_turn_9 : decode cX7_turn 9 = .ok (.lconst 0, 1) := by decide +kernel
theorem dX7_turn_10 : decode cX7_turn 10 = .ok (.ldc2_w 151, 3) := by decide +kernel
theorem dX7_turn_13 : decode cX7_turn 13 = .ok (.invokestatic 46, 3) := by decide +kernel
theorem dX7_turn_16 : decode cX7_turn 16 = .ok (.ifCond .ne 5, 3) := by decide +kernel
theorem dX7_turn_19 : decode cX7_turn 19 = .ok (.iconst (-1), 1) := by decide +kernel
theorem dX7_turn_20 : decode cX7_turn 20 = .ok (.ireturn, 1) := by decide +kernel
theorem dX7_turn_21 : decode cX7_turn 21 = .ok (.aload_n 0, 1) := by decide +kernel
theorem dX7_turn_22 : decode cX7_turn 22 = .ok (.iload_n 1, 1) := by decide +kernel
theorem dX7_turn_23 : decode cX7_turn 23 = .ok (.invokevirtual 153, 3) := by decide +kernel
theorem dX7_turn_26 : decode cX7_turn 26 = .ok (.ifCond .ne 6, 3) := by decide +kernel
theorem dX7_turn_29 : decode cX7_turn 29 = .ok (.bipush (-2), 2) := by decide +kernel
theorem dX7_turn_31 : decode cX7_turn 31 = .ok (.ireturn, 1) := by decide +kernel
theorem dX7_turn_32 : decode cX7_turn 32 = .ok (.aload_n 0, 1) := by decide +kernel
theorem dX7_turn_33 : decode cX7_turn 33 = .ok (.iload_n 1, 1) := by decide +kernel
theorem dX7_turn_34 : decode cX7_turn 34 = .ok (.iload_n 2, 1) := by decide +kernel
theorem dX7_turn_35 : decode cX7_turn 35 = .ok (.invokevirtual 156, 3) := by decide +kernel
theorem dX7_turn_38 : decode cX7_turn 38 = .ok (.iconst 0, 1) := by decide +kernel
theorem dX7_turn_39 : decode cX7_turn 39 = .ok (.istore_n 3, 1) := by decide +kernel
theorem dX7_turn_40 : decode cX7_turn 40 = .ok (.iload_n 3, 1) := by decide +kernel
theorem dX7_turn_41 : decode cX7_turn 41 = .ok (.aload_n 0, 1) := by decide +kernel
theorem dX7_turn_42 : decode cX7_turn 42 = .ok (.getfield 7, 3) := by decide +kernel
theorem dX7_turn_45 : decode cX7_turn 45 = .ok (.iload_n 1, 1) := by decide +kernel
theorem dX7_turn_46 : decode cX7_turn 46 = .ok (.iaload, 1) := by decide +kernel
theorem dX7_turn_47 : decode cX7_turn 47 = .ok (.if_icmp .ge 26, 3) := by decide +kernel
theorem dX7_turn_50 : decode cX7_turn 50 = .ok (.aload_n 0, 1) := by decide +kernel
theorem dX7_turn_51 : decode cX7_turn 51 = .ok (.getfield 16, 3) := by decide +kernel
theorem dX7_turn_54 : decode cX7_turn 54 = .ok (.bipush 12, 2) := by decide +kernel
theorem dX7_turn_56 : decode cX7_turn 56 = .ok (.iload_n 1, 1) := by decide +kernel
theorem dX7_turn_57 : decode cX7_turn 57 = .ok (.imul, 1) := by decide +kernel
theorem dX7_turn_58 : decode cX7_turn 58 = .ok (.iload_n 3, 1) := by decide +kernel
theorem dX7_turn_59 : decode cX7_turn 59 = .ok (.iadd, 1) := by decide +kernel
theorem dX7_turn_60 : decode cX7_turn 60 = .ok (.aload_n 0, 1) := by decide +kernel
theorem dX7_turn_61 : decode cX7_turn 61 = .ok (.getfield 38, 3) := by decide +kernel
theorem dX7_turn_64 : decode cX7_turn 64 = .ok (.iload_n 3, 1) := by decide +kernel
theorem dX7_turn_65 : decode cX7_turn 65 = .ok (.iaload, 1) := by decide +kernel
theorem dX7_turn_66 : decode cX7_turn 66 = .ok (.iastore, 1) := by decide +kernel
theorem dX7_turn_67 : decode cX7_turn 67 = .ok (.iinc 3 1, 3) := by decide +kernel
theorem dX7_turn_70 : decode cX7_turn 70 = .ok (.goto (-30), 3) := by decide +kernel
theorem dX7_turn_73 : decode cX7_turn 73 = .ok (.aload_n 0, 1) := by decide +kernel
theorem dX7_turn_74 : decode cX7_turn 74 = .ok (.getfield 7, 3) := by decide +kernel
theorem dX7_turn_77 : decode cX7_turn 77 = .ok (.iload_n 1, 1) := by decide +kernel
theorem dX7_turn_78 : decode cX7_turn 78 = .ok (.iaload, 1) := by decide +kernel
theorem dX7_turn_79 : decode cX7_turn 79 = .ok (.ireturn, 1) := by decide +kernel
theorem dX7_code_0 : decode cX7_code 0 = .ok (.lconst 0, 1) := by decide +kernel
theorem dX7_code_1 : decode cX7_code 1 = .ok (.lstore_n 2, 1) := by decide +kernel
theorem dX7_code_2 : decode cX7_code 2 = .ok (.iconst 0, 1) := by decide +kernel
theorem dX7_code_3 : decode cX7_code 3 = .ok (.istore 4, 2) := by decide +kernel
theorem dX7_code_5 : decode cX7_code 5 = .ok (.iload 4, 2) := by decide +kernel
theorem dX7_code_7 : decode cX7_code 7 = .ok (.iload_n 1, 1) := by decide +kernel
theorem dX7_code_8 : decode cX7_code 8 = .ok (.if_icmp .ge 24, 3) := by decide +kernel
theorem dX7_code_11 : decode cX7_code 11 = .ok (.ldc2_w 85, 3) := by decide +kernel
theorem dX7_code_14 : decode cX7_code 14 = .ok (.lload_n 2, 1) := by decide +kernel
theorem dX7_code_15 : decode cX7_code 15 = .ok (.lmul, 1) := by decide +kernel
theorem dX7_code_16 : decode cX7_code 16 = .ok (.aload_n 0, 1) := by decide +kernel
theorem dX7_code_17 : decode cX7_code 17 = .ok (.getfield 38, 3) := by decide +kernel
theorem dX7_code_20 : decode cX7_code 20 = .ok (.iload 4, 2) := by decide +kernel
theorem dX7_code_22 : decode cX7_code 22 = .ok (.iaload, 1) := by decide +kernel
theorem dX7_code_23 : decode cX7_code 23 = .ok (.i2l, 1) := by decide +kernel
theorem dX7_code_24 : decode cX7_code 24 = .ok (.ladd, 1) := by decide +kernel
theorem dX7_code_25 : decode cX7_code 25 = .ok (.lstore_n 2, 1) := by decide +kernel
theorem dX7_code_26 : decode cX7_code 26 = .ok (.iinc 4 1, 3) := by decide +kernel
theorem dX7_code_29 : decode cX7_code 29 = .ok (.goto (-24), 3) := by decide +kernel
theorem dX7_code_32 : decode cX7_code 32 = .ok (.lload_n 2, 1) := by decide +kernel
theorem dX7_code_33 : decode cX7_code 33 = .ok (.lreturn, 1) := by decide +kernel
theorem dX7_like_0 : decode cX7_like 0 = .ok (.iload_n 1, 1) := by decide +kernel
theorem dX7_like_1 : decode cX7_like 1 = .ok (.invokestatic 50, 3) := by decide +kernel
theorem dX7_like_4 : decode cX7_like 4 = .ok (.ifCond .ne 5, 3) := by decide +kernel
theorem dX7_like_7 : decode cX7_like 7 = .ok (.iconst (-1), 1) := by decide +kernel
theorem dX7_like_8 : decode cX7_like 8 = .ok (.ireturn, 1) := by decide +kernel
theorem dX7_like_9 : decode cX7_like 9 = .ok (.aload_n 0, 1) := by decide +kernel
theorem dX7_like_10 : decode cX7_like 10 = .ok (.iload_n 1, 1) := by decide +kernel
theorem dX7_like_11 : decode cX7_like 11 = .ok (.invokevirtual 153, 3) := by decide +kernel
theorem dX7_like_14 : decode cX7_like 14 = .ok (.ifCond .ne 6, 3) := by decide +kernel
theorem dX7_like_17 : decode cX7_like 17 = .ok (.bipush (-2), 2) := by decide +kernel
theorem dX7_like_19 : decode cX7_like 19 = .ok (.ireturn, 1) := by decide +kernel
theorem dX7_like_20 : decode cX7_like 20 = .ok (.iconst 0, 1) := by decide +kernel
theorem dX7_like_21 : decode cX7_like 21 = .ok (.istore_n 2, 1) := by decide +kernel
theorem dX7_like_22 : decode cX7_like 22 = .ok (.iconst 0, 1) := by decide +kernel
theorem dX7_like_23 : decode cX7_like 23 = .ok (.istore_n 3, 1) := by decide +kernel
theorem dX7_like_24 : decode cX7_like 24 = .ok (.iload_n 3, 1) := by decide +kernel
theorem dX7_like_25 : decode cX7_like 25 = .ok (.bipush 8, 2) := by decide +kernel
theorem dX7_like_27 : decode cX7_like 27 = .ok (.if_icmp .ge 93, 3) := by decide +kernel
theorem dX7_like_30 : decode cX7_like 30 = .ok (.aload_n 0, 1) := by decide +kernel
theorem dX7_like_31 : decode cX7_like 31 = .ok (.iload_n 1, 1) := by decide +kernel
theorem dX7_like_32 : decode cX7_like 32 = .ok (.iload_n 3, 1) := by decide +kernel
theorem dX7_like_33 : decode cX7_like 33 = .ok (.invokevirtual 156, 3) := by decide +kernel
theorem dX7_like_36 : decode cX7_like 36 = .ok (.aload_n 0, 1) := by decide +kernel
theorem dX7_like_37 : decode cX7_like 37 = .ok (.aload_n 0, 1) := by decide +kernel
theorem dX7_like_38 : decode cX7_like 38 = .ok (.getfield 7, 3) := by decide +kernel
theorem dX7_like_41 : decode cX7_like 41 = .ok (.iload_n 1, 1) := by decide +kernel
theorem dX7_like_42 : decode cX7_like 42 = .ok (.iaload, 1) := by decide +kernel
theorem dX7_like_43 : decode cX7_like 43 = .ok (.invokevirtual 160, 3) := by decide +kernel
theorem dX7_like_46 : decode cX7_like 46 = .ok (.lstore 4, 2) := by decide +kernel
theorem dX7_like_48 : decode cX7_like 48 = .ok (.iconst 1, 1) := by decide +kernel
theorem dX7_like_49 : decode cX7_like 49 = .ok (.istore 6, 2) := by decide +kernel
theorem dX7_like_51 : decode cX7_like 51 = .ok (.iconst 0, 1) := by decide +kernel
theorem dX7_like_52 : decode cX7_like 52 = .ok (.istore 7, 2) := by decide +kernel
theorem dX7_like_54 : decode cX7_like 54 = .ok (.iload 7, 2) := by decide +kernel
theorem dX7_like_56 : decode cX7_like 56 = .ok (.iload_n 3, 1) := by decide +kernel
theorem dX7_like_57 : decode cX7_like 57 = .ok (.if_icmp .ge 44, 3) := by decide +kernel
theorem dX7_like_60 : decode cX7_like 60 = .ok (.aload_n 0, 1) := by decide +kernel
theorem dX7_like_61 : decode cX7_like 61 = .ok (.iload_n 1, 1) := by decide +kernel
theorem dX7_like_62 : decode cX7_like 62 = .ok (.iload 7, 2) := by decide +kernel
theorem dX7_like_64 : decode cX7_like 64 = .ok (.invokevirtual 156, 3) := by decide +kernel
theorem dX7_like_67 : decode cX7_like 67 = .ok (.iload 6, 2) := by decide +kernel
theorem dX7_like_69 : decode cX7_like 69 = .ok (.ifCond .eq 23, 3) := by decide +kernel
theorem dX7_like_72 : decode cX7_like 72 = .ok (.aload_n 0, 1) := by decide +kernel
theorem dX7_like_73 : decode cX7_like 73 = .ok (.aload_n 0, 1) := by decide +kernel
theorem dX7_like_74 : decode cX7_like 74 = .ok (.getfield 7, 3) := by decide +kernel
theorem dX7_like_77 : decode cX7_like 77 = .ok (.iload_n 1, 1) := by decide +kernel
theorem dX7_like_78 : decode cX7_like 78 = .ok (.iaload, 1) := by decide +kernel
theorem dX7_like_79 : decode cX7_like 79 = .ok (.invokevirtual 160, 3) := by decide +kernel
theorem dX7_like_82 : decode cX7_like 82 = .ok (.lload 4, 2) := by decide +kernel
theorem dX7_like_84 : decode cX7_like 84 = .ok (.lcmp, 1) := by decide +kernel
theorem dX7_like_85 : decode cX7_like 85 = .ok (.ifCond .eq 7, 3) := by decide +kernel
theorem dX7_like_88 : decode cX7_like 88 = .ok (.iconst 1, 1) := by decide +kernel
theorem dX7_like_89 : decode cX7_like 89 = .ok (.goto 4, 3) := by decide +kernel
theorem dX7_like_92 : decode cX7_like 92 = .ok (.iconst 0, 1) := by decide +kernel
theorem dX7_like_93 : decode cX7_like 93 = .ok (.istore 6, 2) := by decide +kernel
theorem dX7_like_95 : decode cX7_like 95 = .ok (.iinc 7 1, 3) := by decide +kernel
theorem dX7_like_98 : decode cX7_like 98 = .ok (.goto (-44), 3) := by decide +kernel
theorem dX7_like_101 : decode cX7_like 101 = .ok (.iload_n 2, 1) := by decide +kernel
theorem dX7_like_102 : decode cX7_like 102 = .ok (.iload 6, 2) := by decide +kernel
theorem dX7_like_104 : decode cX7_like 104 = .ok (.ifCond .eq 7, 3) := by decide +kernel
theorem dX7_like_107 : decode cX7_like 107 = .ok (.iconst 1, 1) := by decide +kernel
theorem dX7_like_108 : decode cX7_like 108 = .ok (.goto 4, 3) := by decide +kernel
theorem dX7_like_111 : decode cX7_like 111 = .ok (.iconst 0, 1) := by decide +kernel
theorem dX7_like_112 : decode cX7_like 112 = .ok (.iadd, 1) := by decide +kernel
theorem dX7_like_113 : decode cX7_like 113 = .ok (.istore_n 2, 1) := by decide +kernel
theorem dX7_like_114 : decode cX7_like 114 = .ok (.iinc 3 1, 3) := by decide +kernel
theorem dX7_like_117 : decode cX7_like 117 = .ok (.goto (-93), 3) := by decide +kernel
theorem dX7_like_120 : decode cX7_like 120 = .ok (.iload_n 2, 1) := by decide +kernel
theorem dX7_like_121 : decode cX7_like 121 = .ok (.ireturn, 1) := by decide +kernel
theorem dX7_corner_0 : decode cX7_corner 0 = .ok (.iload_n 1, 1) := by decide +kernel
theorem dX7_corner_1 : decode cX7_corner 1 = .ok (.invokestatic 50, 3) := by decide +kernel
theorem dX7_corner_4 : decode cX7_corner 4 = .ok (.ifCond .eq 15, 3) := by decide +kernel
theorem dX7_corner_7 : decode cX7_corner 7 = .ok (.iload_n 2, 1) := by decide +kernel
theorem dX7_corner_8 : decode cX7_corner 8 = .ok (.i2l, 1) := by decide +kernel
theorem dX7_corner_9 : decode cX7_corner 9 = .ok (.lconst 0, 1) := by decide +kernel
theorem dX7_corner_10 : decode cX7_corner 10 = .ok (.ldc2_w 107, 3) := by decide +kernel
theorem dX7_corner_13 : decode cX7_corner 13 = .ok (.invokestatic 46, 3) := by decide +kernel
theorem dX7_corner_16 : decode cX7_corner 16 = .ok (.ifCond .ne 5, 3) := by decide +kernel
theorem dX7_corner_19 : decode cX7_corner 19 = .ok (.iconst (-1), 1) := by decide +kernel
theorem dX7_corner_20 : decode cX7_corner 20 = .ok (.ireturn, 1) := by decide +kernel
theorem dX7_corner_21 : decode cX7_corner 21 = .ok (.aload_n 0, 1) := by decide +kernel
theorem dX7_corner_22 : decode cX7_corner 22 = .ok (.getfield 7, 3) := by decide +kernel
theorem dX7_corner_25 : decode cX7_corner 25 = .ok (.iload_n 1, 1) := by decide +kernel
theorem dX7_corner_26 : decode cX7_corner 26 = .ok (.iaload, 1) := by decide +kernel
theorem dX7_corner_27 : decode cX7_corner 27 = .ok (.istore 4, 2) := by decide +kernel
theorem dX7_corner_29 : decode cX7_corner 29 = .ok (.iload_n 2, 1) := by decide +kernel
theorem dX7_corner_30 : decode cX7_corner 30 = .ok (.iconst 2, 1) := by decide +kernel
theorem dX7_corner_31 : decode cX7_corner 31 = .ok (.irem, 1) := by decide +kernel
theorem dX7_corner_32 : decode cX7_corner 32 = .ok (.ifCond .ne 7, 3) := by decide +kernel
theorem dX7_corner_35 : decode cX7_corner 35 = .ok (.iconst 0, 1) := by decide +kernel
theorem dX7_corner_36 : decode cX7_corner 36 = .ok (.goto 7, 3) := by decide +kernel
theorem dX7_corner_39 : decode cX7_corner 39 = .ok (.iload 4, 2) := by decide +kernel
theorem dX7_corner_41 : decode cX7_corner 41 = .ok (.iconst 1, 1) := by decide +kernel
theorem dX7_corner_42 : decode cX7_corner 42 = .ok (.isub, 1) := by decide +kernel
theorem dX7_corner_43 : decode cX7_corner 43 = .ok (.istore 5, 2) := by decide +kernel
theorem dX7_corner_45 : decode cX7_corner 45 = .ok (.iload_n 2, 1) := by decide +kernel
theorem dX7_corner_46 : decode cX7_corner 46 = .ok (.iconst 2, 1) := by decide +kernel
theorem dX7_corner_47 : decode cX7_corner 47 = .ok (.if_icmp .ge 7, 3) := by decide +kernel
theorem dX7_corner_50 : decode cX7_corner 50 = .ok (.iconst 0, 1) := by decide +kernel
theorem dX7_corner_51 : decode cX7_corner 51 = .ok (.goto 7, 3) := by decide +kernel
theorem dX7_corner_54 : decode cX7_corner 54 = .ok (.iload 4, 2) := by decide +kernel
theorem dX7_corner_56 : decode cX7_corner 56 = .ok (.iconst 1, 1) := by decide +kernel
theorem dX7_corner_57 : decode cX7_corner 57 = .ok (.isub, 1) := by decide +kernel
theorem dX7_corner_58 : decode cX7_corner 58 = .ok (.istore 6, 2) := by decide +kernel
theorem dX7_corner_60 : decode cX7_corner 60 = .ok (.aload_n 0, 1) := by decide +kernel
theorem dX7_corner_61 : decode cX7_corner 61 = .ok (.iload_n 1, 1) := by decide +kernel
theorem dX7_corner_62 : decode cX7_corner 62 = .ok (.invokevirtual 153, 3) := by decide +kernel
theorem dX7_corner_65 : decode cX7_corner 65 = .ok (.ifCond .eq 35, 3) := by decide +kernel
theorem dX7_corner_68 : decode cX7_corner 68 = .ok (.iload_n 3, 1) := by decide +kernel
theorem dX7_corner_69 : decode cX7_corner 69 = .ok (.ifCond .eq 13, 3) := by decide +kernel
theorem dX7_corner_72 : decode cX7_corner 72 = .ok (.iload 4, 2) := by decide +kernel
theorem dX7_corner_74 : decode cX7_corner 74 = .ok (.bipush 11, 2) := by decide +kernel
theorem dX7_corner_76 : decode cX7_corner 76 = .ok (.if_icmp .le 27, 3) := by decide +kernel
theorem dX7_corner_79 : decode cX7_corner 79 = .ok (.goto 21, 3) := by decide +kernel
theorem dX7_corner_82 : decode cX7_corner 82 = .ok (.iload 4, 2) := by decide +kernel
theorem dX7_corner_84 : decode cX7_corner 84 = .ok (.iconst 2, 1) := by decide +kernel
theorem dX7_corner_85 : decode cX7_corner 85 = .ok (.if_icmp .lt 15, 3) := by decide +kernel
theorem dX7_corner_88 : decode cX7_corner 88 = .ok (.aload_n 0, 1) := by decide +kernel
theorem dX7_corner_89 : decode cX7_corner 89 = .ok (.iload_n 1, 1) := by decide +kernel
theorem dX7_corner_90 : decode cX7_corner 90 = .ok (.iload 5, 2) := by decide +kernel
theorem dX7_corner_92 : decode cX7_corner 92 = .ok (.invokevirtual 79, 3) := by decide +kernel
theorem dX7_corner_95 : decode cX7_corner 95 = .ok (.iload 6, 2) := by decide +kernel
theorem dX7_corner_97 : decode cX7_corner 97 = .ok (.if_icmp .eq 6, 3) := by decide +kernel
theorem dX7_corner_100 : decode cX7_corner 100 = .ok (.bipush (-2), 2) := by decide +kernel
theorem dX7_corner_102 : decode cX7_corner 102 = .ok (.ireturn, 1) := by decide +kernel
theorem dX7_corner_103 : decode cX7_corner 103 = .ok (.iload_n 3, 1) := by decide +kernel
theorem dX7_corner_104 : decode cX7_corner 104 = .ok (.ifCond .eq 10, 3) := by decide +kernel
theorem dX7_corner_107 : decode cX7_corner 107 = .ok (.iload 4, 2) := by decide +kernel
theorem dX7_corner_109 : decode cX7_corner 109 = .ok (.iconst 1, 1) := by decide +kernel
theorem dX7_corner_110 : decode cX7_corner 110 = .ok (.iadd, 1) := by decide +kernel
theorem dX7_corner_111 : decode cX7_corner 111 = .ok (.goto 7, 3) := by decide +kernel
theorem dX7_corner_114 : decode cX7_corner 114 = .ok (.iload 4, 2) := by decide +kernel
theorem dX7_corner_116 : decode cX7_corner 116 = .ok (.iconst 1, 1) := by decide +kernel
theorem dX7_corner_117 : decode cX7_corner 117 = .ok (.isub, 1) := by decide +kernel
theorem dX7_corner_118 : decode cX7_corner 118 = .ok (.istore 7, 2) := by decide +kernel
theorem dX7_corner_120 : decode cX7_corner 120 = .ok (.iconst 0, 1) := by decide +kernel
theorem dX7_corner_121 : decode cX7_corner 121 = .ok (.istore 8, 2) := by decide +kernel
theorem dX7_corner_123 : decode cX7_corner 123 = .ok (.iload 8, 2) := by decide +kernel
theorem dX7_corner_125 : decode cX7_corner 125 = .ok (.iload 7, 2) := by decide +kernel
theorem dX7_corner_127 : decode cX7_corner 127 = .ok (.if_icmp .ge 126, 3) := by decide +kernel
theorem dX7_corner_130 : decode cX7_corner 130 = .ok (.iload_n 2, 1) := by decide +kernel
theorem dX7_corner_131 : decode cX7_corner 131 = .ok (.iconst 2, 1) := by decide +kernel
theorem dX7_corner_132 : decode cX7_corner 132 = .ok (.irem, 1) := by decide +kernel
theorem dX7_corner_133 : decode cX7_corner 133 = .ok (.iconst 1, 1) := by decide +kernel
theorem dX7_corner_134 : decode cX7_corner 134 = .ok (.if_icmp .ne 8, 3) := by decide +kernel
theorem dX7_corner_137 : decode cX7_corner 137 = .ok (.iload 8, 2) := by decide +kernel
theorem dX7_corner_139 : decode cX7_corner 139 = .ok (.goto 18, 3) := by decide +kernel
theorem dX7_corner_142 : decode cX7_corner 142 = .ok (.iload_n 3, 1) := by decide +kernel
theorem dX7_corner_143 : decode cX7_corner 143 = .ok (.ifCond .eq 10, 3) := by decide +kernel
theorem dX7_corner_146 : decode cX7_corner 146 = .ok (.iload 8, 2) := by decide +kernel
theorem dX7_corner_148 : decode cX7_corner 148 = .ok (.iconst 1, 1) := by decide +kernel
theorem dX7_corner_149 : decode cX7_corner 149 = .ok (.isub, 1) := by decide +kernel
theorem dX7_corner_150 : decode cX7_corner 150 = .ok (.goto 7, 3) := by decide +kernel
theorem dX7_corner_153 : decode cX7_corner 153 = .ok (.iload 8, 2) := by decide +kernel
theorem dX7_corner_155 : decode cX7_corner 155 = .ok (.iconst 1, 1) := by decide +kernel
theorem dX7_corner_156 : decode cX7_corner 156 = .ok (.iadd, 1) := by decide +kernel
theorem dX7_corner_157 : decode cX7_corner 157 = .ok (.istore 9, 2) := by decide +kernel
theorem dX7_corner_159 : decode cX7_corner 159 = .ok (.iload_n 2, 1) := by decide +kernel
theorem dX7_corner_160 : decode cX7_corner 160 = .ok (.iconst 1, 1) := by decide +kernel
theorem dX7_corner_161 : decode cX7_corner 161 = .ok (.if_icmp .le 7, 3) := by decide +kernel
theorem dX7_corner_164 : decode cX7_corner 164 = .ok (.iconst 0, 1) := by decide +kernel
theorem dX7_corner_165 : decode cX7_corner 165 = .ok (.goto 12, 3) := by decide +kernel
theorem dX7_corner_168 : decode cX7_corner 168 = .ok (.iload_n 3, 1) := by decide +kernel
theorem dX7_corner_169 : decode cX7_corner 169 = .ok (.ifCond .eq 7, 3) := by decide +kernel
theorem dX7_corner_172 : decode cX7_corner 172 = .ok (.iconst 1, 1) := by decide +kernel
theorem dX7_corner_173 : decode cX7_corner 173 = .ok (.goto 4, 3) := by decide +kernel
theorem dX7_corner_176 : decode cX7_corner 176 = .ok (.iconst (-1), 1) := by decide +kernel
theorem dX7_corner_177 : decode cX7_corner 177 = .ok (.istore 10, 2) := by decide +kernel
theorem dX7_corner_179 : decode cX7_corner 179 = .ok (.iload_n 3, 1) := by decide +kernel
theorem dX7_corner_180 : decode cX7_corner 180 = .ok (.ifCond .eq 28, 3) := by decide +kernel
theorem dX7_corner_183 : decode cX7_corner 183 = .ok (.iload_n 2, 1) := by decide +kernel
theorem dX7_corner_184 : decode cX7_corner 184 = .ok (.iconst 2, 1) := by decide +kernel
theorem dX7_corner_185 : decode cX7_corner 185 = .ok (.irem, 1) := by decide +kernel
theorem dX7_corner_186 : decode cX7_corner 186 = .ok (.ifCond .ne 11, 3) := by decide +kernel
theorem dX7_corner_189 : decode cX7_corner 189 = .ok (.iload 8, 2) := by decide +kernel
theorem dX7_corner_191 : decode cX7_corner 191 = .ok (.ifCond .ne 17, 3) := by decide +kernel
theorem dX7_corner_194 : decode cX7_corner 194 = .ok (.goto 10, 3) := by decide +kernel
theorem dX7_corner_197 : decode cX7_corner 197 = .ok (.iload 8, 2) := by decide +kernel
theorem dX7_corner_199 : decode cX7_corner 199 = .ok (.iload 4, 2) := by decide +kernel
theorem dX7_corner_201 : decode cX7_corner 201 = .ok (.if_icmp .ne 7, 3) := by decide +kernel
theorem dX7_corner_204 : decode cX7_corner 204 = .ok (.iconst 1, 1) := by decide +kernel
theorem dX7_corner_205 : decode cX7_corner 205 = .ok (.goto 4, 3) := by decide +kernel
theorem dX7_corner_208 : decode cX7_corner 208 = .ok (.iconst 0, 1) := by decide +kernel
theorem dX7_corner_209 : decode cX7_corner 209 = .ok (.istore 11, 2) := by decide +kernel
theorem dX7_corner_211 : decode cX7_corner 211 = .ok (.aload_n 0, 1) := by decide +kernel
theorem dX7_corner_212 : decode cX7_corner 212 = .ok (.getfield 29, 3) := by decide +kernel
theorem dX7_corner_215 : decode cX7_corner 215 = .ok (.iload 8, 2) := by decide +kernel
theorem dX7_corner_217 : decode cX7_corner 217 = .ok (.iload 11, 2) := by decide +kernel
theorem dX7_corner_219 : decode cX7_corner 219 = .ok (.ifCond .eq 17, 3) := by decide +kernel
theorem dX7_corner_222 : decode cX7_corner 222 = .ok (.iload_n 2, 1) := by decide +kernel
theorem dX7_corner_223 : decode cX7_corner 223 = .ok (.iconst 2, 1) := by decide +kernel
theorem dX7_corner_224 : decode cX7_corner 224 = .ok (.if_icmp .ge 7, 3) := by decide +kernel
theorem dX7_corner_227 : decode cX7_corner 227 = .ok (.iconst 0, 1) := by decide +kernel
theorem dX7_corner_228 : decode cX7_corner 228 = .ok (.goto 18, 3) := by decide +kernel
theorem dX7_corner_231 : decode cX7_corner 231 = .ok (.iload 4, 2) := by decide +kernel
theorem dX7_corner_233 : decode cX7_corner 233 = .ok (.goto 13, 3) := by decide +kernel
theorem dX7_corner_236 : decode cX7_corner 236 = .ok (.aload_n 0, 1) := by decide +kernel
theorem dX7_corner_237 : decode cX7_corner 237 = .ok (.iload_n 1, 1) := by decide +kernel
theorem dX7_corner_238 : decode cX7_corner 238 = .ok (.iload 9, 2) := by decide +kernel
theorem dX7_corner_240 : decode cX7_corner 240 = .ok (.invokevirtual 79, 3) := by decide +kernel
theorem dX7_corner_243 : decode cX7_corner 243 = .ok (.iload 10, 2) := by decide +kernel
theorem dX7_corner_245 : decode cX7_corner 245 = .ok (.iadd, 1) := by decide +kernel
theorem dX7_corner_246 : decode cX7_corner 246 = .ok (.iastore, 1) := by decide +kernel
theorem dX7_corner_247 : decode cX7_corner 247 = .ok (.iinc 8 1, 3) := by decide +kernel
theorem dX7_corner_250 : decode cX7_corner 250 = .ok (.goto (-127), 3) := by decide +kernel
theorem dX7_corner_253 : decode cX7_corner 253 = .ok (.aload_n 0, 1) := by decide +kernel
theorem dX7_corner_254 : decode cX7_corner 254 = .ok (.getfield 7, 3) := by decide +kernel
theorem dX7_corner_257 : decode cX7_corner 257 = .ok (.iload_n 1, 1) := by decide +kernel
theorem dX7_corner_258 : decode cX7_corner 258 = .ok (.iload 7, 2) := by decide +kernel
theorem dX7_corner_260 : decode cX7_corner 260 = .ok (.iastore, 1) := by decide +kernel
theorem dX7_corner_261 : decode cX7_corner 261 = .ok (.aload_n 0, 1) := by decide +kernel
theorem dX7_corner_262 : decode cX7_corner 262 = .ok (.getfield 13, 3) := by decide +kernel
theorem dX7_corner_265 : decode cX7_corner 265 = .ok (.iload_n 1, 1) := by decide +kernel
theorem dX7_corner_266 : decode cX7_corner 266 = .ok (.iload 7, 2) := by decide +kernel
theorem dX7_corner_268 : decode cX7_corner 268 = .ok (.iastore, 1) := by decide +kernel
theorem dX7_corner_269 : decode cX7_corner 269 = .ok (.iconst 0, 1) := by decide +kernel
theorem dX7_corner_270 : decode cX7_corner 270 = .ok (.istore 8, 2) := by decide +kernel
theorem dX7_corner_272 : decode cX7_corner 272 = .ok (.iload 8, 2) := by decide +kernel
theorem dX7_corner_274 : decode cX7_corner 274 = .ok (.iload 7, 2) := by decide +kernel
theorem dX7_corner_276 : decode cX7_corner 276 = .ok (.if_icmp .ge 28, 3) := by decide +kernel
theorem dX7_corner_279 : decode cX7_corner 279 = .ok (.aload_n 0, 1) := by decide +kernel
theorem dX7_corner_280 : decode cX7_corner 280 = .ok (.getfield 16, 3) := by decide +kernel
theorem dX7_corner_283 : decode cX7_corner 283 = .ok (.bipush 12, 2) := by decide +kernel
theorem dX7_corner_285 : decode cX7_corner 285 = .ok (.iload_n 1, 1) := by decide +kernel
theorem dX7_corner_286 : decode cX7_corner 286 = .ok (.imul, 1) := by decide +kernel
theorem dX7_corner_287 : decode cX7_corner 287 = .ok (.iload 8, 2) := by decide +kernel
theorem dX7_corner_289 : decode cX7_corner 289 = .ok (.iadd, 1) := by decide +kernel
theorem dX7_corner_290 : decode cX7_corner 290 = .ok (.aload_n 0, 1) := by decide +kernel
theorem dX7_corner_291 : decode cX7_corner 291 = .ok (.getfield 29, 3) := by decide +kernel
theorem dX7_corner_294 : decode cX7_corner 294 = .ok (.iload 8, 2) := by decide +kernel
theorem dX7_corner_296 : decode cX7_corner 296 = .ok (.iaload, 1) := by decide +kernel
theorem dX7_corner_297 : decode cX7_corner 297 = .ok (.iastore, 1) := by decide +kernel
theorem dX7_corner_298 : decode cX7_corner 298 = .ok (.iinc 8 1, 3) := by decide +kernel
theorem dX7_corner_301 : decode cX7_corner 301 = .ok (.goto (-29), 3) := by decide +kernel
theorem dX7_corner_304 : decode cX7_corner 304 = .ok (.iload 7, 2) := by decide +kernel
theorem dX7_corner_306 : decode cX7_corner 306 = .ok (.ireturn, 1) := by decide +kernel
theorem dX7_isHeard_0 : decode cX7_isHeard 0 = .ok (.iconst 0, 1) := by decide +kernel
theorem dX7_isHeard_1 : decode cX7_isHeard 1 = .ok (.istore_n 3, 1) := by decide +kernel
theorem dX7_isHeard_2 : decode cX7_isHeard 2 = .ok (.iconst 0, 1) := by decide +kernel
theorem dX7_isHeard_3 : decode cX7_isHeard 3 = .ok (.istore 4, 2) := by decide +kernel
theorem dX7_isHeard_5 : decode cX7_isHeard 5 = .ok (.iload 4, 2) := by decide +kernel
theorem dX7_isHeard_7 : decode cX7_isHeard 7 = .ok (.aload_n 0, 1) := by decide +kernel
theorem dX7_isHeard_8 : decode cX7_isHeard 8 = .ok (.getfield 164, 3) := by decide +kernel
theorem dX7_isHeard_11 : decode cX7_isHeard 11 = .ok (.if_icmp .ge 41, 3) := by decide +kernel
theorem dX7_isHeard_14 : decode cX7_isHeard 14 = .ok (.iload_n 3, 1) := by decide +kernel
theorem dX7_isHeard_15 : decode cX7_isHeard 15 = .ok (.ifCond .ne 25, 3) := by decide +kernel
theorem dX7_isHeard_18 : decode cX7_isHeard 18 = .ok (.aload_n 0, 1) := by decide +kernel
theorem dX7_isHeard_19 : decode cX7_isHeard 19 = .ok (.getfield 23, 3) := by decide +kernel
theorem dX7_isHeard_22 : decode cX7_isHeard 22 = .ok (.iload 4, 2) := by decide +kernel
theorem dX7_isHeard_24 : decode cX7_isHeard 24 = .ok (.iaload, 1) := by decide +kernel
theorem dX7_isHeard_25 : decode cX7_isHeard 25 = .ok (.iload_n 1, 1) := by decide +kernel
theorem dX7_isHeard_26 : decode cX7_isHeard 26 = .ok (.if_icmp .ne 18, 3) := by decide +kernel
theorem dX7_isHeard_29 : decode cX7_isHeard 29 = .ok (.aload_n 0, 1) := by decide +kernel
theorem dX7_isHeard_30 : decode cX7_isHeard 30 = .ok (.getfield 26, 3) := by decide +kernel
theorem dX7_isHeard_33 : decode cX7_isHeard 33 = .ok (.iload 4, 2) := by decide +kernel
theorem dX7_isHeard_35 : decode cX7_isHeard 35 = .ok (.iaload, 1) := by decide +kernel
theorem dX7_isHeard_36 : decode cX7_isHeard 36 = .ok (.iload_n 2, 1) := by decide +kernel
theorem dX7_isHeard_37 : decode cX7_isHeard 37 = .ok (.if_icmp .ne 7, 3) := by decide +kernel
theorem dX7_isHeard_40 : decode cX7_isHeard 40 = .ok (.iconst 1, 1) := by decide +kernel
theorem dX7_isHeard_41 : decode cX7_isHeard 41 = .ok (.goto 4, 3) := by decide +kernel
theorem dX7_isHeard_44 : decode cX7_isHeard 44 = .ok (.iconst 0, 1) := by decide +kernel
theorem dX7_isHeard_45 : decode cX7_isHeard 45 = .ok (.istore_n 3, 1) := by decide +kernel
theorem dX7_isHeard_46 : decode cX7_isHeard 46 = .ok (.iinc 4 1, 3) := by decide +kernel
theorem dX7_isHeard_49 : decode cX7_isHeard 49 = .ok (.goto (-44), 3) := by decide +kernel
theorem dX7_isHeard_52 : decode cX7_isHeard 52 = .ok (.iload_n 3, 1) := by decide +kernel
theorem dX7_isHeard_53 : decode cX7_isHeard 53 = .ok (.ireturn, 1) := by decide +kernel
theorem dX7_hear_0 : decode cX7_hear 0 = .ok (.iload_n 1, 1) := by decide +kernel
theorem dX7_hear_1 : decode cX7_hear 1 = .ok (.i2l, 1) := by decide +kernel
theorem dX7_hear_2 : decode cX7_hear 2 = .ok (.lconst 0, 1) := by decide +kernel
theorem dX7_hear_3 : decode cX7_hear 3 = .ok (.ldc2_w 167, 3) := by decide +kernel
theorem dX7_hear_6 : decode cX7_hear 6 = .ok (.invokestatic 46, 3) := by decide +kernel
theorem dX7_hear_9 : decode cX7_hear 9 = .ok (.ifCond .eq 17, 3) := by decide +kernel
theorem dX7_hear_12 : decode cX7_hear 12 = .ok (.iload_n 2, 1) := by decide +kernel
theorem dX7_hear_13 : decode cX7_hear 13 = .ok (.i2l, 1) := by decide +kernel
theorem dX7_hear_14 : decode cX7_hear 14 = .ok (.ldc2_w 169, 3) := by decide +kernel
theorem dX7_hear_17 : decode cX7_hear 17 = .ok (.ldc2_w 171, 3) := by decide +kernel
theorem dX7_hear_20 : decode cX7_hear 20 = .ok (.invokestatic 46, 3) := by decide +kernel
theorem dX7_hear_23 : decode cX7_hear 23 = .ok (.ifCond .ne 5, 3) := by decide +kernel
theorem dX7_hear_26 : decode cX7_hear 26 = .ok (.iconst (-1), 1) := by decide +kernel
theorem dX7_hear_27 : decode cX7_hear 27 = .ok (.ireturn, 1) := by decide +kernel
theorem dX7_hear_28 : decode cX7_hear 28 = .ok (.aload_n 0, 1) := by decide +kernel
theorem dX7_hear_29 : decode cX7_hear 29 = .ok (.iload_n 1, 1) := by decide +kernel
theorem dX7_hear_30 : decode cX7_hear 30 = .ok (.iload_n 2, 1) := by decide +kernel
theorem dX7_hear_31 : decode cX7_hear 31 = .ok (.invokevirtual 173, 3) := by decide +kernel
theorem dX7_hear_34 : decode cX7_hear 34 = .ok (.ifCond .eq 6, 3) := by decide +kernel
theorem dX7_hear_37 : decode cX7_hear 37 = .ok (.bipush (-2), 2) := by decide +kernel
theorem dX7_hear_39 : decode cX7_hear 39 = .ok (.ireturn, 1) := by decide +kernel
theorem dX7_hear_40 : decode cX7_hear 40 = .ok (.aload_n 0, 1) := by decide +kernel
theorem dX7_hear_41 : decode cX7_hear 41 = .ok (.getfield 164, 3) := by decide +kernel
theorem dX7_hear_44 : decode cX7_hear 44 = .ok (.bipush 40, 2) := by decide +kernel
theorem dX7_hear_46 : decode cX7_hear 46 = .ok (.if_icmp .ne 6, 3) := by decide +kernel
theorem dX7_hear_49 : decode cX7_hear 49 = .ok (.bipush (-3), 2) := by decide +kernel
theorem dX7_hear_51 : decode cX7_hear 51 = .ok (.ireturn, 1) := by decide +kernel
theorem dX7_hear_52 : decode cX7_hear 52 = .ok (.aload_n 0, 1) := by decide +kernel
theorem dX7_hear_53 : decode cX7_hear 53 = .ok (.getfield 23, 3) := by decide +kernel
theorem dX7_hear_56 : decode cX7_hear 56 = .ok (.aload_n 0, 1) := by decide +kernel
theorem dX7_hear_57 : decode cX7_hear 57 = .ok (.getfield 164, 3) := by decide +kernel
theorem dX7_hear_60 : decode cX7_hear 60 = .ok (.iload_n 1, 1) := by decide +kernel
theorem dX7_hear_61 : decode cX7_hear 61 = .ok (.iastore, 1) := by decide +kernel
theorem dX7_hear_62 : decode cX7_hear 62 = .ok (.aload_n 0, 1) := by decide +kernel
theorem dX7_hear_63 : decode cX7_hear 63 = .ok (.getfield 26, 3) := by decide +kernel
theorem dX7_hear_66 : decode cX7_hear 66 = .ok (.aload_n 0, 1) := by decide +kernel
theorem dX7_hear_67 : decode cX7_hear 67 = .ok (.getfield 164, 3) := by decide +kernel
theorem dX7_hear_70 : decode cX7_hear 70 = .ok (.iload_n 2, 1) := by decide +kernel
theorem dX7_hear_71 : decode cX7_hear 71 = .ok (.iastore, 1) := by decide +kernel
theorem dX7_hear_72 : decode cX7_hear 72 = .ok (.aload_n 0, 1) := by decide +kernel
theorem dX7_hear_73 : decode cX7_hear 73 = .ok (.dup, 1) := by decide +kernel
theorem dX7_hear_74 : decode cX7_hear 74 = .ok (.getfield 164, 3) := by decide +kernel
theorem dX7_hear_77 : decode cX7_hear 77 = .ok (.iconst 1, 1) := by decide +kernel
theorem dX7_hear_78 : decode cX7_hear 78 = .ok (.iadd, 1) := by decide +kernel
theorem dX7_hear_79 : decode cX7_hear 79 = .ok (.putfield 164, 3) := by decide +kernel
theorem dX7_hear_82 : decode cX7_hear 82 = .ok (.aload_n 0, 1) := by decide +kernel
theorem dX7_hear_83 : decode cX7_hear 83 = .ok (.getfield 164, 3) := by decide +kernel
theorem dX7_hear_86 : decode cX7_hear 86 = .ok (.ireturn, 1) := by decide +kernel
theorem dX7_still_0 : decode cX7_still 0 = .ok (.aload_n 0, 1) := by decide +kernel
theorem dX7_still_1 : decode cX7_still 1 = .ok (.getfield 164, 3) := by decide +kernel
theorem dX7_still_4 : decode cX7_still 4 = .ok (.istore_n 1, 1) := by decide +kernel
theorem dX7_still_5 : decode cX7_still 5 = .ok (.aload_n 0, 1) := by decide +kernel
theorem dX7_still_6 : decode cX7_still 6 = .ok (.iconst 0, 1) := by decide +kernel
theorem dX7_still_7 : decode cX7_still 7 = .ok (.putfield 164, 3) := by decide +kernel
theorem dX7_still_10 : decode cX7_still 10 = .ok (.iload_n 1, 1) := by decide +kernel
theorem dX7_still_11 : decode cX7_still 11 = .ok (.ireturn, 1) := by decide +kernel
theorem dX7_finds_0 : decode cX7_finds 0 = .ok (.aload_n 0, 1) := by decide +kernel
theorem dX7_finds_1 : decode cX7_finds 1 = .ok (.iconst (-1), 1) := by decide +kernel
theorem dX7_finds_2 : decode cX7_finds 2 = .ok (.putfield 177, 3) := by decide +kernel
theorem dX7_finds_5 : decode cX7_finds 5 = .ok (.iconst 0, 1) := by decide +kernel
theorem dX7_finds_6 : decode cX7_finds 6 = .ok (.istore_n 2, 1) := by decide +kernel
theorem dX7_finds_7 : decode cX7_finds 7 = .ok (.iload_n 2, 1) := by decide +kernel
theorem dX7_finds_8 : decode cX7_finds 8 = .ok (.bipush 18, 2) := by decide +kernel
theorem dX7_finds_10 : decode cX7_finds 10 = .ok (.if_icmp .gt 114, 3) := by decide +kernel
theorem dX7_finds_13 : decode cX7_finds 13 = .ok (.bipush (-20), 2) := by decide +kernel
theorem dX7_finds_15 : decode cX7_finds 15 = .ok (.istore_n 3, 1) := by decide +kernel
theorem dX7_finds_16 : decode cX7_finds 16 = .ok (.iload_n 3, 1) := by decide +kernel
theorem dX7_finds_17 : decode cX7_finds 17 = .ok (.bipush 20, 2) := by decide +kernel
theorem dX7_finds_19 : decode cX7_finds 19 = .ok (.if_icmp .gt 99, 3) := by decide +kernel
theorem dX7_finds_22 : decode cX7_finds 22 = .ok (.iconst 0, 1) := by decide +kernel
theorem dX7_finds_23 : decode cX7_finds 23 = .ok (.istore 4, 2) := by decide +kernel
theorem dX7_finds_25 : decode cX7_finds 25 = .ok (.iconst 0, 1) := by decide +kernel
theorem dX7_finds_26 : decode cX7_finds 26 = .ok (.istore 5, 2) := by decide +kernel
theorem dX7_finds_28 : decode cX7_finds 28 = .ok (.iload 5, 2) := by decide +kernel
theorem dX7_finds_30 : decode cX7_finds 30 = .ok (.aload_n 0, 1) := by decide +kernel
theorem dX7_finds_31 : decode cX7_finds 31 = .ok (.getfield 7, 3) := by decide +kernel
theorem dX7_finds_34 : decode cX7_finds 34 = .ok (.iload_n 1, 1) := by decide +kernel
theorem dX7_finds_35 : decode cX7_finds 35 = .ok (.iaload, 1) := by decide +kernel
theorem dX7_finds_36 : decode cX7_finds 36 = .ok (.if_icmp .ge 51, 3) := by decide +kernel
theorem dX7_finds_39 : decode cX7_finds 39 = .ok (.iload 4, 2) := by decide +kernel
theorem dX7_finds_41 : decode cX7_finds 41 = .ok (.aload_n 0, 1) := by decide +kernel
theorem dX7_finds_42 : decode cX7_finds 42 = .ok (.iload_n 1, 1) := by decide +kernel
theorem dX7_finds_43 : decode cX7_finds 43 = .ok (.iload 5, 2) := by decide +kernel
theorem dX7_finds_45 : decode cX7_finds 45 = .ok (.invokevirtual 79, 3) := by decide +kernel
theorem dX7_finds_48 : decode cX7_finds 48 = .ok (.bipush 15, 2) := by decide +kernel
theorem dX7_finds_50 : decode cX7_finds 50 = .ok (.if_icmp .ge 27, 3) := by decide +kernel
theorem dX7_finds_53 : decode cX7_finds 53 = .ok (.aload_n 0, 1) := by decide +kernel
theorem dX7_finds_54 : decode cX7_finds 54 = .ok (.iload 5, 2) := by decide +kernel
theorem dX7_finds_56 : decode cX7_finds 56 = .ok (.iload_n 2, 1) := by decide +kernel
theorem dX7_finds_57 : decode cX7_finds 57 = .ok (.iadd, 1) := by decide +kernel
theorem dX7_finds_58 : decode cX7_finds 58 = .ok (.aload_n 0, 1) := by decide +kernel
theorem dX7_finds_59 : decode cX7_finds 59 = .ok (.iload_n 1, 1) := by decide +kernel
theorem dX7_finds_60 : decode cX7_finds 60 = .ok (.iload 5, 2) := by decide +kernel
theorem dX7_finds_62 : decode cX7_finds 62 = .ok (.invokevirtual 79, 3) := by decide +kernel
theorem dX7_finds_65 : decode cX7_finds 65 = .ok (.iload_n 3, 1) := by decide +kernel
theorem dX7_finds_66 : decode cX7_finds 66 = .ok (.iadd, 1) := by decide +kernel
theorem dX7_finds_67 : decode cX7_finds 67 = .ok (.invokevirtual 173, 3) := by decide +kernel
theorem dX7_finds_70 : decode cX7_finds 70 = .ok (.ifCond .eq 7, 3) := by decide +kernel
theorem dX7_finds_73 : decode cX7_finds 73 = .ok (.iconst 1, 1) := by decide +kernel
theorem dX7_finds_74 : decode cX7_finds 74 = .ok (.goto 4, 3) := by decide +kernel
theorem dX7_finds_77 : decode cX7_finds 77 = .ok (.iconst 0, 1) := by decide +kernel
theorem dX7_finds_78 : decode cX7_finds 78 = .ok (.iadd, 1) := by decide +kernel
theorem dX7_finds_79 : decode cX7_finds 79 = .ok (.istore 4, 2) := by decide +kernel
theorem dX7_finds_81 : decode cX7_finds 81 = .ok (.iinc 5 1, 3) := by decide +kernel
theorem dX7_finds_84 : decode cX7_finds 84 = .ok (.goto (-56), 3) := by decide +kernel
theorem dX7_finds_87 : decode cX7_finds 87 = .ok (.iload 4, 2) := by decide +kernel
theorem dX7_finds_89 : decode cX7_finds 89 = .ok (.aload_n 0, 1) := by decide +kernel
theorem dX7_finds_90 : decode cX7_finds 90 = .ok (.getfield 177, 3) := by decide +kernel
theorem dX7_finds_93 : decode cX7_finds 93 = .ok (.if_icmp .le 19, 3) := by decide +kernel
theorem dX7_finds_96 : decode cX7_finds 96 = .ok (.aload_n 0, 1) := by decide +kernel
theorem dX7_finds_97 : decode cX7_finds 97 = .ok (.iload 4, 2) := by decide +kernel
theorem dX7_finds_99 : decode cX7_finds 99 = .ok (.putfield 177, 3) := by decide +kernel
theorem dX7_finds_102 : decode cX7_finds 102 = .ok (.aload_n 0, 1) := by decide +kernel
theorem dX7_finds_103 : decode cX7_finds 103 = .ok (.iload_n 2, 1) := by decide +kernel
theorem dX7_finds_104 : decode cX7_finds 104 = .ok (.putfield 180, 3) := by decide +kernel
theorem dX7_finds_107 : decode cX7_finds 107 = .ok (.aload_n 0, 1) := by decide +kernel
theorem dX7_finds_108 : decode cX7_finds 108 = .ok (.iload_n 3, 1) := by decide +kernel
theorem dX7_finds_109 : decode cX7_finds 109 = .ok (.putfield 183, 3) := by decide +kernel
theorem dX7_finds_112 : decode cX7_finds 112 = .ok (.iinc 3 1, 3) := by decide +kernel
theorem dX7_finds_115 : decode cX7_finds 115 = .ok (.goto (-99), 3) := by decide +kernel
theorem dX7_finds_118 : decode cX7_finds 118 = .ok (.iinc 2 1, 3) := by decide +kernel
theorem dX7_finds_121 : decode cX7_finds 121 = .ok (.goto (-114), 3) := by decide +kernel
theorem dX7_finds_124 : decode cX7_finds 124 = .ok (.return_, 1) := by decide +kernel
theorem dX7_found_0 : decode cX7_found 0 = .ok (.iload_n 1, 1) := by decide +kernel
theorem dX7_found_1 : decode cX7_found 1 = .ok (.invokestatic 50, 3) := by decide +kernel
theorem dX7_found_4 : decode cX7_found 4 = .ok (.ifCond .eq 15, 3) := by decide +kernel
theorem dX7_found_7 : decode cX7_found 7 = .ok (.iload_n 2, 1) := by decide +kernel
theorem dX7_found_8 : decode cX7_found 8 = .ok (.i2l, 1) := by decide +kernel
theorem dX7_found_9 : decode cX7_found 9 = .ok (.lconst 0, 1) := by decide +kernel
theorem dX7_found_10 : decode cX7_found 10 = .ok (.ldc2_w 97, 3) := by decide +kernel
theorem dX7_found_13 : decode cX7_found 13 = .ok (.invokestatic 46, 3) := by decide +kernel
theorem dX7_found_16 : decode cX7_found 16 = .ok (.ifCond .ne 6, 3) := by decide +kernel
theorem dX7_found_19 : decode cX7_found 19 = .ok (.bipush (-100), 2) := by decide +kernel
theorem dX7_found_21 : decode cX7_found 21 = .ok (.ireturn, 1) := by decide +kernel
theorem dX7_found_22 : decode cX7_found 22 = .ok (.aload_n 0, 1) := by decide +kernel
theorem dX7_found_23 : decode cX7_found 23 = .ok (.iload_n 1, 1) := by decide +kernel
theorem dX7_found_24 : decode cX7_found 24 = .ok (.invokevirtual 186, 3) := by decide +kernel
theorem dX7_found_27 : decode cX7_found 27 = .ok (.iload_n 2, 1) := by decide +kernel
theorem dX7_found_28 : decode cX7_found 28 = .ok (.ifCond .ne 10, 3) := by decide +kernel
theorem dX7_found_31 : decode cX7_found 31 = .ok (.aload_n 0, 1) := by decide +kernel
theorem dX7_found_32 : decode cX7_found 32 = .ok (.getfield 177, 3) := by decide +kernel
theorem dX7_found_35 : decode cX7_found 35 = .ok (.goto 19, 3) := by decide +kernel
theorem dX7_found_38 : decode cX7_found 38 = .ok (.iload_n 2, 1) := by decide +kernel
theorem dX7_found_39 : decode cX7_found 39 = .ok (.iconst 1, 1) := by decide +kernel
theorem dX7_found_40 : decode cX7_found 40 = .ok (.if_icmp .ne 10, 3) := by decide +kernel
theorem dX7_found_43 : decode cX7_found 43 = .ok (.aload_n 0, 1) := by decide +kernel
theorem dX7_found_44 : decode cX7_found 44 = .ok (.getfield 180, 3) := by decide +kernel
theorem dX7_found_47 : decode cX7_found 47 = .ok (.goto 7, 3) := by decide +kernel
theorem dX7_found_50 : decode cX7_found 50 = .ok (.aload_n 0, 1) := by decide +kernel
theorem dX7_found_51 : decode cX7_found 51 = .ok (.getfield 183, 3) := by decide +kernel
theorem dX7_found_54 : decode cX7_found 54 = .ok (.ireturn, 1) := by decide +kernel
theorem dX7_among_0 : decode cX7_among 0 = .ok (.iload_n 1, 1) := by decide +kernel
theorem dX7_among_1 : decode cX7_among 1 = .ok (.i2l, 1) := by decide +kernel
theorem dX7_among_2 : decode cX7_among 2 = .ok (.lconst 0, 1) := by decide +kernel
theorem dX7_among_3 : decode cX7_among 3 = .ok (.lconst 1, 1) := by decide +kernel
theorem dX7_among_4 : decode cX7_among 4 = .ok (.invokestatic 46, 3) := by decide +kernel
theorem dX7_among_7 : decode cX7_among 7 = .ok (.ifCond .ne 5, 3) := by decide +kernel
theorem dX7_among_10 : decode cX7_among 10 = .ok (.iconst (-1), 1) := by decide +kernel
theorem dX7_among_11 : decode cX7_among 11 = .ok (.ireturn, 1) := by decide +kernel
theorem dX7_among_12 : decode cX7_among 12 = .ok (.iconst 0, 1) := by decide +kernel
theorem dX7_among_13 : decode cX7_among 13 = .ok (.istore_n 2, 1) := by decide +kernel
theorem dX7_among_14 : decode cX7_among 14 = .ok (.iconst (-1), 1) := by decide +kernel
theorem dX7_among_15 : decode cX7_among 15 = .ok (.istore_n 3, 1) := by decide +kernel
theorem dX7_among_16 : decode cX7_among 16 = .ok (.iconst (-1), 1) := by decide +kernel
theorem dX7_among_17 : decode cX7_among 17 = .ok (.istore 4, 2) := by decide +kernel
theorem dX7_among_19 : decode cX7_among 19 = .ok (.iconst 0, 1) := by decide +kernel
theorem dX7_among_20 : decode cX7_among 20 = .ok (.istore 5, 2) := by decide +kernel
theorem dX7_among_22 : decode cX7_among 22 = .ok (.iload 5, 2) := by decide +kernel
theorem dX7_among_24 : decode cX7_among 24 = .ok (.bipush 6, 2) := by decide +kernel
theorem dX7_among_26 : decode cX7_among 26 = .ok (.if_icmp .ge 52, 3) := by decide +kernel
theorem dX7_among_29 : decode cX7_among 29 = .ok (.aload_n 0, 1) := by decide +kernel
theorem dX7_among_30 : decode cX7_among 30 = .ok (.iload 5, 2) := by decide +kernel
theorem dX7_among_32 : decode cX7_among 32 = .ok (.invokevirtual 186, 3) := by decide +kernel
theorem dX7_among_35 : decode cX7_among 35 = .ok (.aload_n 0, 1) := by decide +kernel
theorem dX7_among_36 : decode cX7_among 36 = .ok (.getfield 177, 3) := by decide +kernel
theorem dX7_among_39 : decode cX7_among 39 = .ok (.iload_n 3, 1) := by decide +kernel
theorem dX7_among_40 : decode cX7_among 40 = .ok (.if_icmp .le 17, 3) := by decide +kernel
theorem dX7_among_43 : decode cX7_among 43 = .ok (.iload_n 3, 1) := by decide +kernel
theorem dX7_among_44 : decode cX7_among 44 = .ok (.istore 4, 2) := by decide +kernel
theorem dX7_among_46 : decode cX7_among 46 = .ok (.aload_n 0, 1) := by decide +kernel
theorem dX7_among_47 : decode cX7_among 47 = .ok (.getfield 177, 3) := by decide +kernel
theorem dX7_among_50 : decode cX7_among 50 = .ok (.istore_n 3, 1) := by decide +kernel
theorem dX7_among_51 : decode cX7_among 51 = .ok (.iload 5, 2) := by decide +kernel
theorem dX7_among_53 : decode cX7_among 53 = .ok (.istore_n 2, 1) := by decide +kernel
theorem dX7_among_54 : decode cX7_among 54 = .ok (.goto 18, 3) := by decide +kernel
theorem dX7_among_57 : decode cX7_among 57 = .ok (.aload_n 0, 1) := by decide +kernel
theorem dX7_among_58 : decode cX7_among 58 = .ok (.getfield 177, 3) := by decide +kernel
theorem dX7_among_61 : decode cX7_among 61 = .ok (.iload 4, 2) := by decide +kernel
theorem dX7_among_63 : decode cX7_among 63 = .ok (.if_icmp .le 9, 3) := by decide +kernel
theorem dX7_among_66 : decode cX7_among 66 = .ok (.aload_n 0, 1) := by decide +kernel
theorem dX7_among_67 : decode cX7_among 67 = .ok (.getfield 177, 3) := by decide +kernel
theorem dX7_among_70 : decode cX7_among 70 = .ok (.istore 4, 2) := by decide +kernel
theorem dX7_among_72 : decode cX7_among 72 = .ok (.iinc 5 1, 3) := by decide +kernel
theorem dX7_among_75 : decode cX7_among 75 = .ok (.goto (-53), 3) := by decide +kernel
theorem dX7_among_78 : decode cX7_among 78 = .ok (.iload_n 1, 1) := by decide +kernel
theorem dX7_among_79 : decode cX7_among 79 = .ok (.ifCond .ne 7, 3) := by decide +kernel
theorem dX7_among_82 : decode cX7_among 82 = .ok (.iload_n 2, 1) := by decide +kernel
theorem dX7_among_83 : decode cX7_among 83 = .ok (.goto 7, 3) := by decide +kernel
theorem dX7_among_86 : decode cX7_among 86 = .ok (.iload_n 3, 1) := by decide +kernel
theorem dX7_among_87 : decode cX7_among 87 = .ok (.iload 4, 2) := by decide +kernel
theorem dX7_among_89 : decode cX7_among 89 = .ok (.isub, 1) := by decide +kernel
theorem dX7_among_90 : decode cX7_among 90 = .ok (.ireturn, 1) := by decide +kernel
theorem dX7_count_0 : decode cX7_count 0 = .ok (.iconst 0, 1) := by decide +kernel
theorem dX7_count_1 : decode cX7_count 1 = .ok (.istore_n 2, 1) := by decide +kernel
theorem dX7_count_2 : decode cX7_count 2 = .ok (.iconst 0, 1) := by decide +kernel
theorem dX7_count_3 : decode cX7_count 3 = .ok (.istore_n 3, 1) := by decide +kernel
theorem dX7_count_4 : decode cX7_count 4 = .ok (.iconst 0, 1) := by decide +kernel
theorem dX7_count_5 : decode cX7_count 5 = .ok (.istore 4, 2) := by decide +kernel
theorem dX7_count_7 : decode cX7_count 7 = .ok (.iload 4, 2) := by decide +kernel
theorem dX7_count_9 : decode cX7_count 9 = .ok (.bipush 6, 2) := by decide +kernel
theorem dX7_count_11 : decode cX7_count 11 = .ok (.if_icmp .ge 61, 3) := by decide +kernel
theorem dX7_count_14 : decode cX7_count 14 = .ok (.iload_n 3, 1) := by decide +kernel
theorem dX7_count_15 : decode cX7_count 15 = .ok (.aload_n 0, 1) := by decide +kernel
theorem dX7_count_16 : decode cX7_count 16 = .ok (.getfield 7, 3) := by decide +kernel
theorem dX7_count_19 : decode cX7_count 19 = .ok (.iload 4, 2) := by decide +kernel
theorem dX7_count_21 : decode cX7_count 21 = .ok (.iaload, 1) := by decide +kernel
theorem dX7_count_22 : decode cX7_count 22 = .ok (.iadd, 1) := by decide +kernel
theorem dX7_count_23 : decode cX7_count 23 = .ok (.istore_n 3, 1) := by decide +kernel
theorem dX7_count_24 : decode cX7_count 24 = .ok (.iconst 0, 1) := by decide +kernel
theorem dX7_count_25 : decode cX7_count 25 = .ok (.istore 5, 2) := by decide +kernel
theorem dX7_count_27 : decode cX7_count 27 = .ok (.iload 5, 2) := by decide +kernel
theorem dX7_count_29 : decode cX7_count 29 = .ok (.aload_n 0, 1) := by decide +kernel
theorem dX7_count_30 : decode cX7_count 30 = .ok (.getfield 7, 3) := by decide +kernel
theorem dX7_count_33 : decode cX7_count 33 = .ok (.iload 4, 2) := by decide +kernel
theorem dX7_count_35 : decode cX7_count 35 = .ok (.iaload, 1) := by decide +kernel
theorem dX7_count_36 : decode cX7_count 36 = .ok (.if_icmp .ge 30, 3) := by decide +kernel
theorem dX7_count_39 : decode cX7_count 39 = .ok (.iload_n 2, 1) := by decide +kernel
theorem dX7_count_40 : decode cX7_count 40 = .ok (.aload_n 0, 1) := by decide +kernel
theorem dX7_count_41 : decode cX7_count 41 = .ok (.iload 4, 2) := by decide +kernel
theorem dX7_count_43 : decode cX7_count 43 = .ok (.iload 5, 2) := by decide +kernel
theorem dX7_count_45 : decode cX7_count 45 = .ok (.invokevirtual 79, 3) := by decide +kernel
theorem dX7_count_48 : decode cX7_count 48 = .ok (.bipush 15, 2) := by decide +kernel
theorem dX7_count_50 : decode cX7_count 50 = .ok (.if_icmp .ge 7, 3) := by decide +kernel
theorem dX7_count_53 : decode cX7_count 53 = .ok (.iconst 1, 1) := by decide +kernel
theorem dX7_count_54 : decode cX7_count 54 = .ok (.goto 4, 3) := by decide +kernel
theorem dX7_count_57 : decode cX7_count 57 = .ok (.iconst 0, 1) := by decide +kernel
theorem dX7_count_58 : decode cX7_count 58 = .ok (.iadd, 1) := by decide +kernel
theorem dX7_count_59 : decode cX7_count 59 = .ok (.istore_n 2, 1) := by decide +kernel
theorem dX7_count_60 : decode cX7_count 60 = .ok (.iinc 5 1, 3) := by decide +kernel
theorem dX7_count_63 : decode cX7_count 63 = .ok (.goto (-36), 3) := by decide +kernel
theorem dX7_count_66 : decode cX7_count 66 = .ok (.iinc 4 1, 3) := by decide +kernel
theorem dX7_count_69 : decode cX7_count 69 = .ok (.goto (-62), 3) := by decide +kernel
theorem dX7_count_72 : decode cX7_count 72 = .ok (.iload_n 1, 1) := by decide +kernel
theorem dX7_count_73 : decode cX7_count 73 = .ok (.ifCond .ne 10, 3) := by decide +kernel
theorem dX7_count_76 : decode cX7_count 76 = .ok (.aload_n 0, 1) := by decide +kernel
theorem dX7_count_77 : decode cX7_count 77 = .ok (.getfield 60, 3) := by decide +kernel
theorem dX7_count_80 : decode cX7_count 80 = .ok (.goto 34, 3) := by decide +kernel
theorem dX7_count_83 : decode cX7_count 83 = .ok (.iload_n 1, 1) := by decide +kernel
theorem dX7_count_84 : decode cX7_count 84 = .ok (.iconst 1, 1) := by decide +kernel
theorem dX7_count_85 : decode cX7_count 85 = .ok (.if_icmp .ne 7, 3) := by decide +kernel
theorem dX7_count_88 : decode cX7_count 88 = .ok (.iload_n 2, 1) := by decide +kernel
theorem dX7_count_89 : decode cX7_count 89 = .ok (.goto 25, 3) := by decide +kernel
theorem dX7_count_92 : decode cX7_count 92 = .ok (.iload_n 1, 1) := by decide +kernel
theorem dX7_count_93 : decode cX7_count 93 = .ok (.iconst 2, 1) := by decide +kernel
theorem dX7_count_94 : decode cX7_count 94 = .ok (.if_icmp .ne 10, 3) := by decide +kernel
theorem dX7_count_97 : decode cX7_count 97 = .ok (.aload_n 0, 1) := by decide +kernel
theorem dX7_count_98 : decode cX7_count 98 = .ok (.getfield 164, 3) := by decide +kernel
theorem dX7_count_101 : decode cX7_count 101 = .ok (.goto 13, 3) := by decide +kernel
theorem dX7_count_104 : decode cX7_count 104 = .ok (.iload_n 1, 1) := by decide +kernel
theorem dX7_count_105 : decode cX7_count 105 = .ok (.iconst 3, 1) := by decide +kernel
theorem dX7_count_106 : decode cX7_count 106 = .ok (.if_icmp .ne 7, 3) := by decide +kernel
theorem dX7_count_109 : decode cX7_count 109 = .ok (.iload_n 3, 1) := by decide +kernel
theorem dX7_count_110 : decode cX7_count 110 = .ok (.goto 4, 3) := by decide +kernel
theorem dX7_count_113 : decode cX7_count 113 = .ok (.iconst (-1), 1) := by decide +kernel
theorem dX7_count_114 : decode cX7_count 114 = .ok (.ireturn, 1) := by decide +kernel
theorem dJ6_bitCount_0f7a4_0 : decode cJ6_bitCount_0f7a4 0 = .ok (.iload_n 0, 1) := by decide +kernel
theorem dJ6_bitCount_0f7a4_1 : decode cJ6_bitCount_0f7a4 1 = .ok (.iload_n 0, 1) := by decide +kernel
theorem dJ6_bitCount_0f7a4_2 : decode cJ6_bitCount_0f7a4 2 = .ok (.iconst 1, 1) := by decide +kernel
theorem dJ6_bitCount_0f7a4_3 : decode cJ6_bitCount_0f7a4 3 = .ok (.iushr, 1) := by decide +kernel
theorem dJ6_bitCount_0f7a4_4 : decode cJ6_bitCount_0f7a4 4 = .ok (.ldc_w 265, 3) := by decide +kernel
theorem dJ6_bitCount_0f7a4_7 : decode cJ6_bitCount_0f7a4 7 = .ok (.iand, 1) := by decide +kernel
theorem dJ6_bitCount_0f7a4_8 : decode cJ6_bitCount_0f7a4 8 = .ok (.isub, 1) := by decide +kernel
theorem dJ6_bitCount_0f7a4_9 : decode cJ6_bitCount_0f7a4 9 = .ok (.istore_n 0, 1) := by decide +kernel
theorem dJ6_bitCount_0f7a4_10 : decode cJ6_bitCount_0f7a4 10 = .ok (.iload_n 0, 1) := by decide +kernel
theorem dJ6_bitCount_0f7a4_11 : decode cJ6_bitCount_0f7a4 11 = .ok (.ldc_w 266, 3) := by decide +kernel
theorem dJ6_bitCount_0f7a4_14 : decode cJ6_bitCount_0f7a4 14 = .ok (.iand, 1) := by decide +kernel
theorem dJ6_bitCount_0f7a4_15 : decode cJ6_bitCount_0f7a4 15 = .ok (.iload_n 0, 1) := by decide +kernel
theorem dJ6_bitCount_0f7a4_16 : decode cJ6_bitCount_0f7a4 16 = .ok (.iconst 2, 1) := by decide +kernel
theorem dJ6_bitCount_0f7a4_17 : decode cJ6_bitCount_0f7a4 17 = .ok (.iushr, 1) := by decide +kernel
theorem dJ6_bitCount_0f7a4_18 : decode cJ6_bitCount_0f7a4 18 = .ok (.ldc_w 266, 3) := by decide +kernel
theorem dJ6_bitCount_0f7a4_21 : decode cJ6_bitCount_0f7a4 21 = .ok (.iand, 1) := by decide +kernel
theorem dJ6_bitCount_0f7a4_22 : decode cJ6_bitCount_0f7a4 22 = .ok (.iadd, 1) := by decide +kernel
theorem dJ6_bitCount_0f7a4_23 : decode cJ6_bitCount_0f7a4 23 = .ok (.istore_n 0, 1) := by decide +kernel
theorem dJ6_bitCount_0f7a4_24 : decode cJ6_bitCount_0f7a4 24 = .ok (.iload_n 0, 1) := by decide +kernel
theorem dJ6_bitCount_0f7a4_25 : decode cJ6_bitCount_0f7a4 25 = .ok (.iload_n 0, 1) := by decide +kernel
theorem dJ6_bitCount_0f7a4_26 : decode cJ6_bitCount_0f7a4 26 = .ok (.iconst 4, 1) := by decide +kernel
theorem dJ6_bitCount_0f7a4_27 : decode cJ6_bitCount_0f7a4 27 = .ok (.iushr, 1) := by decide +kernel
theorem dJ6_bitCount_0f7a4_28 : decode cJ6_bitCount_0f7a4 28 = .ok (.iadd, 1) := by decide +kernel
theorem dJ6_bitCount_0f7a4_29 : decode cJ6_bitCount_0f7a4 29 = .ok (.ldc_w 267, 3) := by decide +kernel
theorem dJ6_bitCount_0f7a4_32 : decode cJ6_bitCount_0f7a4 32 = .ok (.iand, 1) := by decide +kernel
theorem dJ6_bitCount_0f7a4_33 : decode cJ6_bitCount_0f7a4 33 = .ok (.istore_n 0, 1) := by decide +kernel
theorem dJ6_bitCount_0f7a4_34 : decode cJ6_bitCount_0f7a4 34 = .ok (.iload_n 0, 1) := by decide +kernel
theorem dJ6_bitCount_0f7a4_35 : decode cJ6_bitCount_0f7a4 35 = .ok (.iload_n 0, 1) := by decide +kernel
theorem dJ6_bitCount_0f7a4_36 : decode cJ6_bitCount_0f7a4 36 = .ok (.bipush 8, 2) := by decide +kernel
theorem dJ6_bitCount_0f7a4_38 : decode cJ6_bitCount_0f7a4 38 = .ok (.iushr, 1) := by decide +kernel
theorem dJ6_bitCount_0f7a4_39 : decode cJ6_bitCount_0f7a4 39 = .ok (.iadd, 1) := by decide +kernel
theorem dJ6_bitCount_0f7a4_40 : decode cJ6_bitCount_0f7a4 40 = .ok (.istore_n 0, 1) := by decide +kernel
theorem dJ6_bitCount_0f7a4_41 : decode cJ6_bitCount_0f7a4 41 = .ok (.iload_n 0, 1) := by decide +kernel
theorem dJ6_bitCount_0f7a4_42 : decode cJ6_bitCount_0f7a4 42 = .ok (.iload_n 0, 1) := by decide +kernel
theorem dJ6_bitCount_0f7a4_43 : decode cJ6_bitCount_0f7a4 43 = .ok (.bipush 16, 2) := by decide +kernel
theorem dJ6_bitCount_0f7a4_45 : decode cJ6_bitCount_0f7a4 45 = .ok (.iushr, 1) := by decide +kernel
theorem dJ6_bitCount_0f7a4_46 : decode cJ6_bitCount_0f7a4 46 = .ok (.iadd, 1) := by decide +kernel
theorem dJ6_bitCount_0f7a4_47 : decode cJ6_bitCount_0f7a4 47 = .ok (.istore_n 0, 1) := by decide +kernel
theorem dJ6_bitCount_0f7a4_48 : decode cJ6_bitCount_0f7a4 48 = .ok (.iload_n 0, 1) := by decide +kernel
theorem dJ6_bitCount_0f7a4_49 : decode cJ6_bitCount_0f7a4 49 = .ok (.bipush 63, 2) := by decide +kernel
theorem dJ6_bitCount_0f7a4_51 : decode cJ6_bitCount_0f7a4 51 = .ok (.iand, 1) := by decide +kernel
theorem dJ6_bitCount_0f7a4_52 : decode cJ6_bitCount_0f7a4 52 = .ok (.ireturn, 1) := by decide +kernel
theorem dJ9_floorMod_7cf53_0 : decode cJ9_floorMod_7cf53 0 = .ok (.iload_n 0, 1) := by decide +kernel
theorem dJ9_floorMod_7cf53_1 : decode cJ9_floorMod_7cf53 1 = .ok (.iload_n 1, 1) := by decide +kernel
theorem dJ9_floorMod_7cf53_2 : decode cJ9_floorMod_7cf53 2 = .ok (.irem, 1) := by decide +kernel
theorem dJ9_floorMod_7cf53_3 : decode cJ9_floorMod_7cf53 3 = .ok (.istore_n 2, 1) := by decide +kernel
theorem dJ9_floorMod_7cf53_4 : decode cJ9_floorMod_7cf53 4 = .ok (.iload_n 0, 1) := by decide +kernel
theorem dJ9_floorMod_7cf53_5 : decode cJ9_floorMod_7cf53 5 = .ok (.iload_n 1, 1) := by decide +kernel
theorem dJ9_floorMod_7cf53_6 : decode cJ9_floorMod_7cf53 6 = .ok (.ixor, 1) := by decide +kernel
theorem dJ9_floorMod_7cf53_7 : decode cJ9_floorMod_7cf53 7 = .ok (.ifCond .ge 11, 3) := by decide +kernel
theorem dJ9_floorMod_7cf53_10 : decode cJ9_floorMod_7cf53 10 = .ok (.iload_n 2, 1) := by decide +kernel
theorem dJ9_floorMod_7cf53_11 : decode cJ9_floorMod_7cf53 11 = .ok (.ifCond .eq 7, 3) := by decide +kernel
theorem dJ9_floorMod_7cf53_14 : decode cJ9_floorMod_7cf53 14 = .ok (.iload_n 2, 1) := by decide +kernel
theorem dJ9_floorMod_7cf53_15 : decode cJ9_floorMod_7cf53 15 = .ok (.iload_n 1, 1) := by decide +kernel
theorem dJ9_floorMod_7cf53_16 : decode cJ9_floorMod_7cf53 16 = .ok (.iadd, 1) := by decide +kernel
theorem dJ9_floorMod_7cf53_17 : decode cJ9_floorMod_7cf53 17 = .ok (.ireturn, 1) := by decide +kernel
theorem dJ9_floorMod_7cf53_18 : decode cJ9_floorMod_7cf53 18 = .ok (.iload_n 2, 1) := by decide +kernel
theorem dJ9_floorMod_7cf53_19 : decode cJ9_floorMod_7cf53 19 = .ok (.ireturn, 1) := by decide +kernel
theorem dJ7_fill_53178_0 : decode cJ7_fill_53178 0 = .ok (.iconst 0, 1) := by decide +kernel
theorem dJ7_fill_53178_1 : decode cJ7_fill_53178 1 = .ok (.istore_n 2, 1) := by decide +kernel
theorem dJ7_fill_53178_2 : decode cJ7_fill_53178 2 = .ok (.aload_n 0, 1) := by decide +kernel
theorem dJ7_fill_53178_3 : decode cJ7_fill_53178 3 = .ok (.arraylength, 1) := by decide +kernel
theorem dJ7_fill_53178_4 : decode cJ7_fill_53178 4 = .ok (.istore_n 3, 1) := by decide +kernel
theorem dJ7_fill_53178_5 : decode cJ7_fill_53178 5 = .ok (.iload_n 2, 1) := by decide +kernel
theorem dJ7_fill_53178_6 : decode cJ7_fill_53178 6 = .ok (.iload_n 3, 1) := by decide +kernel
theorem dJ7_fill_53178_7 : decode cJ7_fill_53178 7 = .ok (.if_icmp .ge 13, 3) := by decide +kernel
theorem dJ7_fill_53178_10 : decode cJ7_fill_53178 10 = .ok (.aload_n 0, 1) := by decide +kernel
theorem dJ7_fill_53178_11 : decode cJ7_fill_53178 11 = .ok (.iload_n 2, 1) := by decide +kernel
theorem dJ7_fill_53178_12 : decode cJ7_fill_53178 12 = .ok (.iload_n 1, 1) := by decide +kernel
theorem dJ7_fill_53178_13 : decode cJ7_fill_53178 13 = .ok (.iastore, 1) := by decide +kernel
theorem dJ7_fill_53178_14 : decode cJ7_fill_53178 14 = .ok (.iinc 2 1, 3) := by decide +kernel
theorem dJ7_fill_53178_17 : decode cJ7_fill_53178 17 = .ok (.goto (-12), 3) := by decide +kernel
theorem dJ7_fill_53178_20 : decode cJ7_fill_53178 20 = .ok (.return_, 1) := by decide +kernel
theorem dL_law_0 : decode cL_law 0 = .ok (.new 7, 3) := by decide +kernel
theorem dL_law_3 : decode cL_law 3 = .ok (.dup, 1) := by decide +kernel
theorem dL_law_4 : decode cL_law 4 = .ok (.invokespecial 9, 3) := by decide +kernel
theorem dL_law_7 : decode cL_law 7 = .ok (.astore_n 1, 1) := by decide +kernel
theorem dL_law_8 : decode cL_law 8 = .ok (.new 10, 3) := by decide +kernel
theorem dL_law_11 : decode cL_law 11 = .ok (.dup, 1) := by decide +kernel
theorem dL_law_12 : decode cL_law 12 = .ok (.invokespecial 12, 3) := by decide +kernel
theorem dL_law_15 : decode cL_law 15 = .ok (.astore_n 2, 1) := by decide +kernel
theorem dL_law_16 : decode cL_law 16 = .ok (.iconst 0, 1) := by decide +kernel
theorem dL_law_17 : decode cL_law 17 = .ok (.istore_n 3, 1) := by decide +kernel
theorem dL_law_18 : decode cL_law 18 = .ok (.iload_n 3, 1) := by decide +kernel
theorem dL_law_19 : decode cL_law 19 = .ok (.aload_n 0, 1) := by decide +kernel
theorem dL_law_20 : decode cL_law 20 = .ok (.arraylength, 1) := by decide +kernel
theorem dL_law_21 : decode cL_law 21 = .ok (.bipush 6, 2) := by decide +kernel
theorem dL_law_23 : decode cL_law 23 = .ok (.isub, 1) := by decide +kernel
theorem dL_law_24 : decode cL_law 24 = .ok (.if_icmp .gt 1165, 3) := by decide +kernel
theorem dL_law_27 : decode cL_law 27 = .ok (.aload_n 0, 1) := by decide +kernel
theorem dL_law_28 : decode cL_law 28 = .ok (.iload_n 3, 1) := by decide +kernel
theorem dL_law_29 : decode cL_law 29 = .ok (.iaload, 1) := by decide +kernel
theorem dL_law_30 : decode cL_law 30 = .ok (.bipush 31, 2) := by decide +kernel
theorem dL_law_32 : decode cL_law 32 = .ok (.iand, 1) := by decide +kernel
theorem dL_law_33 : decode cL_law 33 = .ok (.tableswitch 1150 0 25 #[119, 202, 265, 278, 291, 314, 347, 371, 424, 467, 546, 589, 632, 675, 708, 771, 804, 857, 910, 943, 966, 1025, 1058, 1071, 1104, 1127], 119) := by decide +kernel
theorem dL_law_152 : decode cL_law 152 = .ok (.aload_n 1, 1) := by decide +kernel
theorem dL_law_153 : decode cL_law 153 = .ok (.aload_n 0, 1) := by decide +kernel
theorem dL_law_154 : decode cL_law 154 = .ok (.iload_n 3, 1) := by decide +kernel
theorem dL_law_155 : decode cL_law 155 = .ok (.iconst 1, 1) := by decide +kernel
theorem dL_law_156 : decode cL_law 156 = .ok (.iadd, 1) := by decide +kernel
theorem dL_law_157 : decode cL_law 157 = .ok (.iaload, 1) := by decide +kernel
theorem dL_law_158 : decode cL_law 158 = .ok (.aload_n 0, 1) := by decide +kernel
theorem dL_law_159 : decode cL_law 159 = .ok (.iload_n 3, 1) := by decide +kernel
theorem dL_law_160 : decode cL_law 160 = .ok (.iconst 2, 1) := by decide +kernel
theorem dL_law_161 : decode cL_law 161 = .ok (.iadd, 1) := by decide +kernel
theorem dL_law_162 : decode cL_law 162 = .ok (.iaload, 1) := by decide +kernel
theorem dL_law_163 : decode cL_law 163 = .ok (.aload_n 0, 1) := by decide +kernel
theorem dL_law_164 : decode cL_law 164 = .ok (.iload_n 3, 1) := by decide +kernel
theorem dL_law_165 : decode cL_law 165 = .ok (.iconst 3, 1) := by decide +kernel
theorem dL_law_166 : decode cL_law 166 = .ok (.iadd, 1) := by decide +kernel
theorem dL_law_167 : decode cL_law 167 = .ok (.iaload, 1) := by decide +kernel
theorem dL_law_168 : decode cL_law 168 = .ok (.aload_n 0, 1) := by decide +kernel
theorem dL_law_169 : decode cL_law 169 = .ok (.iload_n 3, 1) := by decide +kernel
theorem dL_law_170 : decode cL_law 170 = .ok (.iconst 4, 1) := by decide +kernel
theorem dL_law_171 : decode cL_law 171 = .ok (.iadd, 1) := by decide +kernel
theorem dL_law_172 : decode cL_law 172 = .ok (.iaload, 1) := by decide +kernel
theorem dL_law_173 : decode cL_law 173 = .ok (.i2l, 1) := by decide +kernel
theorem dL_law_174 : decode cL_law 174 = .ok (.bipush 32, 2) := by decide +kernel
theorem dL_law_176 : decode cL_law 176 = .ok (.lshl, 1) := by decide +kernel
theorem dL_law_177 : decode cL_law 177 = .ok (.aload_n 0, 1) := by decide +kernel
theorem dL_law_178 : decode cL_law 178 = .ok (.iload_n 3, 1) := by decide +kernel
theorem dL_law_179 : decode cL_law 179 = .ok (.iconst 5, 1) := by decide +kernel
theorem dL_law_180 : decode cL_law 180 = .ok (.iadd, 1) := by decide +kernel
theorem dL_law_181 : decode cL_law 181 = .ok (.iaload, 1) := by decide +kernel
theorem dL_law_182 : decode cL_law 182 = .ok (.i2l, 1) := by decide +kernel
theorem dL_law_183 : decode cL_law 183 = .ok (.ldc2_w 13, 3) := by decide +kernel
theorem dL_law_186 : decode cL_law 186 = .ok (.land, 1) := by decide +kernel
theorem dL_law_187 : decode cL_law 187 = .ok (.lor, 1) := by decide +kernel
theorem dL_law_188 : decode cL_law 188 = .ok (.invokevirtual 15, 3) := by decide +kernel
theorem dL_law_191 : decode cL_law 191 = .ok (.aload_n 2, 1) := by decide +kernel
theorem dL_law_192 : decode cL_law 192 = .ok (.aload_n 0, 1) := by decide +kernel
theorem dL_law_193 : decode cL_law 193 = .ok (.iload_n 3, 1) := by decide +kernel
theorem dL_law_194 : decode cL_law 194 = .ok (.iconst 1, 1) := by decide +kernel
theorem dL_law_195 : decode cL_law 195 = .ok (.iadd, 1) := by decide +kernel
theorem dL_law_196 : decode cL_law 196 = .ok (.iaload, 1) := by decide +kernel
theorem dL_law_197 : decode cL_law 197 = .ok (.aload_n 0, 1) := by decide +kernel
theorem dL_law_198 : decode cL_law 198 = .ok (.iload_n 3, 1) := by decide +kernel
theorem dL_law_199 : decode cL_law 199 = .ok (.iconst 2, 1) := by decide +kernel
theorem dL_law_200 : decode cL_law 200 = .ok (.iadd, 1) := by decide +kernel
theorem dL_law_201 : decode cL_law 201 = .ok (.iaload, 1) := by decide +kernel
theorem dL_law_202 : decode cL_law 202 = .ok (.aload_n 0, 1) := by decide +kernel
theorem dL_law_203 : decode cL_law 203 = .ok (.iload_n 3, 1) := by decide +kernel
theorem dL_law_204 : decode cL_law 204 = .ok (.iconst 3, 1) := by decide +kernel
theorem dL_law_205 : decode cL_law 205 = .ok (.iadd, 1) := by decide +kernel
theorem dL_law_206 : decode cL_law 206 = .ok (.iaload, 1) := by decide +kernel
theorem dL_law_207 : decode cL_law 207 = .ok (.aload_n 0, 1) := by decide +kernel
theorem dL_law_208 : decode cL_law 208 = .ok (.iload_n 3, 1) := by decide +kernel
theorem dL_law_209 : decode cL_law 209 = .ok (.iconst 4, 1) := by decide +kernel
theorem dL_law_210 : decode cL_law 210 = .ok (.iadd, 1) := by decide +kernel
theorem dL_law_211 : decode cL_law 211 = .ok (.iaload, 1) := by decide +kernel
theorem dL_law_212 : decode cL_law 212 = .ok (.i2l, 1) := by decide +kernel
theorem dL_law_213 : decode cL_law 213 = .ok (.bipush 32, 2) := by decide +kernel
theorem dL_law_215 : decode cL_law 215 = .ok (.lshl, 1) := by decide +kernel
theorem dL_law_216 : decode cL_law 216 = .ok (.aload_n 0, 1) := by decide +kernel
theorem dL_law_217 : decode cL_law 217 = .ok (.iload_n 3, 1) := by decide +kernel
theorem dL_law_218 : decode cL_law 218 = .ok (.iconst 5, 1) := by decide +kernel
theorem dL_law_219 : decode cL_law 219 = .ok (.iadd, 1) := by decide +kernel
theorem dL_law_220 : decode cL_law 220 = .ok (.iaload, 1) := by decide +kernel
theorem dL_law_221 : decode cL_law 221 = .ok (.i2l, 1) := by decide +kernel
theorem dL_law_222 : decode cL_law 222 = .ok (.ldc2_w 13, 3) := by decide +kernel
theorem dL_law_225 : decode cL_law 225 = .ok (.land, 1) := by decide +kernel
theorem dL_law_226 : decode cL_law 226 = .ok (.lor, 1) := by decide +kernel
theorem dL_law_227 : decode cL_law 227 = .ok (.invokevirtual 19, 3) := by decide +kernel
theorem dL_law_230 : decode cL_law 230 = .ok (.if_icmp .eq 953, 3) := by decide +kernel
theorem dL_law_233 : decode cL_law 233 = .ok (.iconst 0, 1) := by decide +kernel
theorem dL_law_234 : decode cL_law 234 = .ok (.ireturn, 1) := by decide +kernel
theorem dL_law_235 : decode cL_law 235 = .ok (.aload_n 1, 1) := by decide +kernel
theorem dL_law_236 : decode cL_law 236 = .ok (.aload_n 0, 1) := by decide +kernel
theorem dL_law_237 : decode cL_law 237 = .ok (.iload_n 3, 1) := by decide +kernel
theorem dL_law_238 : decode cL_law 238 = .ok (.iconst 1, 1) := by decide +kernel
theorem dL_law_239 : decode cL_law 239 = .ok (.iadd, 1) := by decide +kernel
theorem dL_law_240 : decode cL_law 240 = .ok (.iaload, 1) := by decide +kernel
theorem dL_law_241 : decode cL_law 241 = .ok (.aload_n 0, 1) := by decide +kernel
theorem dL_law_242 : decode cL_law 242 = .ok (.iload_n 3, 1) := by decide +kernel
theorem dL_law_243 : decode cL_law 243 = .ok (.iconst 2, 1) := by decide +kernel
theorem dL_law_244 : decode cL_law 244 = .ok (.iadd, 1) := by decide +kernel
theorem dL_law_245 : decode cL_law 245 = .ok (.iaload, 1) := by decide +kernel
theorem dL_law_246 : decode cL_law 246 = .ok (.i2l, 1) := by decide +kernel
theorem dL_law_247 : decode cL_law 247 = .ok (.bipush 32, 2) := by decide +kernel
theorem dL_law_249 : decode cL_law 249 = .ok (.lshl, 1) := by decide +kernel
theorem dL_law_250 : decode cL_law 250 = .ok (.aload_n 0, 1) := by decide +kernel
theorem dL_law_251 : decode cL_law 251 = .ok (.iload_n 3, 1) := by decide +kernel
theorem dL_law_252 : decode cL_law 252 = .ok (.iconst 3, 1) := by decide +kernel
theorem dL_law_253 : decode cL_law 253 = .ok (.iadd, 1) := by decide +kernel
theorem dL_law_254 : decode cL_law 254 = .ok (.iaload, 1) := by decide +kernel
theorem dL_law_255 : decode cL_law 255 = .ok (.i2l, 1) := by decide +kernel
theorem dL_law_256 : decode cL_law 256 = .ok (.ldc2_w 13, 3) := by decide +kernel
theorem dL_law_259 : decode cL_law 259 = .ok (.land, 1) := by decide +kernel
theorem dL_law_260 : decode cL_law 260 = .ok (.lor, 1) := by decide +kernel
theorem dL_law_261 : decode cL_law 261 = .ok (.invokevirtual 20, 3) := by decide +kernel
theorem dL_law_264 : decode cL_law 264 = .ok (.aload_n 2, 1) := by decide +kernel
theorem dL_law_265 : decode cL_law 265 = .ok (.aload_n 0, 1) := by decide +kernel
theorem dL_law_266 : decode cL_law 266 = .ok (.iload_n 3, 1) := by decide +kernel
theorem dL_law_267 : decode cL_law 267 = .ok (.iconst 1, 1) := by decide +kernel
theorem dL_law_268 : decode cL_law 268 = .ok (.iadd, 1) := by decide +kernel
theorem dL_law_269 : decode cL_law 269 = .ok (.iaload, 1) := by decide +kernel
theorem dL_law_270 : decode cL_law 270 = .ok (.aload_n 0, 1) := by decide +kernel
theorem dL_law_271 : decode cL_law 271 = .ok (.iload_n 3, 1) := by decide +kernel
theorem dL_law_272 : decode cL_law 272 = .ok (.iconst 2, 1) := by decide +kernel
theorem dL_law_273 : decode cL_law 273 = .ok (.iadd, 1) := by decide +kernel
theorem dL_law_274 : decode cL_law 274 = .ok (.iaload, 1) := by decide +kernel
theorem dL_law_275 : decode cL_law 275 = .ok (.i2l, 1) := by decide +kernel
theorem dL_law_276 : decode cL_law 276 = .ok (.bipush 32, 2) := by decide +kernel
theorem dL_law_278 : decode cL_law 278 = .ok (.lshl, 1) := by decide +kernel
theorem dL_law_279 : decode cL_law 279 = .ok (.aload_n 0, 1) := by decide +kernel
theorem dL_law_280 : decode cL_law 280 = .ok (.iload_n 3, 1) := by decide +kernel
theorem dL_law_281 : decode cL_law 281 = .ok (.iconst 3, 1) := by decide +kernel
theorem dL_law_282 : decode cL_law 282 = .ok (.iadd, 1) := by decide +kernel
theorem dL_law_283 : decode cL_law 283 = .ok (.iaload, 1) := by decide +kernel
theorem dL_law_284 : decode cL_law 284 = .ok (.i2l, 1) := by decide +kernel
theorem dL_law_285 : decode cL_law 285 = .ok (.ldc2_w 13, 3) := by decide +kernel
theorem dL_law_288 : decode cL_law 288 = .ok (.land, 1) := by decide +kernel
theorem dL_law_289 : decode cL_law 289 = .ok (.lor, 1) := by decide +kernel
theorem dL_law_290 : decode cL_law 290 = .ok (.invokevirtual 24, 3) := by decide +kernel
theorem dL_law_293 : decode cL_law 293 = .ok (.if_icmp .eq 890, 3) := by decide +kernel
theorem dL_law_296 : decode cL_law 296 = .ok (.iconst 0, 1) := by decide +kernel
theorem dL_law_297 : decode cL_law 297 = .ok (.ireturn, 1) := by decide +kernel
theorem dL_law_298 : decode cL_law 298 = .ok (.aload_n 1, 1) := by decide +kernel
theorem dL_law_299 : decode cL_law 299 = .ok (.invokevirtual 25, 3) := by decide +kernel
theorem dL_law_302 : decode cL_law 302 = .ok (.aload_n 2, 1) := by decide +kernel
theorem dL_law_303 : decode cL_law 303 = .ok (.invokevirtual 29, 3) := by decide +kernel
theorem dL_law_306 : decode cL_law 306 = .ok (.if_icmp .eq 877, 3) := by decide +kernel
theorem dL_law_309 : decode cL_law 309 = .ok (.iconst 0, 1) := by decide +kernel
theorem dL_law_310 : decode cL_law 310 = .ok (.ireturn, 1) := by decide +kernel
theorem dL_law_311 : decode cL_law 311 = .ok (.aload_n 1, 1) := by decide +kernel
theorem dL_law_312 : decode cL_law 312 = .ok (.invokevirtual 30, 3) := by decide +kernel
theorem dL_law_315 : decode cL_law 315 = .ok (.aload_n 2, 1) := by decide +kernel
theorem dL_law_316 : decode cL_law 316 = .ok (.invokevirtual 33, 3) := by decide +kernel
theorem dL_law_319 : decode cL_law 319 = .ok (.if_icmp .eq 864, 3) := by decide +kernel
theorem dL_law_322 : decode cL_law 322 = .ok (.iconst 0, 1) := by decide +kernel
theorem dL_law_323 : decode cL_law 323 = .ok (.ireturn, 1) := by decide +kernel
theorem dL_law_324 : decode cL_law 324 = .ok (.aload_n 1, 1) := by decide +kernel
theorem dL_law_325 : decode cL_law 325 = .ok (.aload_n 0, 1) := by decide +kernel
theorem dL_law_326 : decode cL_law 326 = .ok (.iload_n 3, 1) := by decide +kernel
theorem dL_law_327 : decode cL_law 327 = .ok (.iconst 1, 1) := by decide +kernel
theorem dL_law_328 : decode cL_law 328 = .ok (.iadd, 1) := by decide +kernel
theorem dL_law_329 : decode cL_law 329 = .ok (.iaload, 1) := by decide +kernel
theorem dL_law_330 : decode cL_law 330 = .ok (.invokevirtual 34, 3) := by decide +kernel
theorem dL_law_333 : decode cL_law 333 = .ok (.aload_n 2, 1) := by decide +kernel
theorem dL_law_334 : decode cL_law 334 = .ok (.aload_n 0, 1) := by decide +kernel
theorem dL_law_335 : decode cL_law 335 = .ok (.iload_n 3, 1) := by decide +kernel
theorem dL_law_336 : decode cL_law 336 = .ok (.iconst 1, 1) := by decide +kernel
theorem dL_law_337 : decode cL_law 337 = .ok (.iadd, 1) := by decide +kernel
theorem dL_law_338 : decode cL_law 338 = .ok (.iaload, 1) := by decide +kernel
theorem dL_law_339 : decode cL_law 339 = .ok (.invokevirtual 38, 3) := by decide +kernel
theorem dL_law_342 : decode cL_law 342 = .ok (.if_icmp .eq 841, 3) := by decide +kernel
theorem dL_law_345 : decode cL_law 345 = .ok (.iconst 0, 1) := by decide +kernel
theorem dL_law_346 : decode cL_law 346 = .ok (.ireturn, 1) := by decide +kernel
theorem dL_law_347 : decode cL_law 347 = .ok (.aload_n 1, 1) := by decide +kernel
theorem dL_law_348 : decode cL_law 348 = .ok (.aload_n 0, 1) := by decide +kernel
theorem dL_law_349 : decode cL_law 349 = .ok (.iload_n 3, 1) := by decide +kernel
theorem dL_law_350 : decode cL_law 350 = .ok (.iconst 1, 1) := by decide +kernel
theorem dL_law_351 : decode cL_law 351 = .ok (.iadd, 1) := by decide +kernel
theorem dL_law_352 : decode cL_law 352 = .ok (.iaload, 1) := by decide +kernel
theorem dL_law_353 : decode cL_law 353 = .ok (.aload_n 0, 1) := by decide +kernel
theorem dL_law_354 : decode cL_law 354 = .ok (.iload_n 3, 1) := by decide +kernel
theorem dL_law_355 : decode cL_law 355 = .ok (.iconst 2, 1) := by decide +kernel
theorem dL_law_356 : decode cL_law 356 = .ok (.iadd, 1) := by decide +kernel
theorem dL_law_357 : decode cL_law 357 = .ok (.iaload, 1) := by decide +kernel
theorem dL_law_358 : decode cL_law 358 = .ok (.invokevirtual 39, 3) := by decide +kernel
theorem dL_law_361 : decode cL_law 361 = .ok (.aload_n 2, 1) := by decide +kernel
theorem dL_law_362 : decode cL_law 362 = .ok (.aload_n 0, 1) := by decide +kernel
theorem dL_law_363 : decode cL_law 363 = .ok (.iload_n 3, 1) := by decide +kernel
theorem dL_law_364 : decode cL_law 364 = .ok (.iconst 1, 1) := by decide +kernel
theorem dL_law_365 : decode cL_law 365 = .ok (.iadd, 1) := by decide +kernel
theorem dL_law_366 : decode cL_law 366 = .ok (.iaload, 1) := by decide +kernel
theorem dL_law_367 : decode cL_law 367 = .ok (.aload_n 0, 1) := by decide +kernel
theorem dL_law_368 : decode cL_law 368 = .ok (.iload_n 3, 1) := by decide +kernel
theorem dL_law_369 : decode cL_law 369 = .ok (.iconst 2, 1) := by decide +kernel
theorem dL_law_370 : decode cL_law 370 = .ok (.iadd, 1) := by decide +kernel
theorem dL_law_371 : decode cL_law 371 = .ok (.iaload, 1) := by decide +kernel
theorem dL_law_372 : decode cL_law 372 = .ok (.invokevirtual 43, 3) := by decide +kernel
theorem dL_law_375 : decode cL_law 375 = .ok (.if_icmp .eq 808, 3) := by decide +kernel
theorem dL_law_378 : decode cL_law 378 = .ok (.iconst 0, 1) := by decide +kernel
theorem dL_law_379 : decode cL_law 379 = .ok (.ireturn, 1) := by decide +kernel
theorem dL_law_380 : decode cL_law 380 = .ok (.aload_n 1, 1) := by decide +kernel
theorem dL_law_381 : decode cL_law 381 = .ok (.aload_n 0, 1) := by decide +kernel
theorem dL_law_382 : decode cL_law 382 = .ok (.iload_n 3, 1) := by decide +kernel
theorem dL_law_383 : decode cL_law 383 = .ok (.iconst 1, 1) := by decide +kernel
theorem dL_law_384 : decode cL_law 384 = .ok (.iadd, 1) := by decide +kernel
theorem dL_law_385 : decode cL_law 385 = .ok (.iaload, 1) := by decide +kernel
theorem dL_law_386 : decode cL_law 386 = .ok (.invokevirtual 44, 3) := by decide +kernel
theorem dL_law_389 : decode cL_law 389 = .ok (.aload_n 2, 1) := by decide +kernel
theorem dL_law_390 : decode cL_law 390 = .ok (.aload_n 0, 1) := by decide +kernel
theorem dL_law_391 : decode cL_law 391 = .ok (.iload_n 3, 1) := by decide +kernel
theorem dL_law_392 : decode cL_law 392 = .ok (.iconst 1, 1) := by decide +kernel
theorem dL_law_393 : decode cL_law 393 = .ok (.iadd, 1) := by decide +kernel
theorem dL_law_394 : decode cL_law 394 = .ok (.iaload, 1) := by decide +kernel
theorem dL_law_395 : decode cL_law 395 = .ok (.invokevirtual 48, 3) := by decide +kernel
theorem dL_law_398 : decode cL_law 398 = .ok (.lcmp, 1) := by decide +kernel
theorem dL_law_399 : decode cL_law 399 = .ok (.ifCond .eq 784, 3) := by decide +kernel
theorem dL_law_402 : decode cL_law 402 = .ok (.iconst 0, 1) := by decide +kernel
theorem dL_law_403 : decode cL_law 403 = .ok (.ireturn, 1) := by decide +kernel
theorem dL_law_404 : decode cL_law 404 = .ok (.aload_n 1, 1) := by decide +kernel
theorem dL_law_405 : decode cL_law 405 = .ok (.aload_n 0, 1) := by decide +kernel
theorem dL_law_406 : decode cL_law 406 = .ok (.iload_n 3, 1) := by decide +kernel
theorem dL_law_407 : decode cL_law 407 = .ok (.iconst 1, 1) := by decide +kernel
theorem dL_law_408 : decode cL_law 408 = .ok (.iadd, 1) := by decide +kernel
theorem dL_law_409 : decode cL_law 409 = .ok (.iaload, 1) := by decide +kernel
theorem dL_law_410 : decode cL_law 410 = .ok (.aload_n 0, 1) := by decide +kernel
theorem dL_law_411 : decode cL_law 411 = .ok (.iload_n 3, 1) := by decide +kernel
theorem dL_law_412 : decode cL_law 412 = .ok (.iconst 2, 1) := by decide +kernel
theorem dL_law_413 : decode cL_law 413 = .ok (.iadd, 1) := by decide +kernel
theorem dL_law_414 : decode cL_law 414 = .ok (.iaload, 1) := by decide +kernel
theorem dL_law_415 : decode cL_law 415 = .ok (.aload_n 0, 1) := by decide +kernel
theorem dL_law_416 : decode cL_law 416 = .ok (.iload_n 3, 1) := by decide +kernel
theorem dL_law_417 : decode cL_law 417 = .ok (.iconst 3, 1) := by decide +kernel
theorem dL_law_418 : decode cL_law 418 = .ok (.iadd, 1) := by decide +kernel
theorem dL_law_419 : decode cL_law 419 = .ok (.iaload, 1) := by decide +kernel
theorem dL_law_420 : decode cL_law 420 = .ok (.aload_n 0, 1) := by decide +kernel
theorem dL_law_421 : decode cL_law 421 = .ok (.iload_n 3, 1) := by decide +kernel
theorem dL_law_422 : decode cL_law 422 = .ok (.iconst 4, 1) := by decide +kernel
theorem dL_law_423 : decode cL_law 423 = .ok (.iadd, 1) := by decide +kernel
theorem dL_law_424 : decode cL_law 424 = .ok (.iaload, 1) := by decide +kernel
theorem dL_law_425 : decode cL_law 425 = .ok (.invokevirtual 49, 3) := by decide +kernel
theorem dL_law_428 : decode cL_law 428 = .ok (.aload_n 2, 1) := by decide +kernel
theorem dL_law_429 : decode cL_law 429 = .ok (.aload_n 0, 1) := by decide +kernel
theorem dL_law_430 : decode cL_law 430 = .ok (.iload_n 3, 1) := by decide +kernel
theorem dL_law_431 : decode cL_law 431 = .ok (.iconst 1, 1) := by decide +kernel
theorem dL_law_432 : decode cL_law 432 = .ok (.iadd, 1) := by decide +kernel
theorem dL_law_433 : decode cL_law 433 = .ok (.iaload, 1) := by decide +kernel
theorem dL_law_434 : decode cL_law 434 = .ok (.aload_n 0, 1) := by decide +kernel
theorem dL_law_435 : decode cL_law 435 = .ok (.iload_n 3, 1) := by decide +kernel
theorem dL_law_436 : decode cL_law 436 = .ok (.iconst 2, 1) := by decide +kernel
theorem dL_law_437 : decode cL_law 437 = .ok (.iadd, 1) := by decide +kernel
theorem dL_law_438 : decode cL_law 438 = .ok (.iaload, 1) := by decide +kernel
theorem dL_law_439 : decode cL_law 439 = .ok (.aload_n 0, 1) := by decide +kernel
theorem dL_law_440 : decode cL_law 440 = .ok (.iload_n 3, 1) := by decide +kernel
theorem dL_law_441 : decode cL_law 441 = .ok (.iconst 3, 1) := by decide +kernel
theorem dL_law_442 : decode cL_law 442 = .ok (.iadd, 1) := by decide +kernel
theorem dL_law_443 : decode cL_law 443 = .ok (.iaload, 1) := by decide +kernel
theorem dL_law_444 : decode cL_law 444 = .ok (.aload_n 0, 1) := by decide +kernel
theorem dL_law_445 : decode cL_law 445 = .ok (.iload_n 3, 1) := by decide +kernel
theorem dL_law_446 : decode cL_law 446 = .ok (.iconst 4, 1) := by decide +kernel
theorem dL_law_447 : decode cL_law 447 = .ok (.iadd, 1) := by decide +kernel
theorem dL_law_448 : decode cL_law 448 = .ok (.iaload, 1) := by decide +kernel
theorem dL_law_449 : decode cL_law 449 = .ok (.invokevirtual 53, 3) := by decide +kernel
theorem dL_law_452 : decode cL_law 452 = .ok (.if_icmp .eq 731, 3) := by decide +kernel
theorem dL_law_455 : decode cL_law 455 = .ok (.iconst 0, 1) := by decide +kernel
theorem dL_law_456 : decode cL_law 456 = .ok (.ireturn, 1) := by decide +kernel
theorem dL_law_457 : decode cL_law 457 = .ok (.aload_n 1, 1) := by decide +kernel
theorem dL_law_458 : decode cL_law 458 = .ok (.aload_n 0, 1) := by decide +kernel
theorem dL_law_459 : decode cL_law 459 = .ok (.iload_n 3, 1) := by decide +kernel
theorem dL_law_460 : decode cL_law 460 = .ok (.iconst 1, 1) := by decide +kernel
theorem dL_law_461 : decode cL_law 461 = .ok (.iadd, 1) := by decide +kernel
theorem dL_law_462 : decode cL_law 462 = .ok (.iaload, 1) := by decide +kernel
theorem dL_law_463 : decode cL_law 463 = .ok (.aload_n 0, 1) := by decide +kernel
theorem dL_law_464 : decode cL_law 464 = .ok (.iload_n 3, 1) := by decide +kernel
theorem dL_law_465 : decode cL_law 465 = .ok (.iconst 2, 1) := by decide +kernel
theorem dL_law_466 : decode cL_law 466 = .ok (.iadd, 1) := by decide +kernel
theorem dL_law_467 : decode cL_law 467 = .ok (.iaload, 1) := by decide +kernel
theorem dL_law_468 : decode cL_law 468 = .ok (.aload_n 0, 1) := by decide +kernel
theorem dL_law_469 : decode cL_law 469 = .ok (.iload_n 3, 1) := by decide +kernel
theorem dL_law_470 : decode cL_law 470 = .ok (.iconst 3, 1) := by decide +kernel
theorem dL_law_471 : decode cL_law 471 = .ok (.iadd, 1) := by decide +kernel
theorem dL_law_472 : decode cL_law 472 = .ok (.iaload, 1) := by decide +kernel
theorem dL_law_473 : decode cL_law 473 = .ok (.invokevirtual 54, 3) := by decide +kernel
theorem dL_law_476 : decode cL_law 476 = .ok (.aload_n 2, 1) := by decide +kernel
theorem dL_law_477 : decode cL_law 477 = .ok (.aload_n 0, 1) := by decide +kernel
theorem dL_law_478 : decode cL_law 478 = .ok (.iload_n 3, 1) := by decide +kernel
theorem dL_law_479 : decode cL_law 479 = .ok (.iconst 1, 1) := by decide +kernel
theorem dL_law_480 : decode cL_law 480 = .ok (.iadd, 1) := by decide +kernel
theorem dL_law_481 : decode cL_law 481 = .ok (.iaload, 1) := by decide +kernel
theorem dL_law_482 : decode cL_law 482 = .ok (.aload_n 0, 1) := by decide +kernel
theorem dL_law_483 : decode cL_law 483 = .ok (.iload_n 3, 1) := by decide +kernel
theorem dL_law_484 : decode cL_law 484 = .ok (.iconst 2, 1) := by decide +kernel
theorem dL_law_485 : decode cL_law 485 = .ok (.iadd, 1) := by decide +kernel
theorem dL_law_486 : decode cL_law 486 = .ok (.iaload, 1) := by decide +kernel
theorem dL_law_487 : decode cL_law 487 = .ok (.aload_n 0, 1) := by decide +kernel
theorem dL_law_488 : decode cL_law 488 = .ok (.iload_n 3, 1) := by decide +kernel
theorem dL_law_489 : decode cL_law 489 = .ok (.iconst 3, 1) := by decide +kernel
theorem dL_law_490 : decode cL_law 490 = .ok (.iadd, 1) := by decide +kernel
theorem dL_law_491 : decode cL_law 491 = .ok (.iaload, 1) := by decide +kernel
theorem dL_law_492 : decode cL_law 492 = .ok (.invokevirtual 58, 3) := by decide +kernel
theorem dL_law_495 : decode cL_law 495 = .ok (.if_icmp .eq 688, 3) := by decide +kernel
theorem dL_law_498 : decode cL_law 498 = .ok (.iconst 0, 1) := by decide +kernel
theorem dL_law_499 : decode cL_law 499 = .ok (.ireturn, 1) := by decide +kernel
theorem dL_law_500 : decode cL_law 500 = .ok (.aload_n 1, 1) := by decide +kernel
theorem dL_law_501 : decode cL_law 501 = .ok (.aload_n 0, 1) := by decide +kernel
theorem dL_law_502 : decode cL_law 502 = .ok (.iload_n 3, 1) := by decide +kernel
theorem dL_law_503 : decode cL_law 503 = .ok (.iconst 1, 1) := by decide +kernel
theorem dL_law_504 : decode cL_law 504 = .ok (.iadd, 1) := by decide +kernel
theorem dL_law_505 : decode cL_law 505 = .ok (.iaload, 1) := by decide +kernel
theorem dL_law_506 : decode cL_law 506 = .ok (.aload_n 0, 1) := by decide +kernel
theorem dL_law_507 : decode cL_law 507 = .ok (.iload_n 3, 1) := by decide +kernel
theorem dL_law_508 : decode cL_law 508 = .ok (.iconst 2, 1) := by decide +kernel
theorem dL_law_509 : decode cL_law 509 = .ok (.iadd, 1) := by decide +kernel
theorem dL_law_510 : decode cL_law 510 = .ok (.iaload, 1) := by decide +kernel
theorem dL_law_511 : decode cL_law 511 = .ok (.aload_n 0, 1) := by decide +kernel
theorem dL_law_512 : decode cL_law 512 = .ok (.iload_n 3, 1) := by decide +kernel
theorem dL_law_513 : decode cL_law 513 = .ok (.iconst 3, 1) := by decide +kernel
theorem dL_law_514 : decode cL_law 514 = .ok (.iadd, 1) := by decide +kernel
theorem dL_law_515 : decode cL_law 515 = .ok (.iaload, 1) := by decide +kernel
theorem dL_law_516 : decode cL_law 516 = .ok (.aload_n 0, 1) := by decide +kernel
theorem dL_law_517 : decode cL_law 517 = .ok (.iload_n 3, 1) := by decide +kernel
theorem dL_law_518 : decode cL_law 518 = .ok (.iconst 4, 1) := by decide +kernel
theorem dL_law_519 : decode cL_law 519 = .ok (.iadd, 1) := by decide +kernel
theorem dL_law_520 : decode cL_law 520 = .ok (.iaload, 1) := by decide +kernel
theorem dL_law_521 : decode cL_law 521 = .ok (.aload_n 0, 1) := by decide +kernel
theorem dL_law_522 : decode cL_law 522 = .ok (.iload_n 3, 1) := by decide +kernel
theorem dL_law_523 : decode cL_law 523 = .ok (.iconst 5, 1) := by decide +kernel
theorem dL_law_524 : decode cL_law 524 = .ok (.iadd, 1) := by decide +kernel
theorem dL_law_525 : decode cL_law 525 = .ok (.iaload, 1) := by decide +kernel
theorem dL_law_526 : decode cL_law 526 = .ok (.ifCond .eq 7, 3) := by decide +kernel
theorem dL_law_529 : decode cL_law 529 = .ok (.iconst 1, 1) := by decide +kernel
theorem dL_law_530 : decode cL_law 530 = .ok (.goto 4, 3) := by decide +kernel
theorem dL_law_533 : decode cL_law 533 = .ok (.iconst 0, 1) := by decide +kernel
theorem dL_law_534 : decode cL_law 534 = .ok (.invokevirtual 59, 3) := by decide +kernel
theorem dL_law_537 : decode cL_law 537 = .ok (.aload_n 2, 1) := by decide +kernel
theorem dL_law_538 : decode cL_law 538 = .ok (.aload_n 0, 1) := by decide +kernel
theorem dL_law_539 : decode cL_law 539 = .ok (.iload_n 3, 1) := by decide +kernel
theorem dL_law_540 : decode cL_law 540 = .ok (.iconst 1, 1) := by decide +kernel
theorem dL_law_541 : decode cL_law 541 = .ok (.iadd, 1) := by decide +kernel
theorem dL_law_542 : decode cL_law 542 = .ok (.iaload, 1) := by decide +kernel
theorem dL_law_543 : decode cL_law 543 = .ok (.aload_n 0, 1) := by decide +kernel
theorem dL_law_544 : decode cL_law 544 = .ok (.iload_n 3, 1) := by decide +kernel
theorem dL_law_545 : decode cL_law 545 = .ok (.iconst 2, 1) := by decide +kernel
theorem dL_law_546 : decode cL_law 546 = .ok (.iadd, 1) := by decide +kernel
theorem dL_law_547 : decode cL_law 547 = .ok (.iaload, 1) := by decide +kernel
theorem dL_law_548 : decode cL_law 548 = .ok (.aload_n 0, 1) := by decide +kernel
theorem dL_law_549 : decode cL_law 549 = .ok (.iload_n 3, 1) := by decide +kernel
theorem dL_law_550 : decode cL_law 550 = .ok (.iconst 3, 1) := by decide +kernel
theorem dL_law_551 : decode cL_law 551 = .ok (.iadd, 1) := by decide +kernel
theorem dL_law_552 : decode cL_law 552 = .ok (.iaload, 1) := by decide +kernel
theorem dL_law_553 : decode cL_law 553 = .ok (.aload_n 0, 1) := by decide +kernel
theorem dL_law_554 : decode cL_law 554 = .ok (.iload_n 3, 1) := by decide +kernel
theorem dL_law_555 : decode cL_law 555 = .ok (.iconst 4, 1) := by decide +kernel
theorem dL_law_556 : decode cL_law 556 = .ok (.iadd, 1) := by decide +kernel
theorem dL_law_557 : decode cL_law 557 = .ok (.iaload, 1) := by decide +kernel
theorem dL_law_558 : decode cL_law 558 = .ok (.aload_n 0, 1) := by decide +kernel
theorem dL_law_559 : decode cL_law 559 = .ok (.iload_n 3, 1) := by decide +kernel
theorem dL_law_560 : decode cL_law 560 = .ok (.iconst 5, 1) := by decide +kernel
theorem dL_law_561 : decode cL_law 561 = .ok (.iadd, 1) := by decide +kernel
theorem dL_law_562 : decode cL_law 562 = .ok (.iaload, 1) := by decide +kernel
theorem dL_law_563 : decode cL_law 563 = .ok (.ifCond .eq 7, 3) := by decide +kernel
theorem dL_law_566 : decode cL_law 566 = .ok (.iconst 1, 1) := by decide +kernel
theorem dL_law_567 : decode cL_law 567 = .ok (.goto 4, 3) := by decide +kernel
theorem dL_law_570 : decode cL_law 570 = .ok (.iconst 0, 1) := by decide +kernel
theorem dL_law_571 : decode cL_law 571 = .ok (.invokevirtual 63, 3) := by decide +kernel
theorem dL_law_574 : decode cL_law 574 = .ok (.if_icmp .eq 609, 3) := by decide +kernel
theorem dL_law_577 : decode cL_law 577 = .ok (.iconst 0, 1) := by decide +kernel
theorem dL_law_578 : decode cL_law 578 = .ok (.ireturn, 1) := by decide +kernel
theorem dL_law_579 : decode cL_law 579 = .ok (.aload_n 1, 1) := by decide +kernel
theorem dL_law_580 : decode cL_law 580 = .ok (.aload_n 0, 1) := by decide +kernel
theorem dL_law_581 : decode cL_law 581 = .ok (.iload_n 3, 1) := by decide +kernel
theorem dL_law_582 : decode cL_law 582 = .ok (.iconst 1, 1) := by decide +kernel
theorem dL_law_583 : decode cL_law 583 = .ok (.iadd, 1) := by decide +kernel
theorem dL_law_584 : decode cL_law 584 = .ok (.iaload, 1) := by decide +kernel
theorem dL_law_585 : decode cL_law 585 = .ok (.aload_n 0, 1) := by decide +kernel
theorem dL_law_586 : decode cL_law 586 = .ok (.iload_n 3, 1) := by decide +kernel
theorem dL_law_587 : decode cL_law 587 = .ok (.iconst 2, 1) := by decide +kernel
theorem dL_law_588 : decode cL_law 588 = .ok (.iadd, 1) := by decide +kernel
theorem dL_law_589 : decode cL_law 589 = .ok (.iaload, 1) := by decide +kernel
theorem dL_law_590 : decode cL_law 590 = .ok (.aload_n 0, 1) := by decide +kernel
theorem dL_law_591 : decode cL_law 591 = .ok (.iload_n 3, 1) := by decide +kernel
theorem dL_law_592 : decode cL_law 592 = .ok (.iconst 3, 1) := by decide +kernel
theorem dL_law_593 : decode cL_law 593 = .ok (.iadd, 1) := by decide +kernel
theorem dL_law_594 : decode cL_law 594 = .ok (.iaload, 1) := by decide +kernel
theorem dL_law_595 : decode cL_law 595 = .ok (.invokevirtual 64, 3) := by decide +kernel
theorem dL_law_598 : decode cL_law 598 = .ok (.aload_n 2, 1) := by decide +kernel
theorem dL_law_599 : decode cL_law 599 = .ok (.aload_n 0, 1) := by decide +kernel
theorem dL_law_600 : decode cL_law 600 = .ok (.iload_n 3, 1) := by decide +kernel
theorem dL_law_601 : decode cL_law 601 = .ok (.iconst 1, 1) := by decide +kernel
theorem dL_law_602 : decode cL_law 602 = .ok (.iadd, 1) := by decide +kernel
theorem dL_law_603 : decode cL_law 603 = .ok (.iaload, 1) := by decide +kernel
theorem dL_law_604 : decode cL_law 604 = .ok (.aload_n 0, 1) := by decide +kernel
theorem dL_law_605 : decode cL_law 605 = .ok (.iload_n 3, 1) := by decide +kernel
theorem dL_law_606 : decode cL_law 606 = .ok (.iconst 2, 1) := by decide +kernel
theorem dL_law_607 : decode cL_law 607 = .ok (.iadd, 1) := by decide +kernel
theorem dL_law_608 : decode cL_law 608 = .ok (.iaload, 1) := by decide +kernel
theorem dL_law_609 : decode cL_law 609 = .ok (.aload_n 0, 1) := by decide +kernel
theorem dL_law_610 : decode cL_law 610 = .ok (.iload_n 3, 1) := by decide +kernel
theorem dL_law_611 : decode cL_law 611 = .ok (.iconst 3, 1) := by decide +kernel
theorem dL_law_612 : decode cL_law 612 = .ok (.iadd, 1) := by decide +kernel
theorem dL_law_613 : decode cL_law 613 = .ok (.iaload, 1) := by decide +kernel
theorem dL_law_614 : decode cL_law 614 = .ok (.invokevirtual 67, 3) := by decide +kernel
theorem dL_law_617 : decode cL_law 617 = .ok (.if_icmp .eq 566, 3) := by decide +kernel
theorem dL_law_620 : decode cL_law 620 = .ok (.iconst 0, 1) := by decide +kernel
theorem dL_law_621 : decode cL_law 621 = .ok (.ireturn, 1) := by decide +kernel
theorem dL_law_622 : decode cL_law 622 = .ok (.aload_n 1, 1) := by decide +kernel
theorem dL_law_623 : decode cL_law 623 = .ok (.aload_n 0, 1) := by decide +kernel
theorem dL_law_624 : decode cL_law 624 = .ok (.iload_n 3, 1) := by decide +kernel
theorem dL_law_625 : decode cL_law 625 = .ok (.iconst 1, 1) := by decide +kernel
theorem dL_law_626 : decode cL_law 626 = .ok (.iadd, 1) := by decide +kernel
theorem dL_law_627 : decode cL_law 627 = .ok (.iaload, 1) := by decide +kernel
theorem dL_law_628 : decode cL_law 628 = .ok (.aload_n 0, 1) := by decide +kernel
theorem dL_law_629 : decode cL_law 629 = .ok (.iload_n 3, 1) := by decide +kernel
theorem dL_law_630 : decode cL_law 630 = .ok (.iconst 2, 1) := by decide +kernel
theorem dL_law_631 : decode cL_law 631 = .ok (.iadd, 1) := by decide +kernel
theorem dL_law_632 : decode cL_law 632 = .ok (.iaload, 1) := by decide +kernel
theorem dL_law_633 : decode cL_law 633 = .ok (.aload_n 0, 1) := by decide +kernel
theorem dL_law_634 : decode cL_law 634 = .ok (.iload_n 3, 1) := by decide +kernel
theorem dL_law_635 : decode cL_law 635 = .ok (.iconst 3, 1) := by decide +kernel
theorem dL_law_636 : decode cL_law 636 = .ok (.iadd, 1) := by decide +kernel
theorem dL_law_637 : decode cL_law 637 = .ok (.iaload, 1) := by decide +kernel
theorem dL_law_638 : decode cL_law 638 = .ok (.invokevirtual 68, 3) := by decide +kernel
theorem dL_law_641 : decode cL_law 641 = .ok (.aload_n 2, 1) := by decide +kernel
theorem dL_law_642 : decode cL_law 642 = .ok (.aload_n 0, 1) := by decide +kernel
theorem dL_law_643 : decode cL_law 643 = .ok (.iload_n 3, 1) := by decide +kernel
theorem dL_law_644 : decode cL_law 644 = .ok (.iconst 1, 1) := by decide +kernel
theorem dL_law_645 : decode cL_law 645 = .ok (.iadd, 1) := by decide +kernel
theorem dL_law_646 : decode cL_law 646 = .ok (.iaload, 1) := by decide +kernel
theorem dL_law_647 : decode cL_law 647 = .ok (.aload_n 0, 1) := by decide +kernel
theorem dL_law_648 : decode cL_law 648 = .ok (.iload_n 3, 1) := by decide +kernel
theorem dL_law_649 : decode cL_law 649 = .ok (.iconst 2, 1) := by decide +kernel
theorem dL_law_650 : decode cL_law 650 = .ok (.iadd, 1) := by decide +kernel
theorem dL_law_651 : decode cL_law 651 = .ok (.iaload, 1) := by decide +kernel
theorem dL_law_652 : decode cL_law 652 = .ok (.aload_n 0, 1) := by decide +kernel
theorem dL_law_653 : decode cL_law 653 = .ok (.iload_n 3, 1) := by decide +kernel
theorem dL_law_654 : decode cL_law 654 = .ok (.iconst 3, 1) := by decide +kernel
theorem dL_law_655 : decode cL_law 655 = .ok (.iadd, 1) := by decide +kernel
theorem dL_law_656 : decode cL_law 656 = .ok (.iaload, 1) := by decide +kernel
theorem dL_law_657 : decode cL_law 657 = .ok (.invokevirtual 71, 3) := by decide +kernel
theorem dL_law_660 : decode cL_law 660 = .ok (.if_icmp .eq 523, 3) := by decide +kernel
theorem dL_law_663 : decode cL_law 663 = .ok (.iconst 0, 1) := by decide +kernel
theorem dL_law_664 : decode cL_law 664 = .ok (.ireturn, 1) := by decide +kernel
theorem dL_law_665 : decode cL_law 665 = .ok (.aload_n 1, 1) := by decide +kernel
theorem dL_law_666 : decode cL_law 666 = .ok (.aload_n 0, 1) := by decide +kernel
theorem dL_law_667 : decode cL_law 667 = .ok (.iload_n 3, 1) := by decide +kernel
theorem dL_law_668 : decode cL_law 668 = .ok (.iconst 1, 1) := by decide +kernel
theorem dL_law_669 : decode cL_law 669 = .ok (.iadd, 1) := by decide +kernel
theorem dL_law_670 : decode cL_law 670 = .ok (.iaload, 1) := by decide +kernel
theorem dL_law_671 : decode cL_law 671 = .ok (.aload_n 0, 1) := by decide +kernel
theorem dL_law_672 : decode cL_law 672 = .ok (.iload_n 3, 1) := by decide +kernel
theorem dL_law_673 : decode cL_law 673 = .ok (.iconst 2, 1) := by decide +kernel
theorem dL_law_674 : decode cL_law 674 = .ok (.iadd, 1) := by decide +kernel
theorem dL_law_675 : decode cL_law 675 = .ok (.iaload, 1) := by decide +kernel
theorem dL_law_676 : decode cL_law 676 = .ok (.aload_n 0, 1) := by decide +kernel
theorem dL_law_677 : decode cL_law 677 = .ok (.iload_n 3, 1) := by decide +kernel
theorem dL_law_678 : decode cL_law 678 = .ok (.iconst 3, 1) := by decide +kernel
theorem dL_law_679 : decode cL_law 679 = .ok (.iadd, 1) := by decide +kernel
theorem dL_law_680 : decode cL_law 680 = .ok (.iaload, 1) := by decide +kernel
theorem dL_law_681 : decode cL_law 681 = .ok (.invokevirtual 72, 3) := by decide +kernel
theorem dL_law_684 : decode cL_law 684 = .ok (.aload_n 2, 1) := by decide +kernel
theorem dL_law_685 : decode cL_law 685 = .ok (.aload_n 0, 1) := by decide +kernel
theorem dL_law_686 : decode cL_law 686 = .ok (.iload_n 3, 1) := by decide +kernel
theorem dL_law_687 : decode cL_law 687 = .ok (.iconst 1, 1) := by decide +kernel
theorem dL_law_688 : decode cL_law 688 = .ok (.iadd, 1) := by decide +kernel
theorem dL_law_689 : decode cL_law 689 = .ok (.iaload, 1) := by decide +kernel
theorem dL_law_690 : decode cL_law 690 = .ok (.aload_n 0, 1) := by decide +kernel
theorem dL_law_691 : decode cL_law 691 = .ok (.iload_n 3, 1) := by decide +kernel
theorem dL_law_692 : decode cL_law 692 = .ok (.iconst 2, 1) := by decide +kernel
theorem dL_law_693 : decode cL_law 693 = .ok (.iadd, 1) := by decide +kernel
theorem dL_law_694 : decode cL_law 694 = .ok (.iaload, 1) := by decide +kernel
theorem dL_law_695 : decode cL_law 695 = .ok (.aload_n 0, 1) := by decide +kernel
theorem dL_law_696 : decode cL_law 696 = .ok (.iload_n 3, 1) := by decide +kernel
theorem dL_law_697 : decode cL_law 697 = .ok (.iconst 3, 1) := by decide +kernel
theorem dL_law_698 : decode cL_law 698 = .ok (.iadd, 1) := by decide +kernel
theorem dL_law_699 : decode cL_law 699 = .ok (.iaload, 1) := by decide +kernel
theorem dL_law_700 : decode cL_law 700 = .ok (.invokevirtual 75, 3) := by decide +kernel
theorem dL_law_703 : decode cL_law 703 = .ok (.if_icmp .eq 480, 3) := by decide +kernel
theorem dL_law_706 : decode cL_law 706 = .ok (.iconst 0, 1) := by decide +kernel
theorem dL_law_707 : decode cL_law 707 = .ok (.ireturn, 1) := by decide +kernel
theorem dL_law_708 : decode cL_law 708 = .ok (.aload_n 1, 1) := by decide +kernel
theorem dL_law_709 : decode cL_law 709 = .ok (.aload_n 0, 1) := by decide +kernel
theorem dL_law_710 : decode cL_law 710 = .ok (.iload_n 3, 1) := by decide +kernel
theorem dL_law_711 : decode cL_law 711 = .ok (.iconst 1, 1) := by decide +kernel
theorem dL_law_712 : decode cL_law 712 = .ok (.iadd, 1) := by decide +kernel
theorem dL_law_713 : decode cL_law 713 = .ok (.iaload, 1) := by decide +kernel
theorem dL_law_714 : decode cL_law 714 = .ok (.aload_n 0, 1) := by decide +kernel
theorem dL_law_715 : decode cL_law 715 = .ok (.iload_n 3, 1) := by decide +kernel
theorem dL_law_716 : decode cL_law 716 = .ok (.iconst 2, 1) := by decide +kernel
theorem dL_law_717 : decode cL_law 717 = .ok (.iadd, 1) := by decide +kernel
theorem dL_law_718 : decode cL_law 718 = .ok (.iaload, 1) := by decide +kernel
theorem dL_law_719 : decode cL_law 719 = .ok (.invokevirtual 76, 3) := by decide +kernel
theorem dL_law_722 : decode cL_law 722 = .ok (.aload_n 2, 1) := by decide +kernel
theorem dL_law_723 : decode cL_law 723 = .ok (.aload_n 0, 1) := by decide +kernel
theorem dL_law_724 : decode cL_law 724 = .ok (.iload_n 3, 1) := by decide +kernel
theorem dL_law_725 : decode cL_law 725 = .ok (.iconst 1, 1) := by decide +kernel
theorem dL_law_726 : decode cL_law 726 = .ok (.iadd, 1) := by decide +kernel
theorem dL_law_727 : decode cL_law 727 = .ok (.iaload, 1) := by decide +kernel
theorem dL_law_728 : decode cL_law 728 = .ok (.aload_n 0, 1) := by decide +kernel
theorem dL_law_729 : decode cL_law 729 = .ok (.iload_n 3, 1) := by decide +kernel
theorem dL_law_730 : decode cL_law 730 = .ok (.iconst 2, 1) := by decide +kernel
theorem dL_law_731 : decode cL_law 731 = .ok (.iadd, 1) := by decide +kernel
theorem dL_law_732 : decode cL_law 732 = .ok (.iaload, 1) := by decide +kernel
theorem dL_law_733 : decode cL_law 733 = .ok (.invokevirtual 79, 3) := by decide +kernel
theorem dL_law_736 : decode cL_law 736 = .ok (.if_icmp .eq 447, 3) := by decide +kernel
theorem dL_law_739 : decode cL_law 739 = .ok (.iconst 0, 1) := by decide +kernel
theorem dL_law_740 : decode cL_law 740 = .ok (.ireturn, 1) := by decide +kernel
theorem dL_law_741 : decode cL_law 741 = .ok (.aload_n 1, 1) := by decide +kernel
theorem dL_law_742 : decode cL_law 742 = .ok (.aload_n 0, 1) := by decide +kernel
theorem dL_law_743 : decode cL_law 743 = .ok (.iload_n 3, 1) := by decide +kernel
theorem dL_law_744 : decode cL_law 744 = .ok (.iconst 1, 1) := by decide +kernel
theorem dL_law_745 : decode cL_law 745 = .ok (.iadd, 1) := by decide +kernel
theorem dL_law_746 : decode cL_law 746 = .ok (.iaload, 1) := by decide +kernel
theorem dL_law_747 : decode cL_law 747 = .ok (.aload_n 0, 1) := by decide +kernel
theorem dL_law_748 : decode cL_law 748 = .ok (.iload_n 3, 1) := by decide +kernel
theorem dL_law_749 : decode cL_law 749 = .ok (.iconst 2, 1) := by decide +kernel
theorem dL_law_750 : decode cL_law 750 = .ok (.iadd, 1) := by decide +kernel
theorem dL_law_751 : decode cL_law 751 = .ok (.iaload, 1) := by decide +kernel
theorem dL_law_752 : decode cL_law 752 = .ok (.aload_n 0, 1) := by decide +kernel
theorem dL_law_753 : decode cL_law 753 = .ok (.iload_n 3, 1) := by decide +kernel
theorem dL_law_754 : decode cL_law 754 = .ok (.iconst 3, 1) := by decide +kernel
theorem dL_law_755 : decode cL_law 755 = .ok (.iadd, 1) := by decide +kernel
theorem dL_law_756 : decode cL_law 756 = .ok (.iaload, 1) := by decide +kernel
theorem dL_law_757 : decode cL_law 757 = .ok (.aload_n 0, 1) := by decide +kernel
theorem dL_law_758 : decode cL_law 758 = .ok (.iload_n 3, 1) := by decide +kernel
theorem dL_law_759 : decode cL_law 759 = .ok (.iconst 4, 1) := by decide +kernel
theorem dL_law_760 : decode cL_law 760 = .ok (.iadd, 1) := by decide +kernel
theorem dL_law_761 : decode cL_law 761 = .ok (.iaload, 1) := by decide +kernel
theorem dL_law_762 : decode cL_law 762 = .ok (.aload_n 0, 1) := by decide +kernel
theorem dL_law_763 : decode cL_law 763 = .ok (.iload_n 3, 1) := by decide +kernel
theorem dL_law_764 : decode cL_law 764 = .ok (.iconst 5, 1) := by decide +kernel
theorem dL_law_765 : decode cL_law 765 = .ok (.iadd, 1) := by decide +kernel
theorem dL_law_766 : decode cL_law 766 = .ok (.iaload, 1) := by decide +kernel
theorem dL_law_767 : decode cL_law 767 = .ok (.invokevirtual 80, 3) := by decide +kernel
theorem dL_law_770 : decode cL_law 770 = .ok (.aload_n 2, 1) := by decide +kernel
theorem dL_law_771 : decode cL_law 771 = .ok (.aload_n 0, 1) := by decide +kernel
theorem dL_law_772 : decode cL_law 772 = .ok (.iload_n 3, 1) := by decide +kernel
theorem dL_law_773 : decode cL_law 773 = .ok (.iconst 1, 1) := by decide +kernel
theorem dL_law_774 : decode cL_law 774 = .ok (.iadd, 1) := by decide +kernel
theorem dL_law_775 : decode cL_law 775 = .ok (.iaload, 1) := by decide +kernel
theorem dL_law_776 : decode cL_law 776 = .ok (.aload_n 0, 1) := by decide +kernel
theorem dL_law_777 : decode cL_law 777 = .ok (.iload_n 3, 1) := by decide +kernel
theorem dL_law_778 : decode cL_law 778 = .ok (.iconst 2, 1) := by decide +kernel
theorem dL_law_779 : decode cL_law 779 = .ok (.iadd, 1) := by decide +kernel
theorem dL_law_780 : decode cL_law 780 = .ok (.iaload, 1) := by decide +kernel
theorem dL_law_781 : decode cL_law 781 = .ok (.aload_n 0, 1) := by decide +kernel
theorem dL_law_782 : decode cL_law 782 = .ok (.iload_n 3, 1) := by decide +kernel
theorem dL_law_783 : decode cL_law 783 = .ok (.iconst 3, 1) := by decide +kernel
theorem dL_law_784 : decode cL_law 784 = .ok (.iadd, 1) := by decide +kernel
theorem dL_law_785 : decode cL_law 785 = .ok (.iaload, 1) := by decide +kernel
theorem dL_law_786 : decode cL_law 786 = .ok (.aload_n 0, 1) := by decide +kernel
theorem dL_law_787 : decode cL_law 787 = .ok (.iload_n 3, 1) := by decide +kernel
theorem dL_law_788 : decode cL_law 788 = .ok (.iconst 4, 1) := by decide +kernel
theorem dL_law_789 : decode cL_law 789 = .ok (.iadd, 1) := by decide +kernel
theorem dL_law_790 : decode cL_law 790 = .ok (.iaload, 1) := by decide +kernel
theorem dL_law_791 : decode cL_law 791 = .ok (.aload_n 0, 1) := by decide +kernel
theorem dL_law_792 : decode cL_law 792 = .ok (.iload_n 3, 1) := by decide +kernel
theorem dL_law_793 : decode cL_law 793 = .ok (.iconst 5, 1) := by decide +kernel
theorem dL_law_794 : decode cL_law 794 = .ok (.iadd, 1) := by decide +kernel
theorem dL_law_795 : decode cL_law 795 = .ok (.iaload, 1) := by decide +kernel
theorem dL_law_796 : decode cL_law 796 = .ok (.invokevirtual 84, 3) := by decide +kernel
theorem dL_law_799 : decode cL_law 799 = .ok (.if_icmp .eq 384, 3) := by decide +kernel
theorem dL_law_802 : decode cL_law 802 = .ok (.iconst 0, 1) := by decide +kernel
theorem dL_law_803 : decode cL_law 803 = .ok (.ireturn, 1) := by decide +kernel
theorem dL_law_804 : decode cL_law 804 = .ok (.aload_n 1, 1) := by decide +kernel
theorem dL_law_805 : decode cL_law 805 = .ok (.aload_n 0, 1) := by decide +kernel
theorem dL_law_806 : decode cL_law 806 = .ok (.iload_n 3, 1) := by decide +kernel
theorem dL_law_807 : decode cL_law 807 = .ok (.iconst 1, 1) := by decide +kernel
theorem dL_law_808 : decode cL_law 808 = .ok (.iadd, 1) := by decide +kernel
theorem dL_law_809 : decode cL_law 809 = .ok (.iaload, 1) := by decide +kernel
theorem dL_law_810 : decode cL_law 810 = .ok (.aload_n 0, 1) := by decide +kernel
theorem dL_law_811 : decode cL_law 811 = .ok (.iload_n 3, 1) := by decide +kernel
theorem dL_law_812 : decode cL_law 812 = .ok (.iconst 2, 1) := by decide +kernel
theorem dL_law_813 : decode cL_law 813 = .ok (.iadd, 1) := by decide +kernel
theorem dL_law_814 : decode cL_law 814 = .ok (.iaload, 1) := by decide +kernel
theorem dL_law_815 : decode cL_law 815 = .ok (.invokevirtual 85, 3) := by decide +kernel
theorem dL_law_818 : decode cL_law 818 = .ok (.aload_n 2, 1) := by decide +kernel
theorem dL_law_819 : decode cL_law 819 = .ok (.aload_n 0, 1) := by decide +kernel
theorem dL_law_820 : decode cL_law 820 = .ok (.iload_n 3, 1) := by decide +kernel
theorem dL_law_821 : decode cL_law 821 = .ok (.iconst 1, 1) := by decide +kernel
theorem dL_law_822 : decode cL_law 822 = .ok (.iadd, 1) := by decide +kernel
theorem dL_law_823 : decode cL_law 823 = .ok (.iaload, 1) := by decide +kernel
theorem dL_law_824 : decode cL_law 824 = .ok (.aload_n 0, 1) := by decide +kernel
theorem dL_law_825 : decode cL_law 825 = .ok (.iload_n 3, 1) := by decide +kernel
theorem dL_law_826 : decode cL_law 826 = .ok (.iconst 2, 1) := by decide +kernel
theorem dL_law_827 : decode cL_law 827 = .ok (.iadd, 1) := by decide +kernel
theorem dL_law_828 : decode cL_law 828 = .ok (.iaload, 1) := by decide +kernel
theorem dL_law_829 : decode cL_law 829 = .ok (.invokevirtual 88, 3) := by decide +kernel
theorem dL_law_832 : decode cL_law 832 = .ok (.if_icmp .eq 351, 3) := by decide +kernel
theorem dL_law_835 : decode cL_law 835 = .ok (.iconst 0, 1) := by decide +kernel
theorem dL_law_836 : decode cL_law 836 = .ok (.ireturn, 1) := by decide +kernel
theorem dL_law_837 : decode cL_law 837 = .ok (.aload_n 1, 1) := by decide +kernel
theorem dL_law_838 : decode cL_law 838 = .ok (.aload_n 0, 1) := by decide +kernel
theorem dL_law_839 : decode cL_law 839 = .ok (.iload_n 3, 1) := by decide +kernel
theorem dL_law_840 : decode cL_law 840 = .ok (.iconst 1, 1) := by decide +kernel
theorem dL_law_841 : decode cL_law 841 = .ok (.iadd, 1) := by decide +kernel
theorem dL_law_842 : decode cL_law 842 = .ok (.iaload, 1) := by decide +kernel
theorem dL_law_843 : decode cL_law 843 = .ok (.aload_n 0, 1) := by decide +kernel
theorem dL_law_844 : decode cL_law 844 = .ok (.iload_n 3, 1) := by decide +kernel
theorem dL_law_845 : decode cL_law 845 = .ok (.iconst 2, 1) := by decide +kernel
theorem dL_law_846 : decode cL_law 846 = .ok (.iadd, 1) := by decide +kernel
theorem dL_law_847 : decode cL_law 847 = .ok (.iaload, 1) := by decide +kernel
theorem dL_law_848 : decode cL_law 848 = .ok (.aload_n 0, 1) := by decide +kernel
theorem dL_law_849 : decode cL_law 849 = .ok (.iload_n 3, 1) := by decide +kernel
theorem dL_law_850 : decode cL_law 850 = .ok (.iconst 3, 1) := by decide +kernel
theorem dL_law_851 : decode cL_law 851 = .ok (.iadd, 1) := by decide +kernel
theorem dL_law_852 : decode cL_law 852 = .ok (.iaload, 1) := by decide +kernel
theorem dL_law_853 : decode cL_law 853 = .ok (.aload_n 0, 1) := by decide +kernel
theorem dL_law_854 : decode cL_law 854 = .ok (.iload_n 3, 1) := by decide +kernel
theorem dL_law_855 : decode cL_law 855 = .ok (.iconst 4, 1) := by decide +kernel
theorem dL_law_856 : decode cL_law 856 = .ok (.iadd, 1) := by decide +kernel
theorem dL_law_857 : decode cL_law 857 = .ok (.iaload, 1) := by decide +kernel
theorem dL_law_858 : decode cL_law 858 = .ok (.invokevirtual 89, 3) := by decide +kernel
theorem dL_law_861 : decode cL_law 861 = .ok (.aload_n 2, 1) := by decide +kernel
theorem dL_law_862 : decode cL_law 862 = .ok (.aload_n 0, 1) := by decide +kernel
theorem dL_law_863 : decode cL_law 863 = .ok (.iload_n 3, 1) := by decide +kernel
theorem dL_law_864 : decode cL_law 864 = .ok (.iconst 1, 1) := by decide +kernel
theorem dL_law_865 : decode cL_law 865 = .ok (.iadd, 1) := by decide +kernel
theorem dL_law_866 : decode cL_law 866 = .ok (.iaload, 1) := by decide +kernel
theorem dL_law_867 : decode cL_law 867 = .ok (.aload_n 0, 1) := by decide +kernel
theorem dL_law_868 : decode cL_law 868 = .ok (.iload_n 3, 1) := by decide +kernel
theorem dL_law_869 : decode cL_law 869 = .ok (.iconst 2, 1) := by decide +kernel
theorem dL_law_870 : decode cL_law 870 = .ok (.iadd, 1) := by decide +kernel
theorem dL_law_871 : decode cL_law 871 = .ok (.iaload, 1) := by decide +kernel
theorem dL_law_872 : decode cL_law 872 = .ok (.aload_n 0, 1) := by decide +kernel
theorem dL_law_873 : decode cL_law 873 = .ok (.iload_n 3, 1) := by decide +kernel
theorem dL_law_874 : decode cL_law 874 = .ok (.iconst 3, 1) := by decide +kernel
theorem dL_law_875 : decode cL_law 875 = .ok (.iadd, 1) := by decide +kernel
theorem dL_law_876 : decode cL_law 876 = .ok (.iaload, 1) := by decide +kernel
theorem dL_law_877 : decode cL_law 877 = .ok (.aload_n 0, 1) := by decide +kernel
theorem dL_law_878 : decode cL_law 878 = .ok (.iload_n 3, 1) := by decide +kernel
theorem dL_law_879 : decode cL_law 879 = .ok (.iconst 4, 1) := by decide +kernel
theorem dL_law_880 : decode cL_law 880 = .ok (.iadd, 1) := by decide +kernel
theorem dL_law_881 : decode cL_law 881 = .ok (.iaload, 1) := by decide +kernel
theorem dL_law_882 : decode cL_law 882 = .ok (.invokevirtual 92, 3) := by decide +kernel
theorem dL_law_885 : decode cL_law 885 = .ok (.if_icmp .eq 298, 3) := by decide +kernel
theorem dL_law_888 : decode cL_law 888 = .ok (.iconst 0, 1) := by decide +kernel
theorem dL_law_889 : decode cL_law 889 = .ok (.ireturn, 1) := by decide +kernel
theorem dL_law_890 : decode cL_law 890 = .ok (.aload_n 1, 1) := by decide +kernel
theorem dL_law_891 : decode cL_law 891 = .ok (.aload_n 0, 1) := by decide +kernel
theorem dL_law_892 : decode cL_law 892 = .ok (.iload_n 3, 1) := by decide +kernel
theorem dL_law_893 : decode cL_law 893 = .ok (.iconst 1, 1) := by decide +kernel
theorem dL_law_894 : decode cL_law 894 = .ok (.iadd, 1) := by decide +kernel
theorem dL_law_895 : decode cL_law 895 = .ok (.iaload, 1) := by decide +kernel
theorem dL_law_896 : decode cL_law 896 = .ok (.aload_n 0, 1) := by decide +kernel
theorem dL_law_897 : decode cL_law 897 = .ok (.iload_n 3, 1) := by decide +kernel
theorem dL_law_898 : decode cL_law 898 = .ok (.iconst 2, 1) := by decide +kernel
theorem dL_law_899 : decode cL_law 899 = .ok (.iadd, 1) := by decide +kernel
theorem dL_law_900 : decode cL_law 900 = .ok (.iaload, 1) := by decide +kernel
theorem dL_law_901 : decode cL_law 901 = .ok (.aload_n 0, 1) := by decide +kernel
theorem dL_law_902 : decode cL_law 902 = .ok (.iload_n 3, 1) := by decide +kernel
theorem dL_law_903 : decode cL_law 903 = .ok (.iconst 3, 1) := by decide +kernel
theorem dL_law_904 : decode cL_law 904 = .ok (.iadd, 1) := by decide +kernel
theorem dL_law_905 : decode cL_law 905 = .ok (.iaload, 1) := by decide +kernel
theorem dL_law_906 : decode cL_law 906 = .ok (.aload_n 0, 1) := by decide +kernel
theorem dL_law_907 : decode cL_law 907 = .ok (.iload_n 3, 1) := by decide +kernel
theorem dL_law_908 : decode cL_law 908 = .ok (.iconst 4, 1) := by decide +kernel
theorem dL_law_909 : decode cL_law 909 = .ok (.iadd, 1) := by decide +kernel
theorem dL_law_910 : decode cL_law 910 = .ok (.iaload, 1) := by decide +kernel
theorem dL_law_911 : decode cL_law 911 = .ok (.invokevirtual 93, 3) := by decide +kernel
theorem dL_law_914 : decode cL_law 914 = .ok (.aload_n 2, 1) := by decide +kernel
theorem dL_law_915 : decode cL_law 915 = .ok (.aload_n 0, 1) := by decide +kernel
theorem dL_law_916 : decode cL_law 916 = .ok (.iload_n 3, 1) := by decide +kernel
theorem dL_law_917 : decode cL_law 917 = .ok (.iconst 1, 1) := by decide +kernel
theorem dL_law_918 : decode cL_law 918 = .ok (.iadd, 1) := by decide +kernel
theorem dL_law_919 : decode cL_law 919 = .ok (.iaload, 1) := by decide +kernel
theorem dL_law_920 : decode cL_law 920 = .ok (.aload_n 0, 1) := by decide +kernel
theorem dL_law_921 : decode cL_law 921 = .ok (.iload_n 3, 1) := by decide +kernel
theorem dL_law_922 : decode cL_law 922 = .ok (.iconst 2, 1) := by decide +kernel
theorem dL_law_923 : decode cL_law 923 = .ok (.iadd, 1) := by decide +kernel
theorem dL_law_924 : decode cL_law 924 = .ok (.iaload, 1) := by decide +kernel
theorem dL_law_925 : decode cL_law 925 = .ok (.aload_n 0, 1) := by decide +kernel
theorem dL_law_926 : decode cL_law 926 = .ok (.iload_n 3, 1) := by decide +kernel
theorem dL_law_927 : decode cL_law 927 = .ok (.iconst 3, 1) := by decide +kernel
theorem dL_law_928 : decode cL_law 928 = .ok (.iadd, 1) := by decide +kernel
theorem dL_law_929 : decode cL_law 929 = .ok (.iaload, 1) := by decide +kernel
theorem dL_law_930 : decode cL_law 930 = .ok (.aload_n 0, 1) := by decide +kernel
theorem dL_law_931 : decode cL_law 931 = .ok (.iload_n 3, 1) := by decide +kernel
theorem dL_law_932 : decode cL_law 932 = .ok (.iconst 4, 1) := by decide +kernel
theorem dL_law_933 : decode cL_law 933 = .ok (.iadd, 1) := by decide +kernel
theorem dL_law_934 : decode cL_law 934 = .ok (.iaload, 1) := by decide +kernel
theorem dL_law_935 : decode cL_law 935 = .ok (.invokevirtual 96, 3) := by decide +kernel
theorem dL_law_938 : decode cL_law 938 = .ok (.if_icmp .eq 245, 3) := by decide +kernel
theorem dL_law_941 : decode cL_law 941 = .ok (.iconst 0, 1) := by decide +kernel
theorem dL_law_942 : decode cL_law 942 = .ok (.ireturn, 1) := by decide +kernel
theorem dL_law_943 : decode cL_law 943 = .ok (.aload_n 1, 1) := by decide +kernel
theorem dL_law_944 : decode cL_law 944 = .ok (.aload_n 0, 1) := by decide +kernel
theorem dL_law_945 : decode cL_law 945 = .ok (.iload_n 3, 1) := by decide +kernel
theorem dL_law_946 : decode cL_law 946 = .ok (.iconst 1, 1) := by decide +kernel
theorem dL_law_947 : decode cL_law 947 = .ok (.iadd, 1) := by decide +kernel
theorem dL_law_948 : decode cL_law 948 = .ok (.iaload, 1) := by decide +kernel
theorem dL_law_949 : decode cL_law 949 = .ok (.aload_n 0, 1) := by decide +kernel
theorem dL_law_950 : decode cL_law 950 = .ok (.iload_n 3, 1) := by decide +kernel
theorem dL_law_951 : decode cL_law 951 = .ok (.iconst 2, 1) := by decide +kernel
theorem dL_law_952 : decode cL_law 952 = .ok (.iadd, 1) := by decide +kernel
theorem dL_law_953 : decode cL_law 953 = .ok (.iaload, 1) := by decide +kernel
theorem dL_law_954 : decode cL_law 954 = .ok (.invokevirtual 97, 3) := by decide +kernel
theorem dL_law_957 : decode cL_law 957 = .ok (.aload_n 2, 1) := by decide +kernel
theorem dL_law_958 : decode cL_law 958 = .ok (.aload_n 0, 1) := by decide +kernel
theorem dL_law_959 : decode cL_law 959 = .ok (.iload_n 3, 1) := by decide +kernel
theorem dL_law_960 : decode cL_law 960 = .ok (.iconst 1, 1) := by decide +kernel
theorem dL_law_961 : decode cL_law 961 = .ok (.iadd, 1) := by decide +kernel
theorem dL_law_962 : decode cL_law 962 = .ok (.iaload, 1) := by decide +kernel
theorem dL_law_963 : decode cL_law 963 = .ok (.aload_n 0, 1) := by decide +kernel
theorem dL_law_964 : decode cL_law 964 = .ok (.iload_n 3, 1) := by decide +kernel
theorem dL_law_965 : decode cL_law 965 = .ok (.iconst 2, 1) := by decide +kernel
theorem dL_law_966 : decode cL_law 966 = .ok (.iadd, 1) := by decide +kernel
theorem dL_law_967 : decode cL_law 967 = .ok (.iaload, 1) := by decide +kernel
theorem dL_law_968 : decode cL_law 968 = .ok (.invokevirtual 100, 3) := by decide +kernel
theorem dL_law_971 : decode cL_law 971 = .ok (.if_icmp .eq 212, 3) := by decide +kernel
theorem dL_law_974 : decode cL_law 974 = .ok (.iconst 0, 1) := by decide +kernel
theorem dL_law_975 : decode cL_law 975 = .ok (.ireturn, 1) := by decide +kernel
theorem dL_law_976 : decode cL_law 976 = .ok (.aload_n 1, 1) := by decide +kernel
theorem dL_law_977 : decode cL_law 977 = .ok (.aload_n 0, 1) := by decide +kernel
theorem dL_law_978 : decode cL_law 978 = .ok (.iload_n 3, 1) := by decide +kernel
theorem dL_law_979 : decode cL_law 979 = .ok (.iconst 1, 1) := by decide +kernel
theorem dL_law_980 : decode cL_law 980 = .ok (.iadd, 1) := by decide +kernel
theorem dL_law_981 : decode cL_law 981 = .ok (.iaload, 1) := by decide +kernel
theorem dL_law_982 : decode cL_law 982 = .ok (.invokevirtual 101, 3) := by decide +kernel
theorem dL_law_985 : decode cL_law 985 = .ok (.aload_n 2, 1) := by decide +kernel
theorem dL_law_986 : decode cL_law 986 = .ok (.aload_n 0, 1) := by decide +kernel
theorem dL_law_987 : decode cL_law 987 = .ok (.iload_n 3, 1) := by decide +kernel
theorem dL_law_988 : decode cL_law 988 = .ok (.iconst 1, 1) := by decide +kernel
theorem dL_law_989 : decode cL_law 989 = .ok (.iadd, 1) := by decide +kernel
theorem dL_law_990 : decode cL_law 990 = .ok (.iaload, 1) := by decide +kernel
theorem dL_law_991 : decode cL_law 991 = .ok (.invokevirtual 104, 3) := by decide +kernel
theorem dL_law_994 : decode cL_law 994 = .ok (.if_icmp .eq 189, 3) := by decide +kernel
theorem dL_law_997 : decode cL_law 997 = .ok (.iconst 0, 1) := by decide +kernel
theorem dL_law_998 : decode cL_law 998 = .ok (.ireturn, 1) := by decide +kernel
theorem dL_law_999 : decode cL_law 999 = .ok (.aload_n 1, 1) := by decide +kernel
theorem dL_law_1000 : decode cL_law 1000 = .ok (.aload_n 0, 1) := by decide +kernel
theorem dL_law_1001 : decode cL_law 1001 = .ok (.iload_n 3, 1) := by decide +kernel
theorem dL_law_1002 : decode cL_law 1002 = .ok (.iconst 1, 1) := by decide +kernel
theorem dL_law_1003 : decode cL_law 1003 = .ok (.iadd, 1) := by decide +kernel
theorem dL_law_1004 : decode cL_law 1004 = .ok (.iaload, 1) := by decide +kernel
theorem dL_law_1005 : decode cL_law 1005 = .ok (.aload_n 0, 1) := by decide +kernel
theorem dL_law_1006 : decode cL_law 1006 = .ok (.iload_n 3, 1) := by decide +kernel
theorem dL_law_1007 : decode cL_law 1007 = .ok (.iconst 2, 1) := by decide +kernel
theorem dL_law_1008 : decode cL_law 1008 = .ok (.iadd, 1) := by decide +kernel
theorem dL_law_1009 : decode cL_law 1009 = .ok (.iaload, 1) := by decide +kernel
theorem dL_law_1010 : decode cL_law 1010 = .ok (.aload_n 0, 1) := by decide +kernel
theorem dL_law_1011 : decode cL_law 1011 = .ok (.iload_n 3, 1) := by decide +kernel
theorem dL_law_1012 : decode cL_law 1012 = .ok (.iconst 3, 1) := by decide +kernel
theorem dL_law_1013 : decode cL_law 1013 = .ok (.iadd, 1) := by decide +kernel
theorem dL_law_1014 : decode cL_law 1014 = .ok (.iaload, 1) := by decide +kernel
theorem dL_law_1015 : decode cL_law 1015 = .ok (.ifCond .eq 7, 3) := by decide +kernel
theorem dL_law_1018 : decode cL_law 1018 = .ok (.iconst 1, 1) := by decide +kernel
theorem dL_law_1019 : decode cL_law 1019 = .ok (.goto 4, 3) := by decide +kernel
theorem dL_law_1022 : decode cL_law 1022 = .ok (.iconst 0, 1) := by decide +kernel
theorem dL_law_1023 : decode cL_law 1023 = .ok (.invokevirtual 105, 3) := by decide +kernel
theorem dL_law_1026 : decode cL_law 1026 = .ok (.aload_n 2, 1) := by decide +kernel
theorem dL_law_1027 : decode cL_law 1027 = .ok (.aload_n 0, 1) := by decide +kernel
theorem dL_law_1028 : decode cL_law 1028 = .ok (.iload_n 3, 1) := by decide +kernel
theorem dL_law_1029 : decode cL_law 1029 = .ok (.iconst 1, 1) := by decide +kernel
theorem dL_law_1030 : decode cL_law 1030 = .ok (.iadd, 1) := by decide +kernel
theorem dL_law_1031 : decode cL_law 1031 = .ok (.iaload, 1) := by decide +kernel
theorem dL_law_1032 : decode cL_law 1032 = .ok (.aload_n 0, 1) := by decide +kernel
theorem dL_law_1033 : decode cL_law 1033 = .ok (.iload_n 3, 1) := by decide +kernel
theorem dL_law_1034 : decode cL_law 1034 = .ok (.iconst 2, 1) := by decide +kernel
theorem dL_law_1035 : decode cL_law 1035 = .ok (.iadd, 1) := by decide +kernel
theorem dL_law_1036 : decode cL_law 1036 = .ok (.iaload, 1) := by decide +kernel
theorem dL_law_1037 : decode cL_law 1037 = .ok (.aload_n 0, 1) := by decide +kernel
theorem dL_law_1038 : decode cL_law 1038 = .ok (.iload_n 3, 1) := by decide +kernel
theorem dL_law_1039 : decode cL_law 1039 = .ok (.iconst 3, 1) := by decide +kernel
theorem dL_law_1040 : decode cL_law 1040 = .ok (.iadd, 1) := by decide +kernel
theorem dL_law_1041 : decode cL_law 1041 = .ok (.iaload, 1) := by decide +kernel
theorem dL_law_1042 : decode cL_law 1042 = .ok (.ifCond .eq 7, 3) := by decide +kernel
theorem dL_law_1045 : decode cL_law 1045 = .ok (.iconst 1, 1) := by decide +kernel
theorem dL_law_1046 : decode cL_law 1046 = .ok (.goto 4, 3) := by decide +kernel
theorem dL_law_1049 : decode cL_law 1049 = .ok (.iconst 0, 1) := by decide +kernel
theorem dL_law_1050 : decode cL_law 1050 = .ok (.invokevirtual 109, 3) := by decide +kernel
theorem dL_law_1053 : decode cL_law 1053 = .ok (.if_icmp .eq 130, 3) := by decide +kernel
theorem dL_law_1056 : decode cL_law 1056 = .ok (.iconst 0, 1) := by decide +kernel
theorem dL_law_1057 : decode cL_law 1057 = .ok (.ireturn, 1) := by decide +kernel
theorem dL_law_1058 : decode cL_law 1058 = .ok (.aload_n 1, 1) := by decide +kernel
theorem dL_law_1059 : decode cL_law 1059 = .ok (.aload_n 0, 1) := by decide +kernel
theorem dL_law_1060 : decode cL_law 1060 = .ok (.iload_n 3, 1) := by decide +kernel
theorem dL_law_1061 : decode cL_law 1061 = .ok (.iconst 1, 1) := by decide +kernel
theorem dL_law_1062 : decode cL_law 1062 = .ok (.iadd, 1) := by decide +kernel
theorem dL_law_1063 : decode cL_law 1063 = .ok (.iaload, 1) := by decide +kernel
theorem dL_law_1064 : decode cL_law 1064 = .ok (.aload_n 0, 1) := by decide +kernel
theorem dL_law_1065 : decode cL_law 1065 = .ok (.iload_n 3, 1) := by decide +kernel
theorem dL_law_1066 : decode cL_law 1066 = .ok (.iconst 2, 1) := by decide +kernel
theorem dL_law_1067 : decode cL_law 1067 = .ok (.iadd, 1) := by decide +kernel
theorem dL_law_1068 : decode cL_law 1068 = .ok (.iaload, 1) := by decide +kernel
theorem dL_law_1069 : decode cL_law 1069 = .ok (.invokevirtual 110, 3) := by decide +kernel
theorem dL_law_1072 : decode cL_law 1072 = .ok (.aload_n 2, 1) := by decide +kernel
theorem dL_law_1073 : decode cL_law 1073 = .ok (.aload_n 0, 1) := by decide +kernel
theorem dL_law_1074 : decode cL_law 1074 = .ok (.iload_n 3, 1) := by decide +kernel
theorem dL_law_1075 : decode cL_law 1075 = .ok (.iconst 1, 1) := by decide +kernel
theorem dL_law_1076 : decode cL_law 1076 = .ok (.iadd, 1) := by decide +kernel
theorem dL_law_1077 : decode cL_law 1077 = .ok (.iaload, 1) := by decide +kernel
theorem dL_law_1078 : decode cL_law 1078 = .ok (.aload_n 0, 1) := by decide +kernel
theorem dL_law_1079 : decode cL_law 1079 = .ok (.iload_n 3, 1) := by decide +kernel
theorem dL_law_1080 : decode cL_law 1080 = .ok (.iconst 2, 1) := by decide +kernel
theorem dL_law_1081 : decode cL_law 1081 = .ok (.iadd, 1) := by decide +kernel
theorem dL_law_1082 : decode cL_law 1082 = .ok (.iaload, 1) := by decide +kernel
theorem dL_law_1083 : decode cL_law 1083 = .ok (.invokevirtual 113, 3) := by decide +kernel
theorem dL_law_1086 : decode cL_law 1086 = .ok (.if_icmp .eq 97, 3) := by decide +kernel
theorem dL_law_1089 : decode cL_law 1089 = .ok (.iconst 0, 1) := by decide +kernel
theorem dL_law_1090 : decode cL_law 1090 = .ok (.ireturn, 1) := by decide +kernel
theorem dL_law_1091 : decode cL_law 1091 = .ok (.aload_n 1, 1) := by decide +kernel
theorem dL_law_1092 : decode cL_law 1092 = .ok (.invokevirtual 114, 3) := by decide +kernel
theorem dL_law_1095 : decode cL_law 1095 = .ok (.aload_n 2, 1) := by decide +kernel
theorem dL_law_1096 : decode cL_law 1096 = .ok (.invokevirtual 117, 3) := by decide +kernel
theorem dL_law_1099 : decode cL_law 1099 = .ok (.if_icmp .eq 84, 3) := by decide +kernel
theorem dL_law_1102 : decode cL_law 1102 = .ok (.iconst 0, 1) := by decide +kernel
theorem dL_law_1103 : decode cL_law 1103 = .ok (.ireturn, 1) := by decide +kernel
theorem dL_law_1104 : decode cL_law 1104 = .ok (.aload_n 1, 1) := by decide +kernel
theorem dL_law_1105 : decode cL_law 1105 = .ok (.aload_n 0, 1) := by decide +kernel
theorem dL_law_1106 : decode cL_law 1106 = .ok (.iload_n 3, 1) := by decide +kernel
theorem dL_law_1107 : decode cL_law 1107 = .ok (.iconst 1, 1) := by decide +kernel
theorem dL_law_1108 : decode cL_law 1108 = .ok (.iadd, 1) := by decide +kernel
theorem dL_law_1109 : decode cL_law 1109 = .ok (.iaload, 1) := by decide +kernel
theorem dL_law_1110 : decode cL_law 1110 = .ok (.aload_n 0, 1) := by decide +kernel
theorem dL_law_1111 : decode cL_law 1111 = .ok (.iload_n 3, 1) := by decide +kernel
theorem dL_law_1112 : decode cL_law 1112 = .ok (.iconst 2, 1) := by decide +kernel
theorem dL_law_1113 : decode cL_law 1113 = .ok (.iadd, 1) := by decide +kernel
theorem dL_law_1114 : decode cL_law 1114 = .ok (.iaload, 1) := by decide +kernel
theorem dL_law_1115 : decode cL_law 1115 = .ok (.invokevirtual 118, 3) := by decide +kernel
theorem dL_law_1118 : decode cL_law 1118 = .ok (.aload_n 2, 1) := by decide +kernel
theorem dL_law_1119 : decode cL_law 1119 = .ok (.aload_n 0, 1) := by decide +kernel
theorem dL_law_1120 : decode cL_law 1120 = .ok (.iload_n 3, 1) := by decide +kernel
theorem dL_law_1121 : decode cL_law 1121 = .ok (.iconst 1, 1) := by decide +kernel
theorem dL_law_1122 : decode cL_law 1122 = .ok (.iadd, 1) := by decide +kernel
theorem dL_law_1123 : decode cL_law 1123 = .ok (.iaload, 1) := by decide +kernel
theorem dL_law_1124 : decode cL_law 1124 = .ok (.aload_n 0, 1) := by decide +kernel
theorem dL_law_1125 : decode cL_law 1125 = .ok (.iload_n 3, 1) := by decide +kernel
theorem dL_law_1126 : decode cL_law 1126 = .ok (.iconst 2, 1) := by decide +kernel
theorem dL_law_1127 : decode cL_law 1127 = .ok (.iadd, 1) := by decide +kernel
theorem dL_law_1128 : decode cL_law 1128 = .ok (.iaload, 1) := by decide +kernel
theorem dL_law_1129 : decode cL_law 1129 = .ok (.invokevirtual 121, 3) := by decide +kernel
theorem dL_law_1132 : decode cL_law 1132 = .ok (.if_icmp .eq 51, 3) := by decide +kernel
theorem dL_law_1135 : decode cL_law 1135 = .ok (.iconst 0, 1) := by decide +kernel
theorem dL_law_1136 : decode cL_law 1136 = .ok (.ireturn, 1) := by decide +kernel
theorem dL_law_1137 : decode cL_law 1137 = .ok (.aload_n 1, 1) := by decide +kernel
theorem dL_law_1138 : decode cL_law 1138 = .ok (.aload_n 0, 1) := by decide +kernel
theorem dL_law_1139 : decode cL_law 1139 = .ok (.iload_n 3, 1) := by decide +kernel
theorem dL_law_1140 : decode cL_law 1140 = .ok (.iconst 1, 1) := by decide +kernel
theorem dL_law_1141 : decode cL_law 1141 = .ok (.iadd, 1) := by decide +kernel
theorem dL_law_1142 : decode cL_law 1142 = .ok (.iaload, 1) := by decide +kernel
theorem dL_law_1143 : decode cL_law 1143 = .ok (.invokevirtual 122, 3) := by decide +kernel
theorem dL_law_1146 : decode cL_law 1146 = .ok (.aload_n 2, 1) := by decide +kernel
theorem dL_law_1147 : decode cL_law 1147 = .ok (.aload_n 0, 1) := by decide +kernel
theorem dL_law_1148 : decode cL_law 1148 = .ok (.iload_n 3, 1) := by decide +kernel
theorem dL_law_1149 : decode cL_law 1149 = .ok (.iconst 1, 1) := by decide +kernel
theorem dL_law_1150 : decode cL_law 1150 = .ok (.iadd, 1) := by decide +kernel
theorem dL_law_1151 : decode cL_law 1151 = .ok (.iaload, 1) := by decide +kernel
theorem dL_law_1152 : decode cL_law 1152 = .ok (.invokevirtual 125, 3) := by decide +kernel
theorem dL_law_1155 : decode cL_law 1155 = .ok (.if_icmp .eq 28, 3) := by decide +kernel
theorem dL_law_1158 : decode cL_law 1158 = .ok (.iconst 0, 1) := by decide +kernel
theorem dL_law_1159 : decode cL_law 1159 = .ok (.ireturn, 1) := by decide +kernel
theorem dL_law_1160 : decode cL_law 1160 = .ok (.aload_n 1, 1) := by decide +kernel
theorem dL_law_1161 : decode cL_law 1161 = .ok (.aload_n 0, 1) := by decide +kernel
theorem dL_law_1162 : decode cL_law 1162 = .ok (.iload_n 3, 1) := by decide +kernel
theorem dL_law_1163 : decode cL_law 1163 = .ok (.iconst 1, 1) := by decide +kernel
theorem dL_law_1164 : decode cL_law 1164 = .ok (.iadd, 1) := by decide +kernel
theorem dL_law_1165 : decode cL_law 1165 = .ok (.iaload, 1) := by decide +kernel
theorem dL_law_1166 : decode cL_law 1166 = .ok (.invokevirtual 126, 3) := by decide +kernel
theorem dL_law_1169 : decode cL_law 1169 = .ok (.aload_n 2, 1) := by decide +kernel
theorem dL_law_1170 : decode cL_law 1170 = .ok (.aload_n 0, 1) := by decide +kernel
theorem dL_law_1171 : decode cL_law 1171 = .ok (.iload_n 3, 1) := by decide +kernel
theorem dL_law_1172 : decode cL_law 1172 = .ok (.iconst 1, 1) := by decide +kernel
theorem dL_law_1173 : decode cL_law 1173 = .ok (.iadd, 1) := by decide +kernel
theorem dL_law_1174 : decode cL_law 1174 = .ok (.iaload, 1) := by decide +kernel
theorem dL_law_1175 : decode cL_law 1175 = .ok (.invokevirtual 129, 3) := by decide +kernel
theorem dL_law_1178 : decode cL_law 1178 = .ok (.if_icmp .eq 5, 3) := by decide +kernel
theorem dL_law_1181 : decode cL_law 1181 = .ok (.iconst 0, 1) := by decide +kernel
theorem dL_law_1182 : decode cL_law 1182 = .ok (.ireturn, 1) := by decide +kernel
theorem dL_law_1183 : decode cL_law 1183 = .ok (.iinc 3 6, 3) := by decide +kernel
theorem dL_law_1186 : decode cL_law 1186 = .ok (.goto (-1168), 3) := by decide +kernel
theorem dL_law_1189 : decode cL_law 1189 = .ok (.iconst 1, 1) := by decide +kernel
theorem dL_law_1190 : decode cL_law 1190 = .ok (.ireturn, 1) := by decide +kernel
end
section
/-! The world of this claim: 43 places (cells), each an object or an array, all made before the law's loop; a heap picture is a function
from place and slot to whole numbers. zV: the machine stands at pc with locals lv and stack st, the world holds the picture σ: it comes to its end. -/
def zI (z : Int) : Int32 := Int32.ofInt z
def zJ (z : Int) : Int64 := Int64.ofInt z
def zrg (z : Int) : Prop := -2147483648 ≤ z ∧ z < 2147483648
def zrl (z : Int) : Prop := -9223372036854775808 ≤ z ∧ z < 9223372036854775808
abbrev Hp : Type := Nat → Nat → Int
def zst (σ : Hp) (p j : Nat) (v : Int) : Hp := fun q => if q = p then (fun t => if t = j then v else σ q t) else σ q
theorem zI_add (a b : Int) : zI a + zI b = zI (a + b) := (Int32.ofInt_add a b).symm
theorem zI_sub (a b : Int) : zI a - zI b = zI (a - b) := (Int32.ofInt_sub a b).symm
theorem zI_mul (a b : Int) : zI a * zI b = zI (a * b) := (Int32.ofInt_mul a b).symm
theorem zJ_add (a b : Int) : zJ a + zJ b = zJ (a + b) := (Int64.ofInt_add a b).symm
theorem zJ_mul (a b : Int) : zJ a * zJ b = zJ (a * b) := (Int64.ofInt_mul a b).symm
theorem zI_toInt {z : Int} (h : zrg z) : (zI z).toInt = z := Int32.toInt_ofInt_of_le (by have := h.1; omega) (by have := h.2; omega)
theorem zJ_toInt {z : Int} (h : zrl z) : (zJ z).toInt = z := Int64.toInt_ofInt_of_le (by have := h.1; omega) (by have := h.2; omega)
theorem zI_of (x : Int32) : zI x.toInt = x := Int32.ofInt_toInt x
theorem zJ_of (x : Int64) : zJ x.toInt = x := Int64.ofInt_toInt x
theorem zI_lt {a b : Int} (ha : zrg a) (hb : zrg b) : zI a < zI b ↔ a < b := by rw [Int32.lt_iff_toInt_lt, zI_toInt ha, zI_toInt hb]
theorem zI_le {a b : Int} (ha : zrg a) (hb : zrg b) : zI a ≤ zI b ↔ a ≤ b := by rw [Int32.le_iff_toInt_le, zI_toInt ha, zI_toInt hb]
theorem zI_eq {a b : Int} (ha : zrg a) (hb : zrg b) : zI a = zI b ↔ a = b := by rw [← Int32.toInt_inj, zI_toInt ha, zI_toInt hb]
theorem zJ_lt {a b : Int} (ha : zrl a) (hb : zrl b) : zJ a < zJ b ↔ a < b := by rw [Int64.lt_iff_toInt_lt, zJ_toInt ha, zJ_toInt hb]
theorem zJ_le {a b : Int} (ha : zrl a) (hb : zrl b) : zJ a ≤ zJ b ↔ a ≤ b := by rw [Int64.le_iff_toInt_le, zJ_toInt ha, zJ_toInt hb]
theorem zJ_eq {a b : Int} (ha : zrl a) (hb : zrl b) : zJ a = zJ b ↔ a = b := by rw [← Int64.toInt_inj, zJ_toInt ha, zJ_toInt hb]
theorem zrg_0 : zrg 0 := by constructor <;> decide
theorem zI_0 : zI 0 = 0 := by decide
theorem zI_cl {i : Int} {n : Nat} (h0 : 0 ≤ i) (h1 : i < n) (hn : n < 2147483648) : (zI i).toNatClampNeg = i.toNat := Int32.toNatClampNeg_ofInt_of_le (by omega) (by omega)
theorem zI_in {i : Int} {n : Nat} (h0 : 0 ≤ i) (h1 : i < n) (hn : n < 2147483648) : vp_in (zI i) n := by
  rw [vp_in_iff, zI_toInt ⟨by omega, by omega⟩]; omega
theorem zI_quo {a b : Int} (ha : zrg a) (hb : zrg b) (h0 : 0 < b) : zI a / zI b = zI (a.tdiv b) := by
  apply Int32.toInt_inj.mp
  have hne : zI b ≠ -1 := fun h => by
    have h1 : (zI b).toInt = (-1 : Int32).toInt := by rw [h]
    rw [zI_toInt hb] at h1
    have h2 : (-1 : Int32).toInt = -1 := by decide
    omega
  have h1 : (a.tdiv b).natAbs ≤ a.natAbs := by rw [Int.natAbs_tdiv]; exact Nat.div_le_self _ _
  have h2 : -a.natAbs ≤ a.tdiv b ∧ a.tdiv b ≤ a.natAbs := by omega
  have h3 : zrg (a.tdiv b) := by
    obtain ⟨a1, a2⟩ := ha
    by_cases hn : a = -2147483648
    · subst hn
      refine ⟨by omega, ?_⟩
      have : (-2147483648 : Int).tdiv b ≤ 0 := by
        rw [Int.neg_tdiv]
        have := Int.tdiv_nonneg (a := 2147483648) (b := b) (by omega) (by omega)
        omega
      omega
    · constructor <;> omega
  rw [Int32.toInt_div_of_ne_right _ _ hne, zI_toInt ha, zI_toInt hb, zI_toInt h3]
theorem zI_rem {a b : Int} (ha : zrg a) (hb : zrg b) (h0 : 0 < b) : zI a - zI a / zI b * zI b = zI (a.tmod b) := by
  rw [zI_quo ha hb h0, zI_mul, zI_sub]
  congr 1
  have := Int.mul_tdiv_add_tmod a b
  rw [Int.mul_comm]
  omega
theorem zI_l {a : Int} (ha : zrg a) : (zI a).toInt64 = zJ a := by
  apply Int64.toInt_inj.mp
  rw [Int32.toInt_toInt64, zI_toInt ha, zJ_toInt ⟨by have := ha.1; omega, by have := ha.2; omega⟩]
theorem zJ_i (a : Int) : (zJ a).toInt32 = zI a := Int64.toInt32_ofInt
/-- the machine's own bits, over whole numbers -/
def zand (a b : Int) : Int := (zI a &&& zI b).toInt
def zor (a b : Int) : Int := (zI a ||| zI b).toInt
def zxor (a b : Int) : Int := (zI a ^^^ zI b).toInt
def zshl (a b : Int) : Int := (zI a <<< (zI b &&& 31)).toInt
def zshr (a b : Int) : Int := (zI a >>> (zI b &&& 31)).toInt
def zushr (a b : Int) : Int := ((zI a).toUInt32 >>> ((zI b).toUInt32 &&& Int32.toUInt32 31)).toInt32.toInt
def zi2b (a : Int) : Int := (zI a).toInt8.toInt32.toInt
def zLand (a b : Int) : Int := (zJ a &&& zJ b).toInt
def zLor (a b : Int) : Int := (zJ a ||| zJ b).toInt
def zLshl (a b : Int) : Int := (zJ a <<< ((zI b).toInt64 &&& 63)).toInt
def zLshr (a b : Int) : Int := (zJ a >>> ((zI b).toInt64 &&& 63)).toInt
def zLushr (a b : Int) : Int := ((zJ a).toUInt64 >>> ((zI b).toInt64.toUInt64 &&& Int64.toUInt64 63)).toInt64.toInt
-- the tables' words that are good in every frame; the nest's links
def ztb : List Cond := lw_tbl.filter goodWord
theorem zmem {w : Cond} (i : Nat) (h : lw_tbl[i]? = some w) (hg : goodWord w = true) : w ∈ ztb := List.mem_filter.mpr ⟨List.mem_of_getElem? h, hg⟩
theorem zgood {y : MethodName} {cc : ByteArray} {n : Nat} {ret : Option FieldType} {big : List Cond} (hc : Cond.code y cc n ret ∈ ztb) (hb : ∀ w ∈ ztb, w ∈ big) : GoodIn big (.code y cc n ret :: ztb) := fun w hw =>
  (List.mem_cons.mp hw).elim (fun e => by subst e; exact ⟨hb _ hc, good_of_word (List.mem_filter.mp hc).2⟩) (fun h => ⟨hb _ h, good_of_word (List.mem_filter.mp h).2⟩)

def znest : List Cond := [.methodLinkNest RX3 22 yX6_within RX6, .methodLinkNest RX5 19 yX6_within RX6, .methodLinkNest RX3 36 yX6_rest RX6, .methodLinkNest RX1 47 yX6_isMove RX6, .methodLinkNest RX4 28 yX6_within RX6, .methodLinkNest RX4 93 yX6_rest RX6, .methodLinkNest RX2 19 yX6_within RX6, .methodLinkNest RX0 23 yX6_within RX6]
-- the world: class numbers and slots; addresses; array classes (int, byte, long, Row)
abbrev Wp : Type := va_G × (Nat → Nat) × (Nat → ClassId)
def ztys (w : Wp) : List (ClassId × FieldType) := [(w.2.2 0, .int), (w.2.2 1, .byte), (w.2.2 2, .long), (w.2.2 3, .object RX3)]

def zcell (w : Wp) (p : Nat) (f : Nat → Int) : va_E := match p with
  | 0 => .inr (6, [.ref (w.2.1 1), .ref (w.2.1 35), .ref (w.2.1 2), .ref (w.2.1 4), .ref (w.2.1 6), .ref (w.2.1 10), .ref (w.2.1 12), .ref (w.2.1 16)])
  | 1 => .inl (w.2.2 3, 6, .inr (.inr (.inr (.inr (fun j => some (w.2.1 (29 + j)))))))
  | 2 => .inr (5, [.ref (w.2.1 3), .int (zI (f 1))])
  | 3 => .inl (w.2.2 0, 60, .inl (fun j => zI (f j)))
  | 4 => .inr (1, [.ref (w.2.1 5), .int (zI (f 1)), .int (zI (f 2)), .int (zI (f 3))])
  | 5 => .inl (w.2.2 0, 625, .inl (fun j => zI (f j)))
  | 6 => .inr (4, [.ref (w.2.1 7), .ref (w.2.1 8), .ref (w.2.1 9), .int (zI (f 3)), .int (zI (f 4)), .int (zI (f 5)), .int (zI (f 6)), .int (zI (f 7)), .int (zI (f 8))])
  | 7 => .inl (w.2.2 0, 12, .inl (fun j => zI (f j)))
  | 8 => .inl (w.2.2 0, 12, .inl (fun j => zI (f j)))
  | 9 => .inl (w.2.2 0, 12, .inl (fun j => zI (f j)))
  | 10 => .inr (2, [.ref (w.2.1 11), .int (zI (f 1))])
  | 11 => .inl (w.2.2 0, 6, .inl (fun j => zI (f j)))
  | 12 => .inr (0, [.ref (w.2.1 13), .ref (w.2.1 14), .int (zI (f 2)), .ref (w.2.1 15), .int (zI (f 4))])
  | 13 => .inl (w.2.2 0, 40, .inl (fun j => zI (f j)))
  | 14 => .inl (w.2.2 0, 40, .inl (fun j => zI (f j)))
  | 15 => .inl (w.2.2 0, 779, .inl (fun j => zI (f j)))
  | 16 => .inl (w.2.2 2, 8, .inr (.inl (fun j => zJ (f j))))
  | 17 => .inr (7, [.ref (w.2.1 18), .ref (w.2.1 19), .ref (w.2.1 20), .int (zI (f 3)), .ref (w.2.1 21), .int (zI (f 5)), .ref (w.2.1 22), .ref (w.2.1 23), .ref (w.2.1 24), .int (zI (f 9)), .ref (w.2.1 25), .ref (w.2.1 26), .int (zI (f 12)), .ref (w.2.1 27), .ref (w.2.1 28), .int (zI (f 15)), .int (zI (f 16)), .int (zI (f 17))])
  | 18 => .inl (w.2.2 0, 6, .inl (fun j => zI (f j)))
  | 19 => .inl (w.2.2 0, 6, .inl (fun j => zI (f j)))
  | 20 => .inl (w.2.2 0, 72, .inl (fun j => zI (f j)))
  | 21 => .inl (w.2.2 1, 60, .inl (fun j => zI (f j)))
  | 22 => .inl (w.2.2 0, 40, .inl (fun j => zI (f j)))
  | 23 => .inl (w.2.2 0, 40, .inl (fun j => zI (f j)))
  | 24 => .inl (w.2.2 0, 12, .inl (fun j => zI (f j)))
  | 25 => .inl (w.2.2 0, 72, .inl (fun j => zI (f j)))
  | 26 => .inl (w.2.2 0, 6, .inl (fun j => zI (f j)))
  | 27 => .inl (w.2.2 0, 12, .inl (fun j => zI (f j)))
  | 28 => .inl (w.2.2 0, 12, .inl (fun j => zI (f j)))
  | q + 29 => if q < 7 then .inr (3, [.int (zI (f 0)), .int (zI (f 1)), .ref (w.2.1 (q + 36))]) else .inl (w.2.2 0, 12, .inl (fun j => zI (f j)))
theorem zcell_row {r : Nat} (hr : r < 7) (w : Wp) (f : Nat → Int) : zcell w (29 + r) f = .inr (3, [.int (zI (f 0)), .int (zI (f 1)), .ref (w.2.1 (36 + r))]) := by
  rcases (show r = 0 ∨ r = 1 ∨ r = 2 ∨ r = 3 ∨ r = 4 ∨ r = 5 ∨ r = 6 by omega) with rfl | rfl | rfl | rfl | rfl | rfl | rfl <;> rfl
theorem zcell_line {r : Nat} (hr : r < 7) (w : Wp) (f : Nat → Int) : zcell w (36 + r) f = .inl (w.2.2 0, 12, .inl (fun j => zI (f j))) := by
  rcases (show r = 0 ∨ r = 1 ∨ r = 2 ∨ r = 3 ∨ r = 4 ∨ r = 5 ∨ r = 6 by omega) with rfl | rfl | rfl | rfl | rfl | rfl | rfl <;> rfl
def zwd (w : Wp) (σ : Hp) : va_W := (List.range 43).map (fun p => (w.2.1 p, zcell w p (σ p)))
theorem zwd_at {w : Wp} {σ : Hp} {p : Nat} (h : p < 43) : (zwd w σ)[p]? = some (w.2.1 p, zcell w p (σ p)) := by simp [zwd, h]
theorem zwd_set {w : Wp} {σ σ' : Hp} {p : Nat} {e : va_E} (h : p < 43) (he : e = zcell w p (σ' p)) (ho : ∀ q, q ≠ p → σ' q = σ q) : (zwd w σ).set p (w.2.1 p, e) = zwd w σ' := by
  apply List.ext_getElem?
  intro k
  rw [List.getElem?_set]
  by_cases hk : p = k
  · subst hk
    rw [if_pos rfl, zwd_at h, he]
    simp [zwd, h]
  · rw [if_neg hk]
    by_cases h2 : k < 43
    · rw [zwd_at h2, zwd_at h2, ho k (Ne.symm hk)]
    · simp [zwd, h2]
theorem zst_o {σ : Hp} {p j : Nat} {v : Int} : ∀ q, q ≠ p → zst σ p j v q = σ q := fun q h => by simp [zst, h]
theorem zst_p {σ : Hp} {p j : Nat} {v : Int} : zst σ p j v p = fun t => if t = j then v else σ p t := by simp [zst]
abbrev Cx : Type := (Program × Launch × Env × Room × State × MethodId × Array Value × List Frame × Method × Code) × Wp × (Nat → Prop) × (State → Prop) × Nat × Nat × Nat
def zV (x : Cx) (σ : Hp) (pc : Nat) (lv : List (Nat × Value)) (st : List Value) : Prop := match x with
  | ((p, l, e, R, s, m, args, below, meth, c), w, A, Q, nL, ce, sl) => ∀ (H : Heap) (locs : List Loc) (ls : Array Slot), lv_has ls nL lv → va_P w.1 vwCl (zwd w σ) H → va_S A s.heap H locs → W p l e R s m args below meth c H locs ce sl Q (F0 m pc ls st)
def zOk (x : Cx) (cc : ByteArray) (own : String) (ret : Option FieldType) (f L : Nat) : Prop := match x with
  | ((p, l, e, R, s, m, args, below, meth, c), w, A, Q, nL, ce, sl) => p.tables.exec = Jvm.exec ∧ c.code = cc ∧ c.maxLocals = nL ∧ s.vm.findClass own = some m.cls ∧ (∀ w ∈ ztb, w.before args s = true) ∧ va_K w.1 vwCl (ztys w) s ∧ (∀ σ, va_D A (zwd w σ)) ∧ (∀ n ∈ znest, va_Nw n s) ∧ meth.sig.returnType = ret ∧ meth.locks = false ∧ f ≤ R.frames ∧ L ≤ R.locals ∧ ce ≤ R.cells ∧ sl ≤ R.slots
def za (x : Cx) (p : Nat) : Value := .ref (x.2.1.2.1 p)
def zQ (w : Wp) (A : Nat → Prop) (post : Option Value → Hp → Prop) : Array Value → State → Outcome → State → Prop := fun _ st oc t => (∃ (r : Option Value) (σ : Hp), oc = .returned r ∧ post r σ ∧ va_P w.1 vwCl (zwd w σ) t.heap) ∧ va_F A st t
def zEnd (x : Cx) (post : Option Value → Hp → Prop) : Prop := match x with
  | ((p, l, e, R, s, m, args, below, meth, c), w, A, Q, nL, ce, sl) => Q = MQ below (zQ w A post) args s 0 0 A ∧ ce = 0 ∧ sl = 0
def zWd (w : Wp) (A : Nat → Prop) (σ : Hp) (U : State) : Prop := va_P w.1 vwCl (zwd w σ) U.heap ∧ va_K w.1 vwCl (ztys w) U ∧ (∀ σ, va_D A (zwd w σ)) ∧ (∀ n ∈ znest, va_Nw n U)
def zMt (l : Launch) (y : MethodName) (cc : ByteArray) (nL : Nat) (ret : Option FieldType) (rm : Room) (av : Wp → List Value) (σ : Hp) (post : Wp → Option Value → Hp → Prop) : Prop := ∀ (w : Wp) (A : Nat → Prop), Met l y (.code y cc nL ret :: ztb) rm (va_Pc (av w) (zWd w A σ)) (zQ w A (post w)) 0 0 A
def zPi (k : Int → Hp → Prop) : Wp → Option Value → Hp → Prop := fun _ r σ => ∃ z, r = some (.int (zI z)) ∧ k z σ
def zPl (k : Int → Hp → Prop) : Wp → Option Value → Hp → Prop := fun _ r σ => ∃ z, r = some (.long (zJ z)) ∧ k z σ
def zPv (k : Hp → Prop) : Wp → Option Value → Hp → Prop := fun _ r σ => r = none ∧ k σ
/-- a ROW or null -/
def zPr (k : Option Nat → Hp → Prop) : Wp → Option Value → Hp → Prop := fun w v σ => (v = some .null ∧ k none σ) ∨ ∃ r, r < 7 ∧ v = some (.ref (w.2.1 (29 + r))) ∧ k (some r) σ
theorem zNw_warm {s U : State} (hW : s.WarmedH U.vm) (h : ∀ n ∈ znest, va_Nw n s) : ∀ n ∈ znest, va_Nw n U := by
  intro n hn
  have h1 := h n hn
  simp only [znest, List.mem_cons, List.not_mem_nil, or_false] at hn
  rcases hn with rfl | rfl | rfl | rfl | rfl | rfl | rfl | rfl <;> exact va_Nw.warmM hW h1

theorem z_iconst {x : Cx} {cc : ByteArray} {own : String} {ret : Option FieldType} {f L : Nat} {σ : Hp} {pc : Nat} {lv : List (Nat × Value)} {st : List Value} (C : zOk x cc own ret f L) {n : Int} (d : decode cc pc = .ok (.iconst n, 1)) (k : zV x σ (pc + 1) lv (.int (zI n) :: st)) : zV x σ pc lv st := by
  obtain ⟨⟨p, l, e, R, s, m, args, below, meth, c⟩, w, A, Q, nL, ce, sl⟩ := x
  intro H locs ls hl hP hS
  exact lv_iconst C.1 C.2.1 d rfl (k H locs ls hl hP hS)
theorem z_bipush {x : Cx} {cc : ByteArray} {own : String} {ret : Option FieldType} {f L : Nat} {σ : Hp} {pc : Nat} {lv : List (Nat × Value)} {st : List Value} (C : zOk x cc own ret f L) {n : Int} (d : decode cc pc = .ok (.bipush n, 2)) (h : (Int8.ofInt n).toInt32 = zI n) (k : zV x σ (pc + 2) lv (.int (zI n) :: st)) : zV x σ pc lv st := by
  obtain ⟨⟨p, l, e, R, s, m, args, below, meth, c⟩, w, A, Q, nL, ce, sl⟩ := x
  intro H locs ls hl hP hS
  exact lv_bipush C.1 C.2.1 d h (k H locs ls hl hP hS)
theorem z_sipush {x : Cx} {cc : ByteArray} {own : String} {ret : Option FieldType} {f L : Nat} {σ : Hp} {pc : Nat} {lv : List (Nat × Value)} {st : List Value} (C : zOk x cc own ret f L) {n : Int} (d : decode cc pc = .ok (.sipush n, 3)) (h : (Int16.ofInt n).toInt32 = zI n) (k : zV x σ (pc + 3) lv (.int (zI n) :: st)) : zV x σ pc lv st := by
  obtain ⟨⟨p, l, e, R, s, m, args, below, meth, c⟩, w, A, Q, nL, ce, sl⟩ := x
  intro H locs ls hl hP hS
  exact lv_sipush C.1 C.2.1 d h (k H locs ls hl hP hS)
theorem z_lconst {x : Cx} {cc : ByteArray} {own : String} {ret : Option FieldType} {f L : Nat} {σ : Hp} {pc : Nat} {lv : List (Nat × Value)} {st : List Value} (C : zOk x cc own ret f L) {n : Fin 2} {z : Int} (d : decode cc pc = .ok (.lconst n, 1)) (h : Int64.ofNat (n : Nat) = zJ z) (k : zV x σ (pc + 1) lv (.long (zJ z) :: st)) : zV x σ pc lv st := by
  obtain ⟨⟨p, l, e, R, s, m, args, below, meth, c⟩, w, A, Q, nL, ce, sl⟩ := x
  intro H locs ls hl hP hS
  exact lv_lconst C.1 C.2.1 d h (k H locs ls hl hP hS)
theorem z_ldc2 {x : Cx} {cc : ByteArray} {own : String} {ret : Option FieldType} {f L : Nat} {σ : Hp} {pc : Nat} {lv : List (Nat × Value)} {st : List Value} (C : zOk x cc own ret f L) {idx : Nat} {v : Int64} {z : Int} (hw : Cond.constantLong own idx v ∈ ztb) (h : v = zJ z) (d : decode cc pc = .ok (.ldc2_w idx, 3)) (k : zV x σ (pc + 3) lv (.long (zJ z) :: st)) : zV x σ pc lv st := by
  obtain ⟨⟨p, l, e, R, s, m, args, below, meth, c⟩, w, A, Q, nL, ce, sl⟩ := x
  intro H locs ls hl hP hS
  subst h
  exact lv_ldc2 C.1 C.2.1 C.2.2.2.1 (C.2.2.2.2.1 _ hw) d (k H locs ls hl hP hS)
theorem z_ldcw {x : Cx} {cc : ByteArray} {own : String} {ret : Option FieldType} {f L : Nat} {σ : Hp} {pc : Nat} {lv : List (Nat × Value)} {st : List Value} (C : zOk x cc own ret f L) {idx : Nat} {v : Int32} {z : Int} (hw : Cond.constant own idx v ∈ ztb) (h : v = zI z) (d : decode cc pc = .ok (.ldc_w idx, 3)) (k : zV x σ (pc + 3) lv (.int (zI z) :: st)) : zV x σ pc lv st := by
  obtain ⟨⟨p, l, e, R, s, m, args, below, meth, c⟩, w, A, Q, nL, ce, sl⟩ := x
  intro H locs ls hl hP hS
  subst h
  exact lv_ldcw C.1 C.2.1 C.2.2.2.1 (C.2.2.2.2.1 _ hw) d (k H locs ls hl hP hS)
theorem z_null {x : Cx} {cc : ByteArray} {own : String} {ret : Option FieldType} {f L : Nat} {σ : Hp} {pc : Nat} {lv : List (Nat × Value)} {st : List Value} (C : zOk x cc own ret f L) (d : decode cc pc = .ok (.aconst_null, 1)) (k : zV x σ (pc + 1) lv (.null :: st)) : zV x σ pc lv st := by
  obtain ⟨⟨p, l, e, R, s, m, args, below, meth, c⟩, w, A, Q, nL, ce, sl⟩ := x
  intro H locs ls hl hP hS
  exact lv_null C.1 C.2.1 d (k H locs ls hl hP hS)
theorem z_iload_n {x : Cx} {cc : ByteArray} {own : String} {ret : Option FieldType} {f L : Nat} {σ : Hp} {pc : Nat} {lv : List (Nat × Value)} {st : List Value} (C : zOk x cc own ret f L) {k4 : Fin 4} {i : Nat} (j : Nat) {z : Int} (d : decode cc pc = .ok (.iload_n k4, 1)) (hi : (k4 : Nat) = i) (hj : lv[j]? = some (i, .int (zI z))) (k : zV x σ (pc + 1) lv (.int (zI z) :: st)) : zV x σ pc lv st := by
  obtain ⟨⟨p, l, e, R, s, m, args, below, meth, c⟩, w, A, Q, nL, ce, sl⟩ := x
  intro H locs ls hl hP hS
  exact lv_iload_n C.1 C.2.1 d hi (lv_at hl j hj) (k H locs ls hl hP hS)
theorem z_iload {x : Cx} {cc : ByteArray} {own : String} {ret : Option FieldType} {f L : Nat} {σ : Hp} {pc : Nat} {lv : List (Nat × Value)} {st : List Value} (C : zOk x cc own ret f L) {i : Nat} (j : Nat) {z : Int} (d : decode cc pc = .ok (.iload i, 2)) (hj : lv[j]? = some (i, .int (zI z))) (k : zV x σ (pc + 2) lv (.int (zI z) :: st)) : zV x σ pc lv st := by
  obtain ⟨⟨p, l, e, R, s, m, args, below, meth, c⟩, w, A, Q, nL, ce, sl⟩ := x
  intro H locs ls hl hP hS
  exact lv_iload C.1 C.2.1 d (lv_at hl j hj) (k H locs ls hl hP hS)
theorem z_lload_n {x : Cx} {cc : ByteArray} {own : String} {ret : Option FieldType} {f L : Nat} {σ : Hp} {pc : Nat} {lv : List (Nat × Value)} {st : List Value} (C : zOk x cc own ret f L) {k4 : Fin 4} {i : Nat} (j : Nat) {z : Int} (d : decode cc pc = .ok (.lload_n k4, 1)) (hi : (k4 : Nat) = i) (hj : lv[j]? = some (i, .long (zJ z))) (k : zV x σ (pc + 1) lv (.long (zJ z) :: st)) : zV x σ pc lv st := by
  obtain ⟨⟨p, l, e, R, s, m, args, below, meth, c⟩, w, A, Q, nL, ce, sl⟩ := x
  intro H locs ls hl hP hS
  exact lv_lload_n C.1 C.2.1 d hi (lv_at hl j hj) (k H locs ls hl hP hS)
theorem z_lload {x : Cx} {cc : ByteArray} {own : String} {ret : Option FieldType} {f L : Nat} {σ : Hp} {pc : Nat} {lv : List (Nat × Value)} {st : List Value} (C : zOk x cc own ret f L) {i : Nat} (j : Nat) {z : Int} (d : decode cc pc = .ok (.lload i, 2)) (hj : lv[j]? = some (i, .long (zJ z))) (k : zV x σ (pc + 2) lv (.long (zJ z) :: st)) : zV x σ pc lv st := by
  obtain ⟨⟨p, l, e, R, s, m, args, below, meth, c⟩, w, A, Q, nL, ce, sl⟩ := x
  intro H locs ls hl hP hS
  exact lv_lload C.1 C.2.1 d (lv_at hl j hj) (k H locs ls hl hP hS)
theorem z_aload_n {x : Cx} {cc : ByteArray} {own : String} {ret : Option FieldType} {f L : Nat} {σ : Hp} {pc : Nat} {lv : List (Nat × Value)} {st : List Value} (C : zOk x cc own ret f L) {k4 : Fin 4} {i q : Nat} (j : Nat) (d : decode cc pc = .ok (.aload_n k4, 1)) (hi : (k4 : Nat) = i) (hj : lv[j]? = some (i, za x q)) (k : zV x σ (pc + 1) lv (za x q :: st)) : zV x σ pc lv st := by
  obtain ⟨⟨p, l, e, R, s, m, args, below, meth, c⟩, w, A, Q, nL, ce, sl⟩ := x
  intro H locs ls hl hP hS
  exact lv_aload_n C.1 C.2.1 d hi (lv_at hl j hj) (k H locs ls hl hP hS)
theorem z_aload {x : Cx} {cc : ByteArray} {own : String} {ret : Option FieldType} {f L : Nat} {σ : Hp} {pc : Nat} {lv : List (Nat × Value)} {st : List Value} (C : zOk x cc own ret f L) {i q : Nat} (j : Nat) (d : decode cc pc = .ok (.aload i, 2)) (hj : lv[j]? = some (i, za x q)) (k : zV x σ (pc + 2) lv (za x q :: st)) : zV x σ pc lv st := by
  obtain ⟨⟨p, l, e, R, s, m, args, below, meth, c⟩, w, A, Q, nL, ce, sl⟩ := x
  intro H locs ls hl hP hS
  exact lv_aload C.1 C.2.1 d (lv_at hl j hj) (k H locs ls hl hP hS)
theorem z_aload_nN {x : Cx} {cc : ByteArray} {own : String} {ret : Option FieldType} {f L : Nat} {σ : Hp} {pc : Nat} {lv : List (Nat × Value)} {st : List Value} (C : zOk x cc own ret f L) {k4 : Fin 4} {i : Nat} (j : Nat) (d : decode cc pc = .ok (.aload_n k4, 1)) (hi : (k4 : Nat) = i) (hj : lv[j]? = some (i, .null)) (k : zV x σ (pc + 1) lv (.null :: st)) : zV x σ pc lv st := by
  obtain ⟨⟨p, l, e, R, s, m, args, below, meth, c⟩, w, A, Q, nL, ce, sl⟩ := x
  intro H locs ls hl hP hS
  exact lv_aload_nN C.1 C.2.1 d hi (lv_at hl j hj) (k H locs ls hl hP hS)
theorem z_aloadN {x : Cx} {cc : ByteArray} {own : String} {ret : Option FieldType} {f L : Nat} {σ : Hp} {pc : Nat} {lv : List (Nat × Value)} {st : List Value} (C : zOk x cc own ret f L) {i : Nat} (j : Nat) (d : decode cc pc = .ok (.aload i, 2)) (hj : lv[j]? = some (i, .null)) (k : zV x σ (pc + 2) lv (.null :: st)) : zV x σ pc lv st := by
  obtain ⟨⟨p, l, e, R, s, m, args, below, meth, c⟩, w, A, Q, nL, ce, sl⟩ := x
  intro H locs ls hl hP hS
  exact lv_aloadN C.1 C.2.1 d (lv_at hl j hj) (k H locs ls hl hP hS)
theorem z_istore_n {x : Cx} {cc : ByteArray} {own : String} {ret : Option FieldType} {f L : Nat} {σ : Hp} {pc : Nat} {lv : List (Nat × Value)} {st : List Value} (C : zOk x cc own ret f L) {k4 : Fin 4} {i : Nat} {z : Int} (lv2 : List (Nat × Value)) (d : decode cc pc = .ok (.istore_n k4, 1)) (hi : (k4 : Nat) = i) (hn : i < x.2.2.2.2.1) (hl2 : (i, .int (zI z)) :: lv.filter (fun q => !(q.1 == i) && !(q.1 + 1 == i && q.2.category == 2)) = lv2) (k : zV x σ (pc + 1) lv2 st) : zV x σ pc lv (.int (zI z) :: st) := by
  obtain ⟨⟨p, l, e, R, s, m, args, below, meth, c⟩, w, A, Q, nL, ce, sl⟩ := x
  intro H locs ls hl hP hS
  exact lv_istore_n C.1 C.2.1 d hi hl hn hl2 (fun ls hl => k H locs ls hl hP hS)
theorem z_istore {x : Cx} {cc : ByteArray} {own : String} {ret : Option FieldType} {f L : Nat} {σ : Hp} {pc : Nat} {lv : List (Nat × Value)} {st : List Value} (C : zOk x cc own ret f L) {i : Nat} {z : Int} (lv2 : List (Nat × Value)) (d : decode cc pc = .ok (.istore i, 2)) (hn : i < x.2.2.2.2.1) (hl2 : (i, .int (zI z)) :: lv.filter (fun q => !(q.1 == i) && !(q.1 + 1 == i && q.2.category == 2)) = lv2) (k : zV x σ (pc + 2) lv2 st) : zV x σ pc lv (.int (zI z) :: st) := by
  obtain ⟨⟨p, l, e, R, s, m, args, below, meth, c⟩, w, A, Q, nL, ce, sl⟩ := x
  intro H locs ls hl hP hS
  exact lv_istore C.1 C.2.1 d hl hn hl2 (fun ls hl => k H locs ls hl hP hS)
theorem z_lstore_n {x : Cx} {cc : ByteArray} {own : String} {ret : Option FieldType} {f L : Nat} {σ : Hp} {pc : Nat} {lv : List (Nat × Value)} {st : List Value} (C : zOk x cc own ret f L) {k4 : Fin 4} {i : Nat} {z : Int} (lv2 : List (Nat × Value)) (d : decode cc pc = .ok (.lstore_n k4, 1)) (hi : (k4 : Nat) = i) (hn : i + 1 < x.2.2.2.2.1) (hl2 : (i, .long (zJ z)) :: lv.filter (fun q => !(q.1 == i) && (!(q.1 == i + 1) && !(q.1 + 1 == i && q.2.category == 2))) = lv2) (k : zV x σ (pc + 1) lv2 st) : zV x σ pc lv (.long (zJ z) :: st) := by
  obtain ⟨⟨p, l, e, R, s, m, args, below, meth, c⟩, w, A, Q, nL, ce, sl⟩ := x
  intro H locs ls hl hP hS
  exact lv_lstore_n C.1 C.2.1 d hi hl hn hl2 (fun ls hl => k H locs ls hl hP hS)
theorem z_lstore {x : Cx} {cc : ByteArray} {own : String} {ret : Option FieldType} {f L : Nat} {σ : Hp} {pc : Nat} {lv : List (Nat × Value)} {st : List Value} (C : zOk x cc own ret f L) {i : Nat} {z : Int} (lv2 : List (Nat × Value)) (d : decode cc pc = .ok (.lstore i, 2)) (hn : i + 1 < x.2.2.2.2.1) (hl2 : (i, .long (zJ z)) :: lv.filter (fun q => !(q.1 == i) && (!(q.1 == i + 1) && !(q.1 + 1 == i && q.2.category == 2))) = lv2) (k : zV x σ (pc + 2) lv2 st) : zV x σ pc lv (.long (zJ z) :: st) := by
  obtain ⟨⟨p, l, e, R, s, m, args, below, meth, c⟩, w, A, Q, nL, ce, sl⟩ := x
  intro H locs ls hl hP hS
  exact lv_lstore C.1 C.2.1 d hl hn hl2 (fun ls hl => k H locs ls hl hP hS)
theorem z_astore_n {x : Cx} {cc : ByteArray} {own : String} {ret : Option FieldType} {f L : Nat} {σ : Hp} {pc : Nat} {lv : List (Nat × Value)} {st : List Value} (C : zOk x cc own ret f L) {k4 : Fin 4} {i : Nat} {q0 : Nat} (lv2 : List (Nat × Value)) (d : decode cc pc = .ok (.astore_n k4, 1)) (hi : (k4 : Nat) = i) (hn : i < x.2.2.2.2.1) (hl2 : (i, za x q0) :: lv.filter (fun q => !(q.1 == i) && !(q.1 + 1 == i && q.2.category == 2)) = lv2) (k : zV x σ (pc + 1) lv2 st) : zV x σ pc lv (za x q0 :: st) := by
  obtain ⟨⟨p, l, e, R, s, m, args, below, meth, c⟩, w, A, Q, nL, ce, sl⟩ := x
  intro H locs ls hl hP hS
  exact lv_astore_n C.1 C.2.1 d hi hl hn hl2 (fun ls hl => k H locs ls hl hP hS)
theorem z_astore {x : Cx} {cc : ByteArray} {own : String} {ret : Option FieldType} {f L : Nat} {σ : Hp} {pc : Nat} {lv : List (Nat × Value)} {st : List Value} (C : zOk x cc own ret f L) {i : Nat} {q0 : Nat} (lv2 : List (Nat × Value)) (d : decode cc pc = .ok (.astore i, 2)) (hn : i < x.2.2.2.2.1) (hl2 : (i, za x q0) :: lv.filter (fun q => !(q.1 == i) && !(q.1 + 1 == i && q.2.category == 2)) = lv2) (k : zV x σ (pc + 2) lv2 st) : zV x σ pc lv (za x q0 :: st) := by
  obtain ⟨⟨p, l, e, R, s, m, args, below, meth, c⟩, w, A, Q, nL, ce, sl⟩ := x
  intro H locs ls hl hP hS
  exact lv_astore C.1 C.2.1 d hl hn hl2 (fun ls hl => k H locs ls hl hP hS)
theorem z_astore_nN {x : Cx} {cc : ByteArray} {own : String} {ret : Option FieldType} {f L : Nat} {σ : Hp} {pc : Nat} {lv : List (Nat × Value)} {st : List Value} (C : zOk x cc own ret f L) {k4 : Fin 4} {i : Nat} (lv2 : List (Nat × Value)) (d : decode cc pc = .ok (.astore_n k4, 1)) (hi : (k4 : Nat) = i) (hn : i < x.2.2.2.2.1) (hl2 : (i, .null) :: lv.filter (fun q => !(q.1 == i) && !(q.1 + 1 == i && q.2.category == 2)) = lv2) (k : zV x σ (pc + 1) lv2 st) : zV x σ pc lv (.null :: st) := by
  obtain ⟨⟨p, l, e, R, s, m, args, below, meth, c⟩, w, A, Q, nL, ce, sl⟩ := x
  intro H locs ls hl hP hS
  exact lv_astore_nN C.1 C.2.1 d hi hl hn hl2 (fun ls hl => k H locs ls hl hP hS)
theorem z_astoreN {x : Cx} {cc : ByteArray} {own : String} {ret : Option FieldType} {f L : Nat} {σ : Hp} {pc : Nat} {lv : List (Nat × Value)} {st : List Value} (C : zOk x cc own ret f L) {i : Nat} (lv2 : List (Nat × Value)) (d : decode cc pc = .ok (.astore i, 2)) (hn : i < x.2.2.2.2.1) (hl2 : (i, .null) :: lv.filter (fun q => !(q.1 == i) && !(q.1 + 1 == i && q.2.category == 2)) = lv2) (k : zV x σ (pc + 2) lv2 st) : zV x σ pc lv (.null :: st) := by
  obtain ⟨⟨p, l, e, R, s, m, args, below, meth, c⟩, w, A, Q, nL, ce, sl⟩ := x
  intro H locs ls hl hP hS
  exact lv_astoreN C.1 C.2.1 d hl hn hl2 (fun ls hl => k H locs ls hl hP hS)
theorem z_iinc {x : Cx} {cc : ByteArray} {own : String} {ret : Option FieldType} {f L : Nat} {σ : Hp} {pc : Nat} {lv : List (Nat × Value)} {st : List Value} (C : zOk x cc own ret f L) {i : Nat} {n z : Int} (j : Nat) (lv2 : List (Nat × Value)) (d : decode cc pc = .ok (.iinc i n, 3)) (hj : lv[j]? = some (i, .int (zI z))) (hn : i < x.2.2.2.2.1) (hl2 : (i, .int (zI (z + n))) :: lv.filter (fun q => !(q.1 == i) && !(q.1 + 1 == i && q.2.category == 2)) = lv2) (k : zV x σ (pc + 3) lv2 st) : zV x σ pc lv st := by
  obtain ⟨⟨p, l, e, R, s, m, args, below, meth, c⟩, w, A, Q, nL, ce, sl⟩ := x
  intro H locs ls hl hP hS
  exact lv_iinc C.1 C.2.1 d hl hj (zI_add z n) hn hl2 (fun ls hl => k H locs ls hl hP hS)
theorem z_iadd {x : Cx} {cc : ByteArray} {own : String} {ret : Option FieldType} {f L : Nat} {σ : Hp} {pc : Nat} {lv : List (Nat × Value)} {st : List Value} (C : zOk x cc own ret f L) {a b : Int} (d : decode cc pc = .ok (.iadd, 1)) (k : zV x σ (pc + 1) lv (.int (zI (a + b)) :: st)) : zV x σ pc lv (.int (zI b) :: .int (zI a) :: st) := by
  obtain ⟨⟨p, l, e, R, s, m, args, below, meth, c⟩, w, A, Q, nL, ce, sl⟩ := x
  intro H locs ls hl hP hS
  refine lv_iadd C.1 C.2.1 d ?_
  rw [zI_add]
  exact k H locs ls hl hP hS
theorem z_isub {x : Cx} {cc : ByteArray} {own : String} {ret : Option FieldType} {f L : Nat} {σ : Hp} {pc : Nat} {lv : List (Nat × Value)} {st : List Value} (C : zOk x cc own ret f L) {a b : Int} (d : decode cc pc = .ok (.isub, 1)) (k : zV x σ (pc + 1) lv (.int (zI (a - b)) :: st)) : zV x σ pc lv (.int (zI b) :: .int (zI a) :: st) := by
  obtain ⟨⟨p, l, e, R, s, m, args, below, meth, c⟩, w, A, Q, nL, ce, sl⟩ := x
  intro H locs ls hl hP hS
  refine lv_isub C.1 C.2.1 d ?_
  rw [zI_sub]
  exact k H locs ls hl hP hS
theorem z_imul {x : Cx} {cc : ByteArray} {own : String} {ret : Option FieldType} {f L : Nat} {σ : Hp} {pc : Nat} {lv : List (Nat × Value)} {st : List Value} (C : zOk x cc own ret f L) {a b : Int} (d : decode cc pc = .ok (.imul, 1)) (k : zV x σ (pc + 1) lv (.int (zI (a * b)) :: st)) : zV x σ pc lv (.int (zI b) :: .int (zI a) :: st) := by
  obtain ⟨⟨p, l, e, R, s, m, args, below, meth, c⟩, w, A, Q, nL, ce, sl⟩ := x
  intro H locs ls hl hP hS
  refine lv_imul C.1 C.2.1 d ?_
  rw [zI_mul]
  exact k H locs ls hl hP hS
theorem z_ladd {x : Cx} {cc : ByteArray} {own : String} {ret : Option FieldType} {f L : Nat} {σ : Hp} {pc : Nat} {lv : List (Nat × Value)} {st : List Value} (C : zOk x cc own ret f L) {a b : Int} (d : decode cc pc = .ok (.ladd, 1)) (k : zV x σ (pc + 1) lv (.long (zJ (a + b)) :: st)) : zV x σ pc lv (.long (zJ b) :: .long (zJ a) :: st) := by
  obtain ⟨⟨p, l, e, R, s, m, args, below, meth, c⟩, w, A, Q, nL, ce, sl⟩ := x
  intro H locs ls hl hP hS
  refine lv_ladd C.1 C.2.1 d ?_
  rw [zJ_add]
  exact k H locs ls hl hP hS
theorem z_lmul {x : Cx} {cc : ByteArray} {own : String} {ret : Option FieldType} {f L : Nat} {σ : Hp} {pc : Nat} {lv : List (Nat × Value)} {st : List Value} (C : zOk x cc own ret f L) {a b : Int} (d : decode cc pc = .ok (.lmul, 1)) (k : zV x σ (pc + 1) lv (.long (zJ (a * b)) :: st)) : zV x σ pc lv (.long (zJ b) :: .long (zJ a) :: st) := by
  obtain ⟨⟨p, l, e, R, s, m, args, below, meth, c⟩, w, A, Q, nL, ce, sl⟩ := x
  intro H locs ls hl hP hS
  refine lv_lmul C.1 C.2.1 d ?_
  rw [zJ_mul]
  exact k H locs ls hl hP hS
theorem z_iand {x : Cx} {cc : ByteArray} {own : String} {ret : Option FieldType} {f L : Nat} {σ : Hp} {pc : Nat} {lv : List (Nat × Value)} {st : List Value} (C : zOk x cc own ret f L) {a b : Int} (d : decode cc pc = .ok (.iand, 1)) (k : zV x σ (pc + 1) lv (.int (zI (zand a b)) :: st)) : zV x σ pc lv (.int (zI b) :: .int (zI a) :: st) := by
  obtain ⟨⟨p, l, e, R, s, m, args, below, meth, c⟩, w, A, Q, nL, ce, sl⟩ := x
  intro H locs ls hl hP hS
  refine lv_iand C.1 C.2.1 d ?_
  have k := k H locs ls hl hP hS
  rw [zand, zI_of] at k
  exact k
theorem z_ior {x : Cx} {cc : ByteArray} {own : String} {ret : Option FieldType} {f L : Nat} {σ : Hp} {pc : Nat} {lv : List (Nat × Value)} {st : List Value} (C : zOk x cc own ret f L) {a b : Int} (d : decode cc pc = .ok (.ior, 1)) (k : zV x σ (pc + 1) lv (.int (zI (zor a b)) :: st)) : zV x σ pc lv (.int (zI b) :: .int (zI a) :: st) := by
  obtain ⟨⟨p, l, e, R, s, m, args, below, meth, c⟩, w, A, Q, nL, ce, sl⟩ := x
  intro H locs ls hl hP hS
  refine lv_ior C.1 C.2.1 d ?_
  have k := k H locs ls hl hP hS
  rw [zor, zI_of] at k
  exact k
theorem z_ixor {x : Cx} {cc : ByteArray} {own : String} {ret : Option FieldType} {f L : Nat} {σ : Hp} {pc : Nat} {lv : List (Nat × Value)} {st : List Value} (C : zOk x cc own ret f L) {a b : Int} (d : decode cc pc = .ok (.ixor, 1)) (k : zV x σ (pc + 1) lv (.int (zI (zxor a b)) :: st)) : zV x σ pc lv (.int (zI b) :: .int (zI a) :: st) := by
  obtain ⟨⟨p, l, e, R, s, m, args, below, meth, c⟩, w, A, Q, nL, ce, sl⟩ := x
  intro H locs ls hl hP hS
  refine lv_ixor C.1 C.2.1 d ?_
  have k := k H locs ls hl hP hS
  rw [zxor, zI_of] at k
  exact k
theorem z_ishl {x : Cx} {cc : ByteArray} {own : String} {ret : Option FieldType} {f L : Nat} {σ : Hp} {pc : Nat} {lv : List (Nat × Value)} {st : List Value} (C : zOk x cc own ret f L) {a b : Int} (d : decode cc pc = .ok (.ishl, 1)) (k : zV x σ (pc + 1) lv (.int (zI (zshl a b)) :: st)) : zV x σ pc lv (.int (zI b) :: .int (zI a) :: st) := by
  obtain ⟨⟨p, l, e, R, s, m, args, below, meth, c⟩, w, A, Q, nL, ce, sl⟩ := x
  intro H locs ls hl hP hS
  refine lv_ishl C.1 C.2.1 d ?_
  have k := k H locs ls hl hP hS
  rw [zshl, zI_of] at k
  exact k
theorem z_ishr {x : Cx} {cc : ByteArray} {own : String} {ret : Option FieldType} {f L : Nat} {σ : Hp} {pc : Nat} {lv : List (Nat × Value)} {st : List Value} (C : zOk x cc own ret f L) {a b : Int} (d : decode cc pc = .ok (.ishr, 1)) (k : zV x σ (pc + 1) lv (.int (zI (zshr a b)) :: st)) : zV x σ pc lv (.int (zI b) :: .int (zI a) :: st) := by
  obtain ⟨⟨p, l, e, R, s, m, args, below, meth, c⟩, w, A, Q, nL, ce, sl⟩ := x
  intro H locs ls hl hP hS
  refine lv_ishr C.1 C.2.1 d ?_
  have k := k H locs ls hl hP hS
  rw [zshr, zI_of] at k
  exact k
theorem z_land {x : Cx} {cc : ByteArray} {own : String} {ret : Option FieldType} {f L : Nat} {σ : Hp} {pc : Nat} {lv : List (Nat × Value)} {st : List Value} (C : zOk x cc own ret f L) {a b : Int} (d : decode cc pc = .ok (.land, 1)) (k : zV x σ (pc + 1) lv (.long (zJ (zLand a b)) :: st)) : zV x σ pc lv (.long (zJ b) :: .long (zJ a) :: st) := by
  obtain ⟨⟨p, l, e, R, s, m, args, below, meth, c⟩, w, A, Q, nL, ce, sl⟩ := x
  intro H locs ls hl hP hS
  refine lv_land C.1 C.2.1 d ?_
  have k := k H locs ls hl hP hS
  rw [zLand, zJ_of] at k
  exact k
theorem z_lor {x : Cx} {cc : ByteArray} {own : String} {ret : Option FieldType} {f L : Nat} {σ : Hp} {pc : Nat} {lv : List (Nat × Value)} {st : List Value} (C : zOk x cc own ret f L) {a b : Int} (d : decode cc pc = .ok (.lor, 1)) (k : zV x σ (pc + 1) lv (.long (zJ (zLor a b)) :: st)) : zV x σ pc lv (.long (zJ b) :: .long (zJ a) :: st) := by
  obtain ⟨⟨p, l, e, R, s, m, args, below, meth, c⟩, w, A, Q, nL, ce, sl⟩ := x
  intro H locs ls hl hP hS
  refine lv_lor C.1 C.2.1 d ?_
  have k := k H locs ls hl hP hS
  rw [zLor, zJ_of] at k
  exact k
theorem z_iushr {x : Cx} {cc : ByteArray} {own : String} {ret : Option FieldType} {f L : Nat} {σ : Hp} {pc : Nat} {lv : List (Nat × Value)} {st : List Value} (C : zOk x cc own ret f L) {a b : Int} (d : decode cc pc = .ok (.iushr, 1)) (k : zV x σ (pc + 1) lv (.int (zI (zushr a b)) :: st)) : zV x σ pc lv (.int (zI b) :: .int (zI a) :: st) := by
  obtain ⟨⟨p, l, e, R, s, m, args, below, meth, c⟩, w, A, Q, nL, ce, sl⟩ := x
  intro H locs ls hl hP hS
  exact lv_iushr C.1 C.2.1 d (zI_of _).symm (k H locs ls hl hP hS)
theorem z_lshl {x : Cx} {cc : ByteArray} {own : String} {ret : Option FieldType} {f L : Nat} {σ : Hp} {pc : Nat} {lv : List (Nat × Value)} {st : List Value} (C : zOk x cc own ret f L) {a b : Int} (d : decode cc pc = .ok (.lshl, 1)) (k : zV x σ (pc + 1) lv (.long (zJ (zLshl a b)) :: st)) : zV x σ pc lv (.int (zI b) :: .long (zJ a) :: st) := by
  obtain ⟨⟨p, l, e, R, s, m, args, below, meth, c⟩, w, A, Q, nL, ce, sl⟩ := x
  intro H locs ls hl hP hS
  exact lv_lshl C.1 C.2.1 d (zJ_of _).symm (k H locs ls hl hP hS)
theorem z_lshr {x : Cx} {cc : ByteArray} {own : String} {ret : Option FieldType} {f L : Nat} {σ : Hp} {pc : Nat} {lv : List (Nat × Value)} {st : List Value} (C : zOk x cc own ret f L) {a b : Int} (d : decode cc pc = .ok (.lshr, 1)) (k : zV x σ (pc + 1) lv (.long (zJ (zLshr a b)) :: st)) : zV x σ pc lv (.int (zI b) :: .long (zJ a) :: st) := by
  obtain ⟨⟨p, l, e, R, s, m, args, below, meth, c⟩, w, A, Q, nL, ce, sl⟩ := x
  intro H locs ls hl hP hS
  exact lv_lshr C.1 C.2.1 d (zJ_of _).symm (k H locs ls hl hP hS)
theorem z_lushr {x : Cx} {cc : ByteArray} {own : String} {ret : Option FieldType} {f L : Nat} {σ : Hp} {pc : Nat} {lv : List (Nat × Value)} {st : List Value} (C : zOk x cc own ret f L) {a b : Int} (d : decode cc pc = .ok (.lushr, 1)) (k : zV x σ (pc + 1) lv (.long (zJ (zLushr a b)) :: st)) : zV x σ pc lv (.int (zI b) :: .long (zJ a) :: st) := by
  obtain ⟨⟨p, l, e, R, s, m, args, below, meth, c⟩, w, A, Q, nL, ce, sl⟩ := x
  intro H locs ls hl hP hS
  exact lv_lushr C.1 C.2.1 d (zJ_of _).symm (k H locs ls hl hP hS)
theorem z_idiv {x : Cx} {cc : ByteArray} {own : String} {ret : Option FieldType} {f L : Nat} {σ : Hp} {pc : Nat} {lv : List (Nat × Value)} {st : List Value} (C : zOk x cc own ret f L) {a b : Int} (d : decode cc pc = .ok (.idiv, 1)) (ha : zrg a) (hb : zrg b) (h0 : 0 < b) (k : zV x σ (pc + 1) lv (.int (zI (a.tdiv b)) :: st)) : zV x σ pc lv (.int (zI b) :: .int (zI a) :: st) := by
  obtain ⟨⟨p, l, e, R, s, m, args, below, meth, c⟩, w, A, Q, nL, ce, sl⟩ := x
  intro H locs ls hl hP hS
  refine lv_idiv C.1 C.2.1 d (fun h => absurd ((zI_eq hb zrg_0).mp (h.trans zI_0.symm)) (by omega)) ?_
  rw [zI_quo ha hb h0]
  exact k H locs ls hl hP hS
theorem z_irem {x : Cx} {cc : ByteArray} {own : String} {ret : Option FieldType} {f L : Nat} {σ : Hp} {pc : Nat} {lv : List (Nat × Value)} {st : List Value} (C : zOk x cc own ret f L) {a b : Int} (d : decode cc pc = .ok (.irem, 1)) (ha : zrg a) (hb : zrg b) (h0 : 0 < b) (k : zV x σ (pc + 1) lv (.int (zI (a.tmod b)) :: st)) : zV x σ pc lv (.int (zI b) :: .int (zI a) :: st) := by
  obtain ⟨⟨p, l, e, R, s, m, args, below, meth, c⟩, w, A, Q, nL, ce, sl⟩ := x
  intro H locs ls hl hP hS
  refine lv_irem C.1 C.2.1 d (fun h => absurd ((zI_eq hb zrg_0).mp (h.trans zI_0.symm)) (by omega)) ?_
  rw [zI_rem ha hb h0]
  exact k H locs ls hl hP hS
theorem z_i2l {x : Cx} {cc : ByteArray} {own : String} {ret : Option FieldType} {f L : Nat} {σ : Hp} {pc : Nat} {lv : List (Nat × Value)} {st : List Value} (C : zOk x cc own ret f L) {a : Int} (d : decode cc pc = .ok (.i2l, 1)) (ha : zrg a) (k : zV x σ (pc + 1) lv (.long (zJ a) :: st)) : zV x σ pc lv (.int (zI a) :: st) := by
  obtain ⟨⟨p, l, e, R, s, m, args, below, meth, c⟩, w, A, Q, nL, ce, sl⟩ := x
  intro H locs ls hl hP hS
  exact lv_i2l C.1 C.2.1 d (zI_l ha) (k H locs ls hl hP hS)
theorem z_l2i {x : Cx} {cc : ByteArray} {own : String} {ret : Option FieldType} {f L : Nat} {σ : Hp} {pc : Nat} {lv : List (Nat × Value)} {st : List Value} (C : zOk x cc own ret f L) {a : Int} (d : decode cc pc = .ok (.l2i, 1)) (k : zV x σ (pc + 1) lv (.int (zI a) :: st)) : zV x σ pc lv (.long (zJ a) :: st) := by
  obtain ⟨⟨p, l, e, R, s, m, args, below, meth, c⟩, w, A, Q, nL, ce, sl⟩ := x
  intro H locs ls hl hP hS
  exact lv_l2i C.1 C.2.1 d (zJ_i a) (k H locs ls hl hP hS)
theorem z_i2b {x : Cx} {cc : ByteArray} {own : String} {ret : Option FieldType} {f L : Nat} {σ : Hp} {pc : Nat} {lv : List (Nat × Value)} {st : List Value} (C : zOk x cc own ret f L) {a : Int} (d : decode cc pc = .ok (.i2b, 1)) (k : zV x σ (pc + 1) lv (.int (zI (zi2b a)) :: st)) : zV x σ pc lv (.int (zI a) :: st) := by
  obtain ⟨⟨p, l, e, R, s, m, args, below, meth, c⟩, w, A, Q, nL, ce, sl⟩ := x
  intro H locs ls hl hP hS
  exact lv_i2b C.1 C.2.1 d (zI_of _).symm (k H locs ls hl hP hS)
theorem z_dup {x : Cx} {cc : ByteArray} {own : String} {ret : Option FieldType} {f L : Nat} {σ : Hp} {pc : Nat} {lv : List (Nat × Value)} {st : List Value} (C : zOk x cc own ret f L) {v : Value} (d : decode cc pc = .ok (.dup, 1)) (hv : v.category = 1) (k : zV x σ (pc + 1) lv (v :: v :: st)) : zV x σ pc lv (v :: st) := by
  obtain ⟨⟨p, l, e, R, s, m, args, below, meth, c⟩, w, A, Q, nL, ce, sl⟩ := x
  intro H locs ls hl hP hS
  exact lv_dup C.1 C.2.1 d hv (k H locs ls hl hP hS)
theorem z_pop {x : Cx} {cc : ByteArray} {own : String} {ret : Option FieldType} {f L : Nat} {σ : Hp} {pc : Nat} {lv : List (Nat × Value)} {st : List Value} (C : zOk x cc own ret f L) {v : Value} (d : decode cc pc = .ok (.pop, 1)) (hv : v.category = 1) (k : zV x σ (pc + 1) lv st) : zV x σ pc lv (v :: st) := by
  obtain ⟨⟨p, l, e, R, s, m, args, below, meth, c⟩, w, A, Q, nL, ce, sl⟩ := x
  intro H locs ls hl hP hS
  exact lv_pop C.1 C.2.1 d hv (k H locs ls hl hP hS)
theorem z_dup2 {x : Cx} {cc : ByteArray} {own : String} {ret : Option FieldType} {f L : Nat} {σ : Hp} {pc : Nat} {lv : List (Nat × Value)} {st : List Value} (C : zOk x cc own ret f L) {v u : Value} (d : decode cc pc = .ok (.dup2, 1)) (hv : v.category = 1) (hu : u.category = 1) (k : zV x σ (pc + 1) lv (v :: u :: v :: u :: st)) : zV x σ pc lv (v :: u :: st) := by
  obtain ⟨⟨p, l, e, R, s, m, args, below, meth, c⟩, w, A, Q, nL, ce, sl⟩ := x
  intro H locs ls hl hP hS
  exact lv_dup2_11 C.1 C.2.1 d hv hu (k H locs ls hl hP hS)
theorem z_goto {x : Cx} {cc : ByteArray} {own : String} {ret : Option FieldType} {f L : Nat} {σ : Hp} {pc : Nat} {lv : List (Nat × Value)} {st : List Value} (C : zOk x cc own ret f L) {off : Int} (tgt : Nat) (d : decode cc pc = .ok (.goto off, 3)) (ht : (pc : Int) + off = (tgt : Int)) (k : zV x σ tgt lv st) : zV x σ pc lv st := by
  obtain ⟨⟨p, l, e, R, s, m, args, below, meth, c⟩, w, A, Q, nL, ce, sl⟩ := x
  intro H locs ls hl hP hS
  exact lv_goto C.1 C.2.1 d ht (k H locs ls hl hP hS)
theorem z_icmp_eq {x : Cx} {cc : ByteArray} {own : String} {ret : Option FieldType} {f L : Nat} {σ : Hp} {pc : Nat} {lv : List (Nat × Value)} {st : List Value} (C : zOk x cc own ret f L) {a b off : Int} (tgt : Nat) (d : decode cc pc = .ok (.if_icmp .eq off, 3)) (ht : (pc : Int) + off = (tgt : Int)) (ha : zrg a) (hb : zrg b) (kt : a = b → zV x σ tgt lv st) (kf : ¬ (a = b) → zV x σ (pc + 3) lv st) : zV x σ pc lv (.int (zI b) :: .int (zI a) :: st) := by
  obtain ⟨⟨p, l, e, R, s, m, args, below, meth, c⟩, w, A, Q, nL, ce, sl⟩ := x
  intro H locs ls hl hP hS
  exact lv_icmp_eq C.1 C.2.1 d ht (fun h => kt ((zI_eq ha hb).mp h) H locs ls hl hP hS) (fun h => kf (fun q => h ((zI_eq ha hb).mpr q)) H locs ls hl hP hS)
theorem z_if_eq {x : Cx} {cc : ByteArray} {own : String} {ret : Option FieldType} {f L : Nat} {σ : Hp} {pc : Nat} {lv : List (Nat × Value)} {st : List Value} (C : zOk x cc own ret f L) {a off : Int} (tgt : Nat) (d : decode cc pc = .ok (.ifCond .eq off, 3)) (ht : (pc : Int) + off = (tgt : Int)) (ha : zrg a) (kt : a = 0 → zV x σ tgt lv st) (kf : ¬ (a = 0) → zV x σ (pc + 3) lv st) : zV x σ pc lv (.int (zI a) :: st) := by
  obtain ⟨⟨p, l, e, R, s, m, args, below, meth, c⟩, w, A, Q, nL, ce, sl⟩ := x
  intro H locs ls hl hP hS
  exact lv_if_eq C.1 C.2.1 d ht (fun h => kt ((zI_eq ha zrg_0).mp (by rw [zI_0]; exact h)) H locs ls hl hP hS) (fun h => kf (fun q => h (by have q := (zI_eq ha zrg_0).mpr q; rw [zI_0] at q; exact q)) H locs ls hl hP hS)
theorem z_icmp_ne {x : Cx} {cc : ByteArray} {own : String} {ret : Option FieldType} {f L : Nat} {σ : Hp} {pc : Nat} {lv : List (Nat × Value)} {st : List Value} (C : zOk x cc own ret f L) {a b off : Int} (tgt : Nat) (d : decode cc pc = .ok (.if_icmp .ne off, 3)) (ht : (pc : Int) + off = (tgt : Int)) (ha : zrg a) (hb : zrg b) (kt : a ≠ b → zV x σ tgt lv st) (kf : ¬ (a ≠ b) → zV x σ (pc + 3) lv st) : zV x σ pc lv (.int (zI b) :: .int (zI a) :: st) := by
  obtain ⟨⟨p, l, e, R, s, m, args, below, meth, c⟩, w, A, Q, nL, ce, sl⟩ := x
  intro H locs ls hl hP hS
  exact lv_icmp_ne C.1 C.2.1 d ht (fun h => kt ((not_congr (zI_eq ha hb)).mp h) H locs ls hl hP hS) (fun h => kf (fun q => q ((zI_eq ha hb).mp h)) H locs ls hl hP hS)
theorem z_if_ne {x : Cx} {cc : ByteArray} {own : String} {ret : Option FieldType} {f L : Nat} {σ : Hp} {pc : Nat} {lv : List (Nat × Value)} {st : List Value} (C : zOk x cc own ret f L) {a off : Int} (tgt : Nat) (d : decode cc pc = .ok (.ifCond .ne off, 3)) (ht : (pc : Int) + off = (tgt : Int)) (ha : zrg a) (kt : a ≠ 0 → zV x σ tgt lv st) (kf : ¬ (a ≠ 0) → zV x σ (pc + 3) lv st) : zV x σ pc lv (.int (zI a) :: st) := by
  obtain ⟨⟨p, l, e, R, s, m, args, below, meth, c⟩, w, A, Q, nL, ce, sl⟩ := x
  intro H locs ls hl hP hS
  exact lv_if_ne C.1 C.2.1 d ht (fun h => kt ((not_congr (zI_eq ha zrg_0)).mp (by rw [zI_0]; exact h)) H locs ls hl hP hS) (fun h => kf (fun q => q ((zI_eq ha zrg_0).mp (by rw [zI_0]; exact h))) H locs ls hl hP hS)
theorem z_icmp_lt {x : Cx} {cc : ByteArray} {own : String} {ret : Option FieldType} {f L : Nat} {σ : Hp} {pc : Nat} {lv : List (Nat × Value)} {st : List Value} (C : zOk x cc own ret f L) {a b off : Int} (tgt : Nat) (d : decode cc pc = .ok (.if_icmp .lt off, 3)) (ht : (pc : Int) + off = (tgt : Int)) (ha : zrg a) (hb : zrg b) (kt : a < b → zV x σ tgt lv st) (kf : ¬ (a < b) → zV x σ (pc + 3) lv st) : zV x σ pc lv (.int (zI b) :: .int (zI a) :: st) := by
  obtain ⟨⟨p, l, e, R, s, m, args, below, meth, c⟩, w, A, Q, nL, ce, sl⟩ := x
  intro H locs ls hl hP hS
  exact lv_icmp_lt C.1 C.2.1 d ht (fun h => kt ((zI_lt ha hb).mp h) H locs ls hl hP hS) (fun h => kf (fun q => h ((zI_lt ha hb).mpr q)) H locs ls hl hP hS)
theorem z_if_lt {x : Cx} {cc : ByteArray} {own : String} {ret : Option FieldType} {f L : Nat} {σ : Hp} {pc : Nat} {lv : List (Nat × Value)} {st : List Value} (C : zOk x cc own ret f L) {a off : Int} (tgt : Nat) (d : decode cc pc = .ok (.ifCond .lt off, 3)) (ht : (pc : Int) + off = (tgt : Int)) (ha : zrg a) (kt : a < 0 → zV x σ tgt lv st) (kf : ¬ (a < 0) → zV x σ (pc + 3) lv st) : zV x σ pc lv (.int (zI a) :: st) := by
  obtain ⟨⟨p, l, e, R, s, m, args, below, meth, c⟩, w, A, Q, nL, ce, sl⟩ := x
  intro H locs ls hl hP hS
  exact lv_if_lt C.1 C.2.1 d ht (fun h => kt ((zI_lt ha zrg_0).mp (by rw [zI_0]; exact h)) H locs ls hl hP hS) (fun h => kf (fun q => h (by have q := (zI_lt ha zrg_0).mpr q; rw [zI_0] at q; exact q)) H locs ls hl hP hS)
theorem z_icmp_ge {x : Cx} {cc : ByteArray} {own : String} {ret : Option FieldType} {f L : Nat} {σ : Hp} {pc : Nat} {lv : List (Nat × Value)} {st : List Value} (C : zOk x cc own ret f L) {a b off : Int} (tgt : Nat) (d : decode cc pc = .ok (.if_icmp .ge off, 3)) (ht : (pc : Int) + off = (tgt : Int)) (ha : zrg a) (hb : zrg b) (kt : b ≤ a → zV x σ tgt lv st) (kf : ¬ (b ≤ a) → zV x σ (pc + 3) lv st) : zV x σ pc lv (.int (zI b) :: .int (zI a) :: st) := by
  obtain ⟨⟨p, l, e, R, s, m, args, below, meth, c⟩, w, A, Q, nL, ce, sl⟩ := x
  intro H locs ls hl hP hS
  exact lv_icmp_ge C.1 C.2.1 d ht (fun h => kt ((zI_le hb ha).mp h) H locs ls hl hP hS) (fun h => kf (fun q => h ((zI_le hb ha).mpr q)) H locs ls hl hP hS)
theorem z_if_ge {x : Cx} {cc : ByteArray} {own : String} {ret : Option FieldType} {f L : Nat} {σ : Hp} {pc : Nat} {lv : List (Nat × Value)} {st : List Value} (C : zOk x cc own ret f L) {a off : Int} (tgt : Nat) (d : decode cc pc = .ok (.ifCond .ge off, 3)) (ht : (pc : Int) + off = (tgt : Int)) (ha : zrg a) (kt : 0 ≤ a → zV x σ tgt lv st) (kf : ¬ (0 ≤ a) → zV x σ (pc + 3) lv st) : zV x σ pc lv (.int (zI a) :: st) := by
  obtain ⟨⟨p, l, e, R, s, m, args, below, meth, c⟩, w, A, Q, nL, ce, sl⟩ := x
  intro H locs ls hl hP hS
  exact lv_if_ge C.1 C.2.1 d ht (fun h => kt ((zI_le zrg_0 ha).mp (by rw [zI_0]; exact h)) H locs ls hl hP hS) (fun h => kf (fun q => h (by have q := (zI_le zrg_0 ha).mpr q; rw [zI_0] at q; exact q)) H locs ls hl hP hS)
theorem z_icmp_gt {x : Cx} {cc : ByteArray} {own : String} {ret : Option FieldType} {f L : Nat} {σ : Hp} {pc : Nat} {lv : List (Nat × Value)} {st : List Value} (C : zOk x cc own ret f L) {a b off : Int} (tgt : Nat) (d : decode cc pc = .ok (.if_icmp .gt off, 3)) (ht : (pc : Int) + off = (tgt : Int)) (ha : zrg a) (hb : zrg b) (kt : b < a → zV x σ tgt lv st) (kf : ¬ (b < a) → zV x σ (pc + 3) lv st) : zV x σ pc lv (.int (zI b) :: .int (zI a) :: st) := by
  obtain ⟨⟨p, l, e, R, s, m, args, below, meth, c⟩, w, A, Q, nL, ce, sl⟩ := x
  intro H locs ls hl hP hS
  exact lv_icmp_gt C.1 C.2.1 d ht (fun h => kt ((zI_lt hb ha).mp h) H locs ls hl hP hS) (fun h => kf (fun q => h ((zI_lt hb ha).mpr q)) H locs ls hl hP hS)
theorem z_if_gt {x : Cx} {cc : ByteArray} {own : String} {ret : Option FieldType} {f L : Nat} {σ : Hp} {pc : Nat} {lv : List (Nat × Value)} {st : List Value} (C : zOk x cc own ret f L) {a off : Int} (tgt : Nat) (d : decode cc pc = .ok (.ifCond .gt off, 3)) (ht : (pc : Int) + off = (tgt : Int)) (ha : zrg a) (kt : 0 < a → zV x σ tgt lv st) (kf : ¬ (0 < a) → zV x σ (pc + 3) lv st) : zV x σ pc lv (.int (zI a) :: st) := by
  obtain ⟨⟨p, l, e, R, s, m, args, below, meth, c⟩, w, A, Q, nL, ce, sl⟩ := x
  intro H locs ls hl hP hS
  exact lv_if_gt C.1 C.2.1 d ht (fun h => kt ((zI_lt zrg_0 ha).mp (by rw [zI_0]; exact h)) H locs ls hl hP hS) (fun h => kf (fun q => h (by have q := (zI_lt zrg_0 ha).mpr q; rw [zI_0] at q; exact q)) H locs ls hl hP hS)
theorem z_icmp_le {x : Cx} {cc : ByteArray} {own : String} {ret : Option FieldType} {f L : Nat} {σ : Hp} {pc : Nat} {lv : List (Nat × Value)} {st : List Value} (C : zOk x cc own ret f L) {a b off : Int} (tgt : Nat) (d : decode cc pc = .ok (.if_icmp .le off, 3)) (ht : (pc : Int) + off = (tgt : Int)) (ha : zrg a) (hb : zrg b) (kt : a ≤ b → zV x σ tgt lv st) (kf : ¬ (a ≤ b) → zV x σ (pc + 3) lv st) : zV x σ pc lv (.int (zI b) :: .int (zI a) :: st) := by
  obtain ⟨⟨p, l, e, R, s, m, args, below, meth, c⟩, w, A, Q, nL, ce, sl⟩ := x
  intro H locs ls hl hP hS
  exact lv_icmp_le C.1 C.2.1 d ht (fun h => kt ((zI_le ha hb).mp h) H locs ls hl hP hS) (fun h => kf (fun q => h ((zI_le ha hb).mpr q)) H locs ls hl hP hS)
theorem z_if_le {x : Cx} {cc : ByteArray} {own : String} {ret : Option FieldType} {f L : Nat} {σ : Hp} {pc : Nat} {lv : List (Nat × Value)} {st : List Value} (C : zOk x cc own ret f L) {a off : Int} (tgt : Nat) (d : decode cc pc = .ok (.ifCond .le off, 3)) (ht : (pc : Int) + off = (tgt : Int)) (ha : zrg a) (kt : a ≤ 0 → zV x σ tgt lv st) (kf : ¬ (a ≤ 0) → zV x σ (pc + 3) lv st) : zV x σ pc lv (.int (zI a) :: st) := by
  obtain ⟨⟨p, l, e, R, s, m, args, below, meth, c⟩, w, A, Q, nL, ce, sl⟩ := x
  intro H locs ls hl hP hS
  exact lv_if_le C.1 C.2.1 d ht (fun h => kt ((zI_le ha zrg_0).mp (by rw [zI_0]; exact h)) H locs ls hl hP hS) (fun h => kf (fun q => h (by have q := (zI_le ha zrg_0).mpr q; rw [zI_0] at q; exact q)) H locs ls hl hP hS)
def zcmpv (a b : Int) : Int := if b < a then 1 else if a = b then 0 else -1
theorem zcmp_toInt {a b : Int} (ha : zrl a) (hb : zrl b) : lg_cmp (zJ a) (zJ b) = zI (zcmpv a b) := by
  unfold lg_cmp zcmpv
  by_cases h1 : b < a
  · rw [if_pos ((zJ_lt hb ha).mpr h1), if_pos h1]; rfl
  · rw [if_neg (fun h => h1 ((zJ_lt hb ha).mp h)), if_neg h1]
    by_cases h2 : a = b
    · rw [if_pos ((zJ_eq ha hb).mpr h2), if_pos h2]; rfl
    · rw [if_neg (fun h => h2 ((zJ_eq ha hb).mp h)), if_neg h2]; rfl
theorem zcmp_rg (a b : Int) : zrg (zcmpv a b) := by
  unfold zcmpv
  repeat' split
  all_goals (constructor <;> decide)
theorem zcmp_eq (a b : Int) : (zcmpv a b = 0) ↔ (a = b) := by
  unfold zcmpv
  repeat' split
  all_goals omega
theorem zcmp_ne (a b : Int) : (zcmpv a b ≠ 0) ↔ (a ≠ b) := by
  unfold zcmpv
  repeat' split
  all_goals omega
theorem zcmp_lt (a b : Int) : (zcmpv a b < 0) ↔ (a < b) := by
  unfold zcmpv
  repeat' split
  all_goals omega
theorem zcmp_ge (a b : Int) : (0 ≤ zcmpv a b) ↔ (b ≤ a) := by
  unfold zcmpv
  repeat' split
  all_goals omega
theorem zcmp_gt (a b : Int) : (0 < zcmpv a b) ↔ (b < a) := by
  unfold zcmpv
  repeat' split
  all_goals omega
theorem zcmp_le (a b : Int) : (zcmpv a b ≤ 0) ↔ (a ≤ b) := by
  unfold zcmpv
  repeat' split
  all_goals omega
theorem z_lcmp_eq {x : Cx} {cc : ByteArray} {own : String} {ret : Option FieldType} {f L : Nat} {σ : Hp} {pc : Nat} {lv : List (Nat × Value)} {st : List Value} (C : zOk x cc own ret f L) {a b off : Int} (tgt : Nat) (d : decode cc pc = .ok (.lcmp, 1)) (d2 : decode cc (pc + 1) = .ok (.ifCond .eq off, 3)) (ht : ((pc + 1 : Nat) : Int) + off = (tgt : Int)) (ha : zrl a) (hb : zrl b) (kt : a = b → zV x σ tgt lv st) (kf : ¬ (a = b) → zV x σ (pc + 4) lv st) : zV x σ pc lv (.long (zJ b) :: .long (zJ a) :: st) := by
  obtain ⟨⟨p, l, e, R, s, m, args, below, meth, c⟩, w, A, Q, nL, ce, sl⟩ := x
  intro H locs ls hl hP hS
  refine W.lcmp C.1 C.2.1 d ?_
  rw [zcmp_toInt ha hb]
  exact z_if_eq C tgt d2 ht (zcmp_rg a b) (fun h => kt ((zcmp_eq a b).mp h)) (fun h => kf (fun q => h ((zcmp_eq a b).mpr q))) H locs ls hl hP hS
theorem z_lcmp_ne {x : Cx} {cc : ByteArray} {own : String} {ret : Option FieldType} {f L : Nat} {σ : Hp} {pc : Nat} {lv : List (Nat × Value)} {st : List Value} (C : zOk x cc own ret f L) {a b off : Int} (tgt : Nat) (d : decode cc pc = .ok (.lcmp, 1)) (d2 : decode cc (pc + 1) = .ok (.ifCond .ne off, 3)) (ht : ((pc + 1 : Nat) : Int) + off = (tgt : Int)) (ha : zrl a) (hb : zrl b) (kt : a ≠ b → zV x σ tgt lv st) (kf : ¬ (a ≠ b) → zV x σ (pc + 4) lv st) : zV x σ pc lv (.long (zJ b) :: .long (zJ a) :: st) := by
  obtain ⟨⟨p, l, e, R, s, m, args, below, meth, c⟩, w, A, Q, nL, ce, sl⟩ := x
  intro H locs ls hl hP hS
  refine W.lcmp C.1 C.2.1 d ?_
  rw [zcmp_toInt ha hb]
  exact z_if_ne C tgt d2 ht (zcmp_rg a b) (fun h => kt ((zcmp_ne a b).mp h)) (fun h => kf (fun q => h ((zcmp_ne a b).mpr q))) H locs ls hl hP hS
theorem z_lcmp_lt {x : Cx} {cc : ByteArray} {own : String} {ret : Option FieldType} {f L : Nat} {σ : Hp} {pc : Nat} {lv : List (Nat × Value)} {st : List Value} (C : zOk x cc own ret f L) {a b off : Int} (tgt : Nat) (d : decode cc pc = .ok (.lcmp, 1)) (d2 : decode cc (pc + 1) = .ok (.ifCond .lt off, 3)) (ht : ((pc + 1 : Nat) : Int) + off = (tgt : Int)) (ha : zrl a) (hb : zrl b) (kt : a < b → zV x σ tgt lv st) (kf : ¬ (a < b) → zV x σ (pc + 4) lv st) : zV x σ pc lv (.long (zJ b) :: .long (zJ a) :: st) := by
  obtain ⟨⟨p, l, e, R, s, m, args, below, meth, c⟩, w, A, Q, nL, ce, sl⟩ := x
  intro H locs ls hl hP hS
  refine W.lcmp C.1 C.2.1 d ?_
  rw [zcmp_toInt ha hb]
  exact z_if_lt C tgt d2 ht (zcmp_rg a b) (fun h => kt ((zcmp_lt a b).mp h)) (fun h => kf (fun q => h ((zcmp_lt a b).mpr q))) H locs ls hl hP hS
theorem z_lcmp_ge {x : Cx} {cc : ByteArray} {own : String} {ret : Option FieldType} {f L : Nat} {σ : Hp} {pc : Nat} {lv : List (Nat × Value)} {st : List Value} (C : zOk x cc own ret f L) {a b off : Int} (tgt : Nat) (d : decode cc pc = .ok (.lcmp, 1)) (d2 : decode cc (pc + 1) = .ok (.ifCond .ge off, 3)) (ht : ((pc + 1 : Nat) : Int) + off = (tgt : Int)) (ha : zrl a) (hb : zrl b) (kt : b ≤ a → zV x σ tgt lv st) (kf : ¬ (b ≤ a) → zV x σ (pc + 4) lv st) : zV x σ pc lv (.long (zJ b) :: .long (zJ a) :: st) := by
  obtain ⟨⟨p, l, e, R, s, m, args, below, meth, c⟩, w, A, Q, nL, ce, sl⟩ := x
  intro H locs ls hl hP hS
  refine W.lcmp C.1 C.2.1 d ?_
  rw [zcmp_toInt ha hb]
  exact z_if_ge C tgt d2 ht (zcmp_rg a b) (fun h => kt ((zcmp_ge a b).mp h)) (fun h => kf (fun q => h ((zcmp_ge a b).mpr q))) H locs ls hl hP hS
theorem z_lcmp_gt {x : Cx} {cc : ByteArray} {own : String} {ret : Option FieldType} {f L : Nat} {σ : Hp} {pc : Nat} {lv : List (Nat × Value)} {st : List Value} (C : zOk x cc own ret f L) {a b off : Int} (tgt : Nat) (d : decode cc pc = .ok (.lcmp, 1)) (d2 : decode cc (pc + 1) = .ok (.ifCond .gt off, 3)) (ht : ((pc + 1 : Nat) : Int) + off = (tgt : Int)) (ha : zrl a) (hb : zrl b) (kt : b < a → zV x σ tgt lv st) (kf : ¬ (b < a) → zV x σ (pc + 4) lv st) : zV x σ pc lv (.long (zJ b) :: .long (zJ a) :: st) := by
  obtain ⟨⟨p, l, e, R, s, m, args, below, meth, c⟩, w, A, Q, nL, ce, sl⟩ := x
  intro H locs ls hl hP hS
  refine W.lcmp C.1 C.2.1 d ?_
  rw [zcmp_toInt ha hb]
  exact z_if_gt C tgt d2 ht (zcmp_rg a b) (fun h => kt ((zcmp_gt a b).mp h)) (fun h => kf (fun q => h ((zcmp_gt a b).mpr q))) H locs ls hl hP hS
theorem z_lcmp_le {x : Cx} {cc : ByteArray} {own : String} {ret : Option FieldType} {f L : Nat} {σ : Hp} {pc : Nat} {lv : List (Nat × Value)} {st : List Value} (C : zOk x cc own ret f L) {a b off : Int} (tgt : Nat) (d : decode cc pc = .ok (.lcmp, 1)) (d2 : decode cc (pc + 1) = .ok (.ifCond .le off, 3)) (ht : ((pc + 1 : Nat) : Int) + off = (tgt : Int)) (ha : zrl a) (hb : zrl b) (kt : a ≤ b → zV x σ tgt lv st) (kf : ¬ (a ≤ b) → zV x σ (pc + 4) lv st) : zV x σ pc lv (.long (zJ b) :: .long (zJ a) :: st) := by
  obtain ⟨⟨p, l, e, R, s, m, args, below, meth, c⟩, w, A, Q, nL, ce, sl⟩ := x
  intro H locs ls hl hP hS
  refine W.lcmp C.1 C.2.1 d ?_
  rw [zcmp_toInt ha hb]
  exact z_if_le C tgt d2 ht (zcmp_rg a b) (fun h => kt ((zcmp_le a b).mp h)) (fun h => kf (fun q => h ((zcmp_le a b).mpr q))) H locs ls hl hP hS
theorem z_ifnull {x : Cx} {cc : ByteArray} {own : String} {ret : Option FieldType} {f L : Nat} {σ : Hp} {pc : Nat} {lv : List (Nat × Value)} {st : List Value} (C : zOk x cc own ret f L) {off : Int} {q : Nat} (d : decode cc pc = .ok (.ifnull off, 3)) (k : zV x σ (pc + 3) lv st) : zV x σ pc lv (za x q :: st) := by
  obtain ⟨⟨p, l, e, R, s, m, args, below, meth, c⟩, w, A, Q, nL, ce, sl⟩ := x
  intro H locs ls hl hP hS
  exact lv_ifnull C.1 C.2.1 d (k H locs ls hl hP hS)
theorem z_ifnonnull {x : Cx} {cc : ByteArray} {own : String} {ret : Option FieldType} {f L : Nat} {σ : Hp} {pc : Nat} {lv : List (Nat × Value)} {st : List Value} (C : zOk x cc own ret f L) {off : Int} {q : Nat} (tgt : Nat) (d : decode cc pc = .ok (.ifnonnull off, 3)) (ht : (pc : Int) + off = (tgt : Int)) (k : zV x σ tgt lv st) : zV x σ pc lv (za x q :: st) := by
  obtain ⟨⟨p, l, e, R, s, m, args, below, meth, c⟩, w, A, Q, nL, ce, sl⟩ := x
  intro H locs ls hl hP hS
  exact lv_ifnonnull C.1 C.2.1 d ht (k H locs ls hl hP hS)
theorem z_ifnullN {x : Cx} {cc : ByteArray} {own : String} {ret : Option FieldType} {f L : Nat} {σ : Hp} {pc : Nat} {lv : List (Nat × Value)} {st : List Value} (C : zOk x cc own ret f L) {off : Int} (tgt : Nat) (d : decode cc pc = .ok (.ifnull off, 3)) (ht : (pc : Int) + off = (tgt : Int)) (k : zV x σ tgt lv st) : zV x σ pc lv (.null :: st) := by
  obtain ⟨⟨p, l, e, R, s, m, args, below, meth, c⟩, w, A, Q, nL, ce, sl⟩ := x
  intro H locs ls hl hP hS
  exact lv_ifnullN C.1 C.2.1 d ht (k H locs ls hl hP hS)
theorem z_ifnonnullN {x : Cx} {cc : ByteArray} {own : String} {ret : Option FieldType} {f L : Nat} {σ : Hp} {pc : Nat} {lv : List (Nat × Value)} {st : List Value} (C : zOk x cc own ret f L) {off : Int} (d : decode cc pc = .ok (.ifnonnull off, 3)) (k : zV x σ (pc + 3) lv st) : zV x σ pc lv (.null :: st) := by
  obtain ⟨⟨p, l, e, R, s, m, args, below, meth, c⟩, w, A, Q, nL, ce, sl⟩ := x
  intro H locs ls hl hP hS
  exact lv_ifnonnullN C.1 C.2.1 d (k H locs ls hl hP hS)
theorem z_tabOut {x : Cx} {cc : ByteArray} {own : String} {ret : Option FieldType} {f L : Nat} {σ : Hp} {pc : Nat} {lv : List (Nat × Value)} {st : List Value} (C : zOk x cc own ret f L) {dflt lo hi a : Int} {offs : Array Int} {len : Nat} (tgt : Nat) (d : decode cc pc = .ok (.tableswitch dflt lo hi offs, len)) (ha : zrg a) (h : a < lo ∨ hi < a) (ht : (pc : Int) + dflt = (tgt : Int)) (k : zV x σ tgt lv st) : zV x σ pc lv (.int (zI a) :: st) := by
  obtain ⟨⟨p, l, e, R, s, m, args, below, meth, c⟩, w, A, Q, nL, ce, sl⟩ := x
  intro H locs ls hl hP hS
  exact lv_tableOut C.1 C.2.1 d (by rw [zI_toInt ha]; exact h) ht (k H locs ls hl hP hS)
theorem z_tabIn {x : Cx} {cc : ByteArray} {own : String} {ret : Option FieldType} {f L : Nat} {σ : Hp} {pc : Nat} {lv : List (Nat × Value)} {st : List Value} (C : zOk x cc own ret f L) {dflt lo hi a off : Int} {offs : Array Int} {len : Nat} (tgt : Nat) (d : decode cc pc = .ok (.tableswitch dflt lo hi offs, len)) (ha : zrg a) (h1 : ¬ a < lo) (h2 : ¬ hi < a) (ho : offs[(a - lo).toNat]? = some off) (ht : (pc : Int) + off = (tgt : Int)) (k : zV x σ tgt lv st) : zV x σ pc lv (.int (zI a) :: st) := by
  obtain ⟨⟨p, l, e, R, s, m, args, below, meth, c⟩, w, A, Q, nL, ce, sl⟩ := x
  intro H locs ls hl hP hS
  exact lv_tableIn C.1 C.2.1 d (by rw [zI_toInt ha]; exact h1) (by rw [zI_toInt ha]; exact h2) (by rw [zI_toInt ha]; exact ho) ht (k H locs ls hl hP hS)
def zIA (p n : Nat) : Prop := p < 43 ∧ n < 2147483648 ∧ ∀ (w : Wp) (f : Nat → Int), zcell w p f = .inl (w.2.2 0, n, .inl (fun j => zI (f j)))
def zLA (p n : Nat) : Prop := p < 43 ∧ n < 2147483648 ∧ ∀ (w : Wp) (f : Nat → Int), zcell w p f = .inl (w.2.2 2, n, .inr (.inl (fun j => zJ (f j))))
def zBA (p n : Nat) : Prop := p < 43 ∧ n < 2147483648 ∧ ∀ (w : Wp) (f : Nat → Int), zcell w p f = .inl (w.2.2 1, n, .inl (fun j => zI (f j)))
theorem zIA_line {r : Nat} (hr : r < 7) : zIA (36 + r) 12 := ⟨by omega, by decide, zcell_line hr⟩
theorem zup (f : Nat → Int) (j : Nat) (v : Int) : upd (fun t => zI (f t)) j (zI v) = fun t => zI (if t = j then v else f t) := by
  funext t
  by_cases h : t = j <;> simp [upd, h]
theorem zupL (f : Nat → Int) (j : Nat) (v : Int) : vp_updL (fun t => zJ (f t)) j (zJ v) = fun t => zJ (if t = j then v else f t) := by
  funext t
  by_cases h : t = j <;> simp [vp_updL, h]
theorem z_iald {x : Cx} {cc : ByteArray} {own : String} {ret : Option FieldType} {f L : Nat} {σ : Hp} {pc : Nat} {lv : List (Nat × Value)} {st : List Value} (C : zOk x cc own ret f L) {q n : Nat} {i : Int} (ha : zIA q n) (d : decode cc pc = .ok (.iaload, 1)) (h0 : 0 ≤ i) (h1 : i < n) (k : zV x σ (pc + 1) lv (.int (zI (σ q i.toNat)) :: st)) : zV x σ pc lv (.int (zI i) :: za x q :: st) := by
  obtain ⟨⟨p, l, e, R, s, m, args, below, meth, c⟩, w, A, Q, nL, ce, sl⟩ := x
  intro H locs ls hl hP hS
  obtain ⟨a1, a2, a3⟩ := ha
  refine va_iald C.1 C.2.1 C.2.2.2.2.2.1 hP _ 0 (by rw [zwd_at a1, a3]) rfl (zI_in h0 h1 a2) d ?_
  rw [zI_cl h0 h1 a2]
  exact k H locs ls hl hP hS
theorem z_bald {x : Cx} {cc : ByteArray} {own : String} {ret : Option FieldType} {f L : Nat} {σ : Hp} {pc : Nat} {lv : List (Nat × Value)} {st : List Value} (C : zOk x cc own ret f L) {q n : Nat} {i : Int} (ha : zBA q n) (d : decode cc pc = .ok (.baload, 1)) (h0 : 0 ≤ i) (h1 : i < n) (k : zV x σ (pc + 1) lv (.int (zI (σ q i.toNat)) :: st)) : zV x σ pc lv (.int (zI i) :: za x q :: st) := by
  obtain ⟨⟨p, l, e, R, s, m, args, below, meth, c⟩, w, A, Q, nL, ce, sl⟩ := x
  intro H locs ls hl hP hS
  obtain ⟨a1, a2, a3⟩ := ha
  refine va_bald C.1 C.2.1 C.2.2.2.2.2.1 hP _ 1 (by rw [zwd_at a1, a3]) rfl (zI_in h0 h1 a2) d ?_
  rw [zI_cl h0 h1 a2]
  exact k H locs ls hl hP hS
theorem z_lald {x : Cx} {cc : ByteArray} {own : String} {ret : Option FieldType} {f L : Nat} {σ : Hp} {pc : Nat} {lv : List (Nat × Value)} {st : List Value} (C : zOk x cc own ret f L) {q n : Nat} {i : Int} (ha : zLA q n) (d : decode cc pc = .ok (.laload, 1)) (h0 : 0 ≤ i) (h1 : i < n) (k : zV x σ (pc + 1) lv (.long (zJ (σ q i.toNat)) :: st)) : zV x σ pc lv (.int (zI i) :: za x q :: st) := by
  obtain ⟨⟨p, l, e, R, s, m, args, below, meth, c⟩, w, A, Q, nL, ce, sl⟩ := x
  intro H locs ls hl hP hS
  obtain ⟨a1, a2, a3⟩ := ha
  refine va_lald C.1 C.2.1 C.2.2.2.2.2.1 hP _ 2 (by rw [zwd_at a1, a3]) rfl (zI_in h0 h1 a2) d ?_
  rw [zI_cl h0 h1 a2]
  exact k H locs ls hl hP hS
theorem z_iast {x : Cx} {cc : ByteArray} {own : String} {ret : Option FieldType} {f L : Nat} {σ : Hp} {pc : Nat} {lv : List (Nat × Value)} {st : List Value} (C : zOk x cc own ret f L) {q n : Nat} {i v : Int} (ha : zIA q n) (d : decode cc pc = .ok (.iastore, 1)) (h0 : 0 ≤ i) (h1 : i < n) (k : zV x (zst σ q i.toNat v) (pc + 1) lv st) : zV x σ pc lv (.int (zI v) :: .int (zI i) :: za x q :: st) := by
  obtain ⟨⟨p, l, e, R, s, m, args, below, meth, c⟩, w, A, Q, nL, ce, sl⟩ := x
  intro H locs ls hl hP hS
  obtain ⟨a1, a2, a3⟩ := ha
  refine va_iast C.1 C.2.1 C.2.2.2.2.2.1 hP (C.2.2.2.2.2.2.1 σ) hS _ 0 (by rw [zwd_at a1, a3]) rfl (zI_in h0 h1 a2) d (fun H1 locs1 hP1 hD1 hS1 => ?_)
  rw [zI_cl h0 h1 a2, zup, zwd_set (σ' := zst σ q i.toNat v) a1 (by rw [a3, zst_p]) zst_o] at hP1
  exact k H1 locs1 ls hl hP1 hS1
theorem z_last {x : Cx} {cc : ByteArray} {own : String} {ret : Option FieldType} {f L : Nat} {σ : Hp} {pc : Nat} {lv : List (Nat × Value)} {st : List Value} (C : zOk x cc own ret f L) {q n : Nat} {i v : Int} (ha : zLA q n) (d : decode cc pc = .ok (.lastore, 1)) (h0 : 0 ≤ i) (h1 : i < n) (k : zV x (zst σ q i.toNat v) (pc + 1) lv st) : zV x σ pc lv (.long (zJ v) :: .int (zI i) :: za x q :: st) := by
  obtain ⟨⟨p, l, e, R, s, m, args, below, meth, c⟩, w, A, Q, nL, ce, sl⟩ := x
  intro H locs ls hl hP hS
  obtain ⟨a1, a2, a3⟩ := ha
  refine va_last C.1 C.2.1 C.2.2.2.2.2.1 hP (C.2.2.2.2.2.2.1 σ) hS _ 2 (by rw [zwd_at a1, a3]) rfl (zI_in h0 h1 a2) d (fun H1 locs1 hP1 hD1 hS1 => ?_)
  rw [zI_cl h0 h1 a2, zupL, zwd_set (σ' := zst σ q i.toNat v) a1 (by rw [a3, zst_p]) zst_o] at hP1
  exact k H1 locs1 ls hl hP1 hS1
theorem zi2b_i (a : Int) : vp_nar .byte (zI a) = zI (zi2b a) := by rw [vp_nar_byte, zi2b, zI_of]
theorem z_bast {x : Cx} {cc : ByteArray} {own : String} {ret : Option FieldType} {f L : Nat} {σ : Hp} {pc : Nat} {lv : List (Nat × Value)} {st : List Value} (C : zOk x cc own ret f L) {q n : Nat} {i v : Int} (ha : zBA q n) (d : decode cc pc = .ok (.bastore, 1)) (h0 : 0 ≤ i) (h1 : i < n) (k : zV x (zst σ q i.toNat (zi2b v)) (pc + 1) lv st) : zV x σ pc lv (.int (zI v) :: .int (zI i) :: za x q :: st) := by
  obtain ⟨⟨p, l, e, R, s, m, args, below, meth, c⟩, w, A, Q, nL, ce, sl⟩ := x
  intro H locs ls hl hP hS
  obtain ⟨a1, a2, a3⟩ := ha
  refine va_bast C.1 C.2.1 C.2.2.2.2.2.1 hP (C.2.2.2.2.2.2.1 σ) hS _ 1 (by rw [zwd_at a1, a3]) rfl (zI_in h0 h1 a2) d (fun H1 locs1 hP1 hD1 hS1 => ?_)
  rw [zI_cl h0 h1 a2, zi2b_i, zup, zwd_set (σ' := zst σ q i.toNat (zi2b v)) a1 (by rw [a3, zst_p]) zst_o] at hP1
  exact k H1 locs1 ls hl hP1 hS1
theorem z_alen {x : Cx} {cc : ByteArray} {own : String} {ret : Option FieldType} {f L : Nat} {σ : Hp} {pc : Nat} {lv : List (Nat × Value)} {st : List Value} (C : zOk x cc own ret f L) {q n : Nat} (ha : zIA q n) (d : decode cc pc = .ok (.arraylength, 1)) (k : zV x σ (pc + 1) lv (.int (zI n) :: st)) : zV x σ pc lv (za x q :: st) := by
  obtain ⟨⟨p, l, e, R, s, m, args, below, meth, c⟩, w, A, Q, nL, ce, sl⟩ := x
  intro H locs ls hl hP hS
  obtain ⟨a1, a2, a3⟩ := ha
  exact va_alen (x := (n, .inl (fun j => zI (σ q j)))) (v := zI n) C.1 C.2.1 C.2.2.2.2.2.1 hP _ 0 (by rw [zwd_at a1, a3]) rfl Int32.ofInt_eq_ofNat.symm d (k H locs ls hl hP hS)
theorem z_alenL {x : Cx} {cc : ByteArray} {own : String} {ret : Option FieldType} {f L : Nat} {σ : Hp} {pc : Nat} {lv : List (Nat × Value)} {st : List Value} (C : zOk x cc own ret f L) {q n : Nat} (ha : zLA q n) (d : decode cc pc = .ok (.arraylength, 1)) (k : zV x σ (pc + 1) lv (.int (zI n) :: st)) : zV x σ pc lv (za x q :: st) := by
  obtain ⟨⟨p, l, e, R, s, m, args, below, meth, c⟩, w, A, Q, nL, ce, sl⟩ := x
  intro H locs ls hl hP hS
  obtain ⟨a1, a2, a3⟩ := ha
  exact va_alen (x := (n, .inr (.inl (fun j => zJ (σ q j))))) (v := zI n) C.1 C.2.1 C.2.2.2.2.2.1 hP _ 2 (by rw [zwd_at a1, a3]) rfl Int32.ofInt_eq_ofNat.symm d (k H locs ls hl hP hS)
theorem z_aald {x : Cx} {cc : ByteArray} {own : String} {ret : Option FieldType} {f L : Nat} {σ : Hp} {pc : Nat} {lv : List (Nat × Value)} {st : List Value} (C : zOk x cc own ret f L) {i : Int} (d : decode cc pc = .ok (.aaload, 1)) (h0 : 0 ≤ i) (h1 : i < 6) (k : zV x σ (pc + 1) lv (za x (29 + i.toNat) :: st)) : zV x σ pc lv (.int (zI i) :: za x 1 :: st) := by
  obtain ⟨⟨p, l, e, R, s, m, args, below, meth, c⟩, w, A, Q, nL, ce, sl⟩ := x
  intro H locs ls hl hP hS
  refine va_aldq (n := 6) C.1 C.2.1 C.2.2.2.2.2.1 hP 1 3 (zwd_at (by decide)) rfl (zI_in h0 h1 (by decide)) d ?_
  rw [zI_cl (n := 6) h0 h1 (by decide)]
  exact k H locs ls hl hP hS
theorem z_sub {x : Cx} {cc : ByteArray} {own : String} {ret : Option FieldType} {f L : Nat} {σ : Hp} {pc : Nat} {lv : List (Nat × Value)} {st : List Value} (C : zOk x cc own ret f L) (js : List Nat) (lv2 : List (Nat × Value)) (h : lv_pick lv js = lv2) (k : zV x σ pc lv2 st) : zV x σ pc lv st := by
  obtain ⟨⟨p, l, e, R, s, m, args, below, meth, c⟩, w, A, Q, nL, ce, sl⟩ := x
  intro H locs ls hl hP hS
  exact k H locs ls (lv_sub hl js h) hP hS
theorem z_iret {x : Cx} {cc : ByteArray} {own : String} {f L : Nat} {σ : Hp} {pc : Nat} {lv : List (Nat × Value)} (C : zOk x cc own (some .int) f L) {post : Option Value → Hp → Prop} (E : zEnd x post) {z : Int} (d : decode cc pc = .ok (.ireturn, 1)) (h : post (some (.int (zI z))) σ) : zV x σ pc lv [.int (zI z)] := by
  obtain ⟨⟨p, l, e, R, s, m, args, below, meth, c⟩, w, A, Q, nL, ce, sl⟩ := x
  obtain ⟨rfl, rfl, rfl⟩ := E
  intro H locs ls hl hP hS
  exact W.iret (hlocks := C.2.2.2.2.2.2.2.2.2.1) C.1 C.2.1 C.2.2.2.2.2.2.2.2.1 (fun t ht hW => ⟨⟨_, σ, rfl, h, by rw [ht]; exact hP⟩, hS.F ht⟩) hS.2.2 d
theorem z_lret {x : Cx} {cc : ByteArray} {own : String} {f L : Nat} {σ : Hp} {pc : Nat} {lv : List (Nat × Value)} (C : zOk x cc own (some .long) f L) {post : Option Value → Hp → Prop} (E : zEnd x post) {z : Int} (d : decode cc pc = .ok (.lreturn, 1)) (h : post (some (.long (zJ z))) σ) : zV x σ pc lv [.long (zJ z)] := by
  obtain ⟨⟨p, l, e, R, s, m, args, below, meth, c⟩, w, A, Q, nL, ce, sl⟩ := x
  obtain ⟨rfl, rfl, rfl⟩ := E
  intro H locs ls hl hP hS
  exact W.lret (hlocks := C.2.2.2.2.2.2.2.2.2.1) C.1 C.2.1 C.2.2.2.2.2.2.2.2.1 (fun t ht hW => ⟨⟨_, σ, rfl, h, by rw [ht]; exact hP⟩, hS.F ht⟩) hS.2.2 d
theorem znarb {z : Int} (h : z = 0 ∨ z = 1) : narrow .boolean (.int (zI z)) = .int (zI z) := by rcases h with rfl | rfl <;> rfl
theorem z_zret {x : Cx} {cc : ByteArray} {own : String} {f L : Nat} {σ : Hp} {pc : Nat} {lv : List (Nat × Value)} (C : zOk x cc own (some .boolean) f L) {post : Option Value → Hp → Prop} (E : zEnd x post) {z : Int} (d : decode cc pc = .ok (.ireturn, 1)) (hz : z = 0 ∨ z = 1) (h : post (some (.int (zI z))) σ) : zV x σ pc lv [.int (zI z)] := by
  obtain ⟨⟨p, l, e, R, s, m, args, below, meth, c⟩, w, A, Q, nL, ce, sl⟩ := x
  obtain ⟨rfl, rfl, rfl⟩ := E
  intro H locs ls hl hP hS
  exact W.zret (hlocks := C.2.2.2.2.2.2.2.2.2.1) C.1 C.2.1 C.2.2.2.2.2.2.2.2.1 (znarb hz) (fun t ht hW => ⟨⟨_, σ, rfl, h, by rw [ht]; exact hP⟩, hS.F ht⟩) hS.2.2 d
theorem z_vret {x : Cx} {cc : ByteArray} {own : String} {f L : Nat} {σ : Hp} {pc : Nat} {lv : List (Nat × Value)} (C : zOk x cc own none f L) {post : Option Value → Hp → Prop} (E : zEnd x post) (d : decode cc pc = .ok (.return_, 1)) (h : post none σ) : zV x σ pc lv [] := by
  obtain ⟨⟨p, l, e, R, s, m, args, below, meth, c⟩, w, A, Q, nL, ce, sl⟩ := x
  obtain ⟨rfl, rfl, rfl⟩ := E
  intro H locs ls hl hP hS
  exact W.vret (hlocks := C.2.2.2.2.2.2.2.2.2.1) C.1 C.2.1 C.2.2.2.2.2.2.2.2.1 (fun t ht hW => ⟨⟨_, σ, rfl, h, by rw [ht]; exact hP⟩, hS.F ht⟩) hS.2.2 d
theorem z_aret {x : Cx} {cc : ByteArray} {own nm : String} {f L : Nat} {σ : Hp} {pc q : Nat} {lv : List (Nat × Value)} (C : zOk x cc own (some (.object nm)) f L) {post : Option Value → Hp → Prop} (E : zEnd x post) (d : decode cc pc = .ok (.areturn, 1)) (h : post (some (za x q)) σ) : zV x σ pc lv [za x q] := by
  obtain ⟨⟨p, l, e, R, s, m, args, below, meth, c⟩, w, A, Q, nL, ce, sl⟩ := x
  obtain ⟨rfl, rfl, rfl⟩ := E
  intro H locs ls hl hP hS
  exact W.aret (hlocks := C.2.2.2.2.2.2.2.2.2.1) C.1 C.2.1 C.2.2.2.2.2.2.2.2.1 (Or.inl ⟨_, rfl⟩) (Or.inr ⟨_, rfl⟩) (fun t ht hW => ⟨⟨_, σ, rfl, h, by rw [ht]; exact hP⟩, hS.F ht⟩) hS.2.2 d
theorem z_aretN {x : Cx} {cc : ByteArray} {own nm : String} {f L : Nat} {σ : Hp} {pc : Nat} {lv : List (Nat × Value)} (C : zOk x cc own (some (.object nm)) f L) {post : Option Value → Hp → Prop} (E : zEnd x post) (d : decode cc pc = .ok (.areturn, 1)) (h : post (some .null) σ) : zV x σ pc lv [.null] := by
  obtain ⟨⟨p, l, e, R, s, m, args, below, meth, c⟩, w, A, Q, nL, ce, sl⟩ := x
  obtain ⟨rfl, rfl, rfl⟩ := E
  intro H locs ls hl hP hS
  exact W.aret (hlocks := C.2.2.2.2.2.2.2.2.2.1) C.1 C.2.1 C.2.2.2.2.2.2.2.2.1 (Or.inl ⟨_, rfl⟩) (Or.inl rfl) (fun t ht hW => ⟨⟨_, σ, rfl, h, by rw [ht]; exact hP⟩, hS.F ht⟩) hS.2.2 d
theorem zMt_of {l : Launch} {y : MethodName} {cc : ByteArray} {nL : Nat} {ret : Option FieldType} {rm : Room} {av : Wp → List Value} {σ : Hp} {post : Wp → Option Value → Hp → Prop} (hy : plainFor y = true) (hn : ∀ w, (lg_sl (av w)).length ≤ nL)
    (body : ∀ x : Cx, x.1.2.1 = l → x.2.2.2.2.1 = nL → zOk x cc y.cls ret rm.frames rm.locals → zEnd x (post x.2.1) → zV x σ 0 (lv_args 0 (av x.2.1)) []) : zMt l y cc nL ret rm av σ post := by
  intro w A
  refine va_MetF (cc := cc) (maxL := nL) (ret := ret) hy rfl ?_
  intro p e s m args below meth c s₁ B hml hv
  obtain ⟨rfl, hP, hK, hD, hN⟩ := hv
  have hts := atoms_spec (ws := .code y cc nL ret :: ztb) B.pre
  rw [lg_entry_eq]
  exact body ((p, l, e, rm, s, m, (av w).toArray, below, meth, c), w, A, MQ below (zQ w A (post w)) (av w).toArray s 0 0 A, nL, 0, 0) rfl rfl
    ⟨B.exec, B.bytes, hml, findClass_of_methodNamed B.named, fun w hw => hts w (List.mem_cons_of_mem _ hw), hK, hD, hN, B.returns, B.notSynchronized, Nat.le_refl _, Nat.le_refl _, Nat.zero_le _, Nat.zero_le _⟩ ⟨rfl, rfl, rfl⟩
    s.heap [] _ (lv_entry (av w) (hn w)) hP va_S.rf
theorem z_run {p : Program} {l : Launch} {e : Env} {R : Room} {s : State} {m : MethodId} {args : Array Value} {below : List Frame} {meth : Method} {c : Code} {w : Wp} {A : Nat → Prop} {Q : State → Prop} {nL ce sl : Nat} {H : Heap} {locs : List Loc} {ls : Array Slot} {lv : List (Nat × Value)} {pc : Nat} {st0 rest : List Value} {post : Option Value → Hp → Prop} {a : Array Value}
    (hr : va_Run p l e R s m args below meth c H locs ce sl 0 0 (F0 m pc ls st0) rest (zQ w A post a) A) (hl : lv_has ls nL lv) (hS : va_S A s.heap H locs)
    (k : ∀ (r : Option Value) (σ1 : Hp), post r σ1 → zV ((p, l, e, R, s, m, args, below, meth, c), w, A, Q, nL, ce, sl) σ1 (pc + 3) lv (r.toList ++ rest)) : W p l e R s m args below meth c H locs ce sl Q (F0 m pc ls st0) := by
  intro T hT X
  obtain ⟨v, st₀, t, T', L, h0, X', hL, e1, e2, ⟨⟨r, σ1, hv, hp, hb⟩, hz, hk⟩, st⟩ := hr T hT X
  cases hv
  rw [h0] at hz hk
  obtain ⟨t2, a1, b1⟩ := k v σ1 hp T'.heap (locs ++ L) ls hl (by rw [e1]; exact hb)
    ⟨Nat.le_trans hS.1 (by rw [e1]; exact hz), fun q h1 h2 => by rw [e1, hk q (Nat.lt_of_lt_of_le h1 hS.1) h2]; exact hS.2.1 q h1 h2, fun q hq => by
      rcases List.mem_append.mp hq with h | h
      · exact hS.2.2 q h
      · exact hL q h⟩ T' rfl X'
  exact ⟨t2, st t2 a1, b1⟩
/-- what a call needs of the called: its code among the words, its kind, its class begun, how many it takes -/
def zCs (y : MethodName) (cc : ByteArray) (nL : Nat) (ret : Option FieldType) (n : Nat) : Prop := Cond.code y cc nL ret ∈ ztb ∧ Cond.static y ∈ ztb ∧ Cond.initialized y.cls ∈ ztb ∧ y.cls ≠ "java/lang/invoke/MethodHandle" ∧ y.cls ≠ "java/lang/invoke/VarHandle" ∧ (parseMethodDescriptor y.desc).map (fun d => d.parameters.length) = some n
def zCv (y : MethodName) (cc : ByteArray) (nL : Nat) (ret : Option FieldType) (n : Nat) : Prop := Cond.code y cc nL ret ∈ ztb ∧ (Cond.instanceMethod y ∈ ztb ∧ Cond.selects y.cls y y ∈ ztb) ∧ Cond.initialized y.cls ∈ ztb ∧ y.cls ≠ "java/lang/invoke/MethodHandle" ∧ y.cls ≠ "java/lang/invoke/VarHandle" ∧ (parseMethodDescriptor y.desc).map (fun d => d.parameters.length) = some n
theorem z_blind {w : Wp} {A : Nat → Prop} {σ : Hp} {av : List Value} : FrameBlind (va_Pc av (zWd w A σ)) := fun a U g mk q => by
  obtain ⟨q0, qP, qK, qD, qN⟩ := q
  exact ⟨q0, qP, va_K.moved (u := U) (U := U.calling g mk a) (Vm.Alike.refl U.vm) qK, qD, fun n hn => va_Nw.same (u := U) (U := U.calling g mk a) ((show ∀ n ∈ znest, n.onTables = true by decide +kernel) n hn) rfl (qN n hn)⟩

theorem z_callS {x : Cx} {cc : ByteArray} {own : String} {ret : Option FieldType} {f L : Nat} {σ : Hp} {pc : Nat} {lv : List (Nat × Value)} {st : List Value} (C : zOk x cc own ret f L) {y : MethodName} {yc : ByteArray} {yL n idx : Nat} {yr : Option FieldType} {rm : Room} {av : Wp → List Value} {post : Wp → Option Value → Hp → Prop} (rest : List Value) (Y : zCs y yc yL yr n) (M : ∀ l, zMt l y yc yL yr rm av σ post) (hlink : Cond.methodLink own idx y ∈ ztb) (d : decode cc pc = .ok (.invokestatic idx, 3)) (hst : (av x.2.1).reverse ++ rest = st) (hn : (av x.2.1).length = n) (hrc : rm.cells = 0 ∧ rm.slots = 0) (hR : rm.frames + 1 ≤ f ∧ 8 + (yL + 11) + rm.locals ≤ L) (hro : (rest.map fun v => v.category).sum ≤ 8) (k : ∀ (r : Option Value) (σ1 : Hp), post x.2.1 r σ1 → zV x σ1 (pc + 3) lv (r.toList ++ rest)) : zV x σ pc lv st := by
  obtain ⟨⟨p, l, e, R, s, m, args, below, meth, c⟩, w, A, Q, nL, ce, sl⟩ := x
  intro H locs ls hl hP hS
  obtain ⟨hx, hb, hml, hown, hts, hK, hD, hN, hr, hlk, hf, hL, hce, hsl⟩ := C
  obtain ⟨y1, y2, y3, y4⟩ := Y
  refine z_run (post := post w) (rest := rest) (a := (av w).toArray) ?_ hl hS k
  exact va_runS (As := av w) ⟨hx, hb, hml, hown, hts⟩ (M l w A) ⟨callB_of n hts (zgood y1 (fun _ h => h)) rfl hrc.1 hrc.2 (hts _ y3) (hts _ hlink) y4 ⟨Nat.le_trans hR.1 hf, Nat.le_trans hR.2 hL⟩, hts _ y2⟩ ⟨z_blind, fun U hU hW => ⟨rfl, by rw [hU]; exact hP, va_K.moved hW.alike hK, hD, zNw_warm hW hN⟩⟩ rfl hn hl.1 hst.symm (lv_room hro) d ⟨hce, hsl⟩
theorem z_callN {x : Cx} {cc : ByteArray} {own : String} {ret : Option FieldType} {f L : Nat} {σ : Hp} {pc : Nat} {lv : List (Nat × Value)} {st : List Value} (C : zOk x cc own ret f L) {y : MethodName} {yc : ByteArray} {yL n idx : Nat} {yr : Option FieldType} {rm : Room} {av : Wp → List Value} {post : Wp → Option Value → Hp → Prop} (rest : List Value) (Y : zCs y yc yL yr n) (M : ∀ l, zMt l y yc yL yr rm av σ post) (hlink : Cond.methodLinkNest own idx y RX6 ∈ znest) (d : decode cc pc = .ok (.invokestatic idx, 3)) (hst : (av x.2.1).reverse ++ rest = st) (hn : (av x.2.1).length = n) (hrc : rm.cells = 0 ∧ rm.slots = 0) (hR : rm.frames + 1 ≤ f ∧ 8 + (yL + 11) + rm.locals ≤ L) (hro : (rest.map fun v => v.category).sum ≤ 8) (k : ∀ (r : Option Value) (σ1 : Hp), post x.2.1 r σ1 → zV x σ1 (pc + 3) lv (r.toList ++ rest)) : zV x σ pc lv st := by
  obtain ⟨⟨p, l, e, R, s, m, args, below, meth, c⟩, w, A, Q, nL, ce, sl⟩ := x
  intro H locs ls hl hP hS
  obtain ⟨hx, hb, hml, hown, hts, hK, hD, hN, hr, hlk, hf, hL, hce, hsl⟩ := C
  obtain ⟨y1, y2, y3, y4⟩ := Y
  refine z_run (post := post w) (rest := rest) (a := (av w).toArray) ?_ hl hS k
  exact va_runSN (As := av w) ⟨hx, hb, hml, hown, hts⟩ (M l w A) ⟨va_cnB n hts (zgood y1 (fun _ h => h)) rfl hrc.1 hrc.2 (hN _ hlink) (hts _ y3) y4 ⟨Nat.le_trans hR.1 hf, Nat.le_trans hR.2 hL⟩, hts _ y2, trivial⟩ ⟨z_blind, fun U hU hW => ⟨rfl, by rw [hU]; exact hP, va_K.moved hW.alike hK, hD, zNw_warm hW hN⟩⟩ rfl hn hl.1 hst.symm (lv_room hro) d ⟨hce, hsl⟩
theorem z_callV {x : Cx} {cc : ByteArray} {own : String} {ret : Option FieldType} {f L : Nat} {σ : Hp} {pc : Nat} {lv : List (Nat × Value)} {st : List Value} (C : zOk x cc own ret f L) {y : MethodName} {yc : ByteArray} {yL n idx ci : Nat} {yr : Option FieldType} {rm : Room} {av : Wp → List Value} {post : Wp → Option Value → Hp → Prop} {q : Nat} {fs : Wp → (Nat → Int) → List Value} {T : u_T} {N : Nat} (rest : List Value) (Y : zCv y yc yL yr n) (hq : q < 43) (hz : ∀ w g, zcell w q g = .inr (ci, fs w g)) (hcl : vwCl[ci]? = some (y.cls, T, N)) (M : ∀ l, zMt l y yc yL yr rm (fun w => .ref (w.2.1 q) :: av w) σ post) (hlink : Cond.methodLink own idx y ∈ ztb) (d : decode cc pc = .ok (.invokevirtual idx, 3)) (hst : (av x.2.1).reverse ++ za x q :: rest = st) (hn : (av x.2.1).length = n) (hrc : rm.cells = 0 ∧ rm.slots = 0) (hR : rm.frames + 1 ≤ f ∧ 8 + (yL + 11) + rm.locals ≤ L) (hro : (rest.map fun v => v.category).sum ≤ 8) (k : ∀ (r : Option Value) (σ1 : Hp), post x.2.1 r σ1 → zV x σ1 (pc + 3) lv (r.toList ++ rest)) : zV x σ pc lv st := by
  obtain ⟨⟨p, l, e, R, s, m, args, below, meth, c⟩, w, A, Q, nL, ce, sl⟩ := x
  intro H locs ls hl hP hS
  obtain ⟨hx, hb, hml, hown, hts, hK, hD, hN, hr, hlk, hf, hL, hce, hsl⟩ := C
  obtain ⟨y1, y2, y3, y4⟩ := Y
  refine z_run (post := post w) (rest := rest) (a := (Value.ref (w.2.1 q) :: av w).toArray) ?_ hl hS k
  exact va_runV (As := av w) (C := y.cls) ⟨hx, hb, hml, hown, hts⟩ (M l w A) ⟨callB_of n hts (zgood y1 (fun _ h => h)) rfl hrc.1 hrc.2 (hts _ y3) (hts _ hlink) y4 ⟨Nat.le_trans hR.1 hf, Nat.le_trans hR.2 hL⟩, hts _ y2.1, hts _ y2.2⟩ ⟨z_blind, va_recv hK hP hcl (by rw [zwd_at hq, hz]), fun U hU hW => ⟨rfl, by rw [hU]; exact hP, va_K.moved hW.alike hK, hD, zNw_warm hW hN⟩⟩ rfl hn hl.1 hst.symm (lv_room hro) d ⟨hce, hsl⟩
theorem z_get {x : Cx} {cc : ByteArray} {own : String} {ret : Option FieldType} {f L : Nat} {σ : Hp} {pc : Nat} {lv : List (Nat × Value)} {st : List Value} (C : zOk x cc own ret f L) {q ci N j idx : Nat} {Cn : String} {T : u_T} {fs : Wp → (Nat → Int) → List Value} {v : Value} (hq : q < 43) (hz : ∀ w g, zcell w q g = .inr (ci, fs w g)) (hc : vwCl[ci]? = some (Cn, T, N)) (hin : ∀ w ∈ u_ws Cn T N, w ∈ ztb) (hj : j < N) (hlink : Cond.fieldLink own idx (T j).1 (T j).2.1 (T j).2.2.1 ∈ ztb) (hv : (fs x.2.1 (σ q))[j]? = some v) (d : decode cc pc = .ok (.getfield idx, 3)) (k : zV x σ (pc + 3) lv (v :: st)) : zV x σ pc lv (za x q :: st) := by
  obtain ⟨⟨p, l, e, R, s, m, args, below, meth, c⟩, w, A, Q, nL, ce, sl⟩ := x
  intro H locs ls hl hP hS
  exact va_get C.1 C.2.1 C.2.2.2.2.1 hin C.2.2.2.1 C.2.2.2.2.2.1 hP q (by rw [zwd_at hq, hz]) hc j hj (C.2.2.2.2.1 _ hlink) (fun _ h => h) hv d (k H locs ls hl hP hS)
theorem z_put {x : Cx} {cc : ByteArray} {own : String} {ret : Option FieldType} {f L : Nat} {σ : Hp} {pc : Nat} {lv : List (Nat × Value)} {st : List Value} (C : zOk x cc own ret f L) {q ci N j idx : Nat} {Cn : String} {T : u_T} {ty0 : Nat → FieldType} {fs : Wp → (Nat → Int) → List Value} {z : Int} (hq : q < 43) (hz : ∀ w g, zcell w q g = .inr (ci, fs w g)) (hc : vwCl[ci]? = some (Cn, T, N)) (hin : ∀ w ∈ u_ws Cn T N, w ∈ ztb) (hty : ∀ k, k < N → parseFieldDescriptor (T k).2.2.1 = some (ty0 k)) (hnm : ∀ a, a < N → ∀ b, b < N → a ≠ b → (T a).2.1 ≠ (T b).2.1) (hj : j < N) (hlink : Cond.fieldLink own idx (T j).1 (T j).2.1 (T j).2.2.1 ∈ ztb) (hfin : (T j).2.2.2 = false) (hn : narrow (ty0 j) (.int (zI z)) = .int (zI z)) (hfit : fits (ty0 j) (.int (zI z)) = true) (hv : ∀ w g, (fs w g).set j (.int (zI z)) = fs w (fun t => if t = j then z else g t)) (hlen : ∀ w g, j < (fs w g).length) (d : decode cc pc = .ok (.putfield idx, 3)) (k : zV x (zst σ q j z) (pc + 3) lv st) : zV x σ pc lv (.int (zI z) :: za x q :: st) := by
  obtain ⟨⟨p, l, e, R, s, m, args, below, meth, c⟩, w, A, Q, nL, ce, sl⟩ := x
  intro H locs ls hl hP hS
  refine va_put C.1 C.2.1 C.2.2.2.2.1 hin ty0 hty hnm C.2.2.2.1 C.2.2.2.2.2.1 hP (C.2.2.2.2.2.2.1 σ) hS q (by rw [zwd_at hq, hz]) hc j hj (C.2.2.2.2.1 _ hlink) (fun _ h => h) hfin (hty j hj) hn hfit (hlen _ _) d (fun H1 locs1 hP1 hD1 hS1 => ?_)
  rw [hv, zwd_set (σ' := zst σ q j z) hq (by rw [hz, zst_p]) zst_o] at hP1
  exact k H1 locs1 ls hl hP1 hS1
end
section
/-! words of the tables by their places; fields of the world; what calls need -/
theorem zrg_d {z : Int} (h : decide (-2147483648 ≤ z ∧ z < 2147483648) = true) : zrg z := by unfold zrg; exact of_decide_eq_true h
theorem zrl_d {z : Int} (h : decide (-9223372036854775808 ≤ z ∧ z < 9223372036854775808) = true) : zrl z := by unfold zrl; exact of_decide_eq_true h
theorem zrl_g {z : Int} (h : zrg z) : zrl z := ⟨by have := h.1; omega, by have := h.2; omega⟩
theorem kf_X0_9 : Cond.fieldLink RX0 9 "LeanMarks$Echo" "column" "[I" ∈ ztb := zmem 164 (by decide +kernel) (by decide +kernel)
theorem kf_X0_13 : Cond.fieldLink RX0 13 "LeanMarks$Echo" "line" "[I" ∈ ztb := zmem 165 (by decide +kernel) (by decide +kernel)
theorem kf_X0_16 : Cond.fieldLink RX0 16 "LeanMarks$Echo" "heard" "I" ∈ ztb := zmem 166 (by decide +kernel) (by decide +kernel)
theorem kf_X0_20 : Cond.fieldLink RX0 20 "LeanMarks$Echo" "met" "[I" ∈ ztb := zmem 167 (by decide +kernel) (by decide +kernel)
theorem kf_X0_53 : Cond.fieldLink RX0 53 "LeanMarks$Echo" "bestPlace" "I" ∈ ztb := zmem 168 (by decide +kernel) (by decide +kernel)
theorem kf_X1_11 : Cond.fieldLink RX1 11 "LeanMarks$Moves" "met" "[I" ∈ ztb := zmem 98 (by decide +kernel) (by decide +kernel)
theorem kf_X1_50 : Cond.fieldLink RX1 50 "LeanMarks$Moves" "best" "I" ∈ ztb := zmem 99 (by decide +kernel) (by decide +kernel)
theorem kf_X1_54 : Cond.fieldLink RX1 54 "LeanMarks$Moves" "bestPlace" "I" ∈ ztb := zmem 100 (by decide +kernel) (by decide +kernel)
theorem kf_X1_57 : Cond.fieldLink RX1 57 "LeanMarks$Moves" "squared" "I" ∈ ztb := zmem 101 (by decide +kernel) (by decide +kernel)
theorem kf_X2_9 : Cond.fieldLink RX2 9 "LeanMarks$Permuting" "line" "[I" ∈ ztb := zmem 151 (by decide +kernel) (by decide +kernel)
theorem kf_X2_15 : Cond.fieldLink RX2 15 "LeanMarks$Permuting" "columns" "I" ∈ ztb := zmem 152 (by decide +kernel) (by decide +kernel)
theorem kf_X3_9 : Cond.fieldLink RX3 9 "LeanMarks$Row" "columns" "I" ∈ ztb := zmem 68 (by decide +kernel) (by decide +kernel)
theorem kf_X3_15 : Cond.fieldLink RX3 15 "LeanMarks$Row" "lines" "I" ∈ ztb := zmem 69 (by decide +kernel) (by decide +kernel)
theorem kf_X3_18 : Cond.fieldLink RX3 18 "LeanMarks$Row" "line" "[I" ∈ ztb := zmem 70 (by decide +kernel) (by decide +kernel)
theorem kf_X4_9 : Cond.fieldLink RX4 9 "LeanMarks$Search" "line" "[I" ∈ ztb := zmem 117 (by decide +kernel) (by decide +kernel)
theorem kf_X4_15 : Cond.fieldLink RX4 15 "LeanMarks$Search" "standing" "[I" ∈ ztb := zmem 118 (by decide +kernel) (by decide +kernel)
theorem kf_X4_18 : Cond.fieldLink RX4 18 "LeanMarks$Search" "allowed" "[I" ∈ ztb := zmem 119 (by decide +kernel) (by decide +kernel)
theorem kf_X4_21 : Cond.fieldLink RX4 21 "LeanMarks$Search" "columns" "I" ∈ ztb := zmem 120 (by decide +kernel) (by decide +kernel)
theorem kf_X4_25 : Cond.fieldLink RX4 25 "LeanMarks$Search" "lines" "I" ∈ ztb := zmem 121 (by decide +kernel) (by decide +kernel)
theorem kf_X4_32 : Cond.fieldLink RX4 32 "LeanMarks$Search" "kind" "I" ∈ ztb := zmem 122 (by decide +kernel) (by decide +kernel)
theorem kf_X4_35 : Cond.fieldLink RX4 35 "LeanMarks$Search" "onePerLine" "Z" ∈ ztb := zmem 123 (by decide +kernel) (by decide +kernel)
theorem kf_X4_67 : Cond.fieldLink RX4 67 "LeanMarks$Search" "passed" "I" ∈ ztb := zmem 125 (by decide +kernel) (by decide +kernel)
theorem kf_X4_77 : Cond.fieldLink RX4 77 "LeanMarks$Search" "wanted" "I" ∈ ztb := zmem 124 (by decide +kernel) (by decide +kernel)
theorem kf_X5_11 : Cond.fieldLink RX5 11 "LeanMarks$Text" "bytes" "[I" ∈ ztb := zmem 85 (by decide +kernel) (by decide +kernel)
theorem kf_X5_15 : Cond.fieldLink RX5 15 "LeanMarks$Text" "length" "I" ∈ ztb := zmem 86 (by decide +kernel) (by decide +kernel)
theorem kf_X6_11 : Cond.fieldLink RX6 11 "LeanMarks" "table" "[LLeanMarks$Row;" ∈ ztb := zmem 180 (by decide +kernel) (by decide +kernel)
theorem kf_X6_16 : Cond.fieldLink RX6 16 "LeanMarks" "spare" "LLeanMarks$Row;" ∈ ztb := zmem 181 (by decide +kernel) (by decide +kernel)
theorem kf_X6_23 : Cond.fieldLink RX6 23 "LeanMarks" "text" "LLeanMarks$Text;" ∈ ztb := zmem 182 (by decide +kernel) (by decide +kernel)
theorem kf_X6_30 : Cond.fieldLink RX6 30 "LeanMarks" "moves" "LLeanMarks$Moves;" ∈ ztb := zmem 183 (by decide +kernel) (by decide +kernel)
theorem kf_X6_37 : Cond.fieldLink RX6 37 "LeanMarks" "search" "LLeanMarks$Search;" ∈ ztb := zmem 184 (by decide +kernel) (by decide +kernel)
theorem kf_X6_44 : Cond.fieldLink RX6 44 "LeanMarks" "permuting" "LLeanMarks$Permuting;" ∈ ztb := zmem 185 (by decide +kernel) (by decide +kernel)
theorem kf_X6_51 : Cond.fieldLink RX6 51 "LeanMarks" "echo" "LLeanMarks$Echo;" ∈ ztb := zmem 186 (by decide +kernel) (by decide +kernel)
theorem kf_X6_55 : Cond.fieldLink RX6 55 "LeanMarks" "turnings" "[J" ∈ ztb := zmem 187 (by decide +kernel) (by decide +kernel)
theorem kf_X7_7 : Cond.fieldLink RX7 7 "LeanMarksModel" "wide" "[I" ∈ ztb := zmem 661 (by decide +kernel) (by decide +kernel)
theorem kf_X7_13 : Cond.fieldLink RX7 13 "LeanMarksModel" "high" "[I" ∈ ztb := zmem 662 (by decide +kernel) (by decide +kernel)
theorem kf_X7_16 : Cond.fieldLink RX7 16 "LeanMarksModel" "mark" "[I" ∈ ztb := zmem 663 (by decide +kernel) (by decide +kernel)
theorem kf_X7_19 : Cond.fieldLink RX7 19 "LeanMarksModel" "text" "[B" ∈ ztb := zmem 665 (by decide +kernel) (by decide +kernel)
theorem kf_X7_23 : Cond.fieldLink RX7 23 "LeanMarksModel" "heardX" "[I" ∈ ztb := zmem 667 (by decide +kernel) (by decide +kernel)
theorem kf_X7_26 : Cond.fieldLink RX7 26 "LeanMarksModel" "heardY" "[I" ∈ ztb := zmem 668 (by decide +kernel) (by decide +kernel)
theorem kf_X7_29 : Cond.fieldLink RX7 29 "LeanMarksModel" "laid" "[I" ∈ ztb := zmem 669 (by decide +kernel) (by decide +kernel)
theorem kf_X7_32 : Cond.fieldLink RX7 32 "LeanMarksModel" "read" "[I" ∈ ztb := zmem 671 (by decide +kernel) (by decide +kernel)
theorem kf_X7_35 : Cond.fieldLink RX7 35 "LeanMarksModel" "readWide" "[I" ∈ ztb := zmem 672 (by decide +kernel) (by decide +kernel)
theorem kf_X7_38 : Cond.fieldLink RX7 38 "LeanMarksModel" "turned" "[I" ∈ ztb := zmem 674 (by decide +kernel) (by decide +kernel)
theorem kf_X7_41 : Cond.fieldLink RX7 41 "LeanMarksModel" "next" "[I" ∈ ztb := zmem 675 (by decide +kernel) (by decide +kernel)
theorem kf_X7_60 : Cond.fieldLink RX7 60 "LeanMarksModel" "length" "I" ∈ ztb := zmem 664 (by decide +kernel) (by decide +kernel)
theorem kf_X7_64 : Cond.fieldLink RX7 64 "LeanMarksModel" "readRows" "I" ∈ ztb := zmem 673 (by decide +kernel) (by decide +kernel)
theorem kf_X7_115 : Cond.fieldLink RX7 115 "LeanMarksModel" "laidMany" "I" ∈ ztb := zmem 670 (by decide +kernel) (by decide +kernel)
theorem kf_X7_164 : Cond.fieldLink RX7 164 "LeanMarksModel" "heard" "I" ∈ ztb := zmem 666 (by decide +kernel) (by decide +kernel)
theorem kf_X7_177 : Cond.fieldLink RX7 177 "LeanMarksModel" "foundMany" "I" ∈ ztb := zmem 676 (by decide +kernel) (by decide +kernel)
theorem kf_X7_180 : Cond.fieldLink RX7 180 "LeanMarksModel" "foundLate" "I" ∈ ztb := zmem 677 (by decide +kernel) (by decide +kernel)
theorem kf_X7_183 : Cond.fieldLink RX7 183 "LeanMarksModel" "foundMoved" "I" ∈ ztb := zmem 678 (by decide +kernel) (by decide +kernel)
theorem km_L_9 : Cond.methodLink RL 9 yX6_init ∈ ztb := zmem 55 (by decide +kernel) (by decide +kernel)
theorem km_L_12 : Cond.methodLink RL 12 yX7_init ∈ ztb := zmem 657 (by decide +kernel) (by decide +kernel)
theorem km_L_15 : Cond.methodLink RL 15 yX6_row ∈ ztb := zmem 206 (by decide +kernel) (by decide +kernel)
theorem km_L_19 : Cond.methodLink RL 19 yX7_row ∈ ztb := zmem 717 (by decide +kernel) (by decide +kernel)
theorem km_L_20 : Cond.methodLink RL 20 yX6_write ∈ ztb := zmem 239 (by decide +kernel) (by decide +kernel)
theorem km_L_24 : Cond.methodLink RL 24 yX7_write ∈ ztb := zmem 730 (by decide +kernel) (by decide +kernel)
theorem km_L_25 : Cond.methodLink RL 25 yX6_wipe ∈ ztb := zmem 256 (by decide +kernel) (by decide +kernel)
theorem km_L_29 : Cond.methodLink RL 29 yX7_wipe ∈ ztb := zmem 735 (by decide +kernel) (by decide +kernel)
theorem km_L_30 : Cond.methodLink RL 30 yX6_fault ∈ ztb := zmem 264 (by decide +kernel) (by decide +kernel)
theorem km_L_33 : Cond.methodLink RL 33 yX7_fault ∈ ztb := zmem 739 (by decide +kernel) (by decide +kernel)
theorem km_L_34 : Cond.methodLink RL 34 yX6_lay ∈ ztb := zmem 288 (by decide +kernel) (by decide +kernel)
theorem km_L_38 : Cond.methodLink RL 38 yX7_lay ∈ ztb := zmem 745 (by decide +kernel) (by decide +kernel)
theorem km_L_39 : Cond.methodLink RL 39 yX6_told ∈ ztb := zmem 302 (by decide +kernel) (by decide +kernel)
theorem km_L_43 : Cond.methodLink RL 43 yX7_told ∈ ztb := zmem 751 (by decide +kernel) (by decide +kernel)
theorem km_L_44 : Cond.methodLink RL 44 yX6_marks ∈ ztb := zmem 319 (by decide +kernel) (by decide +kernel)
theorem km_L_48 : Cond.methodLink RL 48 yX7_marks ∈ ztb := zmem 760 (by decide +kernel) (by decide +kernel)
theorem km_L_49 : Cond.methodLink RL 49 yX6_difference ∈ ztb := zmem 328 (by decide +kernel) (by decide +kernel)
theorem km_L_53 : Cond.methodLink RL 53 yX7_difference ∈ ztb := zmem 766 (by decide +kernel) (by decide +kernel)
theorem km_L_54 : Cond.methodLink RL 54 yX6_quarrels ∈ ztb := zmem 345 (by decide +kernel) (by decide +kernel)
theorem km_L_58 : Cond.methodLink RL 58 yX7_quarrels ∈ ztb := zmem 779 (by decide +kernel) (by decide +kernel)
theorem km_L_59 : Cond.methodLink RL 59 yX6_hits ∈ ztb := zmem 358 (by decide +kernel) (by decide +kernel)
theorem km_L_63 : Cond.methodLink RL 63 yX7_hits ∈ ztb := zmem 784 (by decide +kernel) (by decide +kernel)
theorem km_L_64 : Cond.methodLink RL 64 yX6_most ∈ ztb := zmem 376 (by decide +kernel) (by decide +kernel)
theorem km_L_67 : Cond.methodLink RL 67 yX7_most ∈ ztb := zmem 797 (by decide +kernel) (by decide +kernel)
theorem km_L_68 : Cond.methodLink RL 68 yX6_squares ∈ ztb := zmem 416 (by decide +kernel) (by decide +kernel)
theorem km_L_71 : Cond.methodLink RL 71 yX7_squares ∈ ztb := zmem 802 (by decide +kernel) (by decide +kernel)
theorem km_L_72 : Cond.methodLink RL 72 yX6_holding ∈ ztb := zmem 479 (by decide +kernel) (by decide +kernel)
theorem km_L_75 : Cond.methodLink RL 75 yX7_holding ∈ ztb := zmem 826 (by decide +kernel) (by decide +kernel)
theorem km_L_76 : Cond.methodLink RL 76 yX6_nearly ∈ ztb := zmem 489 (by decide +kernel) (by decide +kernel)
theorem km_L_79 : Cond.methodLink RL 79 yX7_nearly ∈ ztb := zmem 830 (by decide +kernel) (by decide +kernel)
theorem km_L_80 : Cond.methodLink RL 80 yX6_rows ∈ ztb := zmem 506 (by decide +kernel) (by decide +kernel)
theorem km_L_84 : Cond.methodLink RL 84 yX7_rows ∈ ztb := zmem 839 (by decide +kernel) (by decide +kernel)
theorem km_L_85 : Cond.methodLink RL 85 yX6_longest ∈ ztb := zmem 511 (by decide +kernel) (by decide +kernel)
theorem km_L_88 : Cond.methodLink RL 88 yX7_longest ∈ ztb := zmem 843 (by decide +kernel) (by decide +kernel)
theorem km_L_89 : Cond.methodLink RL 89 yX6_powers ∈ ztb := zmem 515 (by decide +kernel) (by decide +kernel)
theorem km_L_92 : Cond.methodLink RL 92 yX7_powers ∈ ztb := zmem 852 (by decide +kernel) (by decide +kernel)
theorem km_L_93 : Cond.methodLink RL 93 yX6_sums ∈ ztb := zmem 539 (by decide +kernel) (by decide +kernel)
theorem km_L_96 : Cond.methodLink RL 96 yX7_sums ∈ ztb := zmem 866 (by decide +kernel) (by decide +kernel)
theorem km_L_97 : Cond.methodLink RL 97 yX6_turn ∈ ztb := zmem 546 (by decide +kernel) (by decide +kernel)
theorem km_L_100 : Cond.methodLink RL 100 yX7_turn ∈ ztb := zmem 870 (by decide +kernel) (by decide +kernel)
theorem km_L_101 : Cond.methodLink RL 101 yX6_like ∈ ztb := zmem 553 (by decide +kernel) (by decide +kernel)
theorem km_L_104 : Cond.methodLink RL 104 yX7_like ∈ ztb := zmem 883 (by decide +kernel) (by decide +kernel)
theorem km_L_105 : Cond.methodLink RL 105 yX6_corner ∈ ztb := zmem 561 (by decide +kernel) (by decide +kernel)
theorem km_L_109 : Cond.methodLink RL 109 yX7_corner ∈ ztb := zmem 891 (by decide +kernel) (by decide +kernel)
theorem km_L_110 : Cond.methodLink RL 110 yX6_hear ∈ ztb := zmem 573 (by decide +kernel) (by decide +kernel)
theorem km_L_113 : Cond.methodLink RL 113 yX7_hear ∈ ztb := zmem 895 (by decide +kernel) (by decide +kernel)
theorem km_L_114 : Cond.methodLink RL 114 yX6_still ∈ ztb := zmem 594 (by decide +kernel) (by decide +kernel)
theorem km_L_117 : Cond.methodLink RL 117 yX7_still ∈ ztb := zmem 906 (by decide +kernel) (by decide +kernel)
theorem km_L_118 : Cond.methodLink RL 118 yX6_found ∈ ztb := zmem 602 (by decide +kernel) (by decide +kernel)
theorem km_L_121 : Cond.methodLink RL 121 yX7_found ∈ ztb := zmem 910 (by decide +kernel) (by decide +kernel)
theorem km_L_122 : Cond.methodLink RL 122 yX6_among ∈ ztb := zmem 630 (by decide +kernel) (by decide +kernel)
theorem km_L_125 : Cond.methodLink RL 125 yX7_among ∈ ztb := zmem 918 (by decide +kernel) (by decide +kernel)
theorem km_L_126 : Cond.methodLink RL 126 yX6_count ∈ ztb := zmem 638 (by decide +kernel) (by decide +kernel)
theorem km_L_129 : Cond.methodLink RL 129 yX7_count ∈ ztb := zmem 922 (by decide +kernel) (by decide +kernel)
theorem km_X0_29 : Cond.methodLink RX0 29 yJ7_fill_53178 ∈ ztb := zmem 610 (by decide +kernel) (by decide +kernel)
theorem km_X0_35 : Cond.methodLink RX0 35 yX3_columns ∈ ztb := zmem 611 (by decide +kernel) (by decide +kernel)
theorem km_X0_41 : Cond.methodLink RX0 41 yX3_markedAt ∈ ztb := zmem 612 (by decide +kernel) (by decide +kernel)
theorem km_X0_45 : Cond.methodLink RX0 45 yX3_lineAt ∈ ztb := zmem 613 (by decide +kernel) (by decide +kernel)
theorem km_X0_49 : Cond.methodLink RX0 49 yX0_meetHeard ∈ ztb := zmem 614 (by decide +kernel) (by decide +kernel)
theorem km_X1_15 : Cond.methodLink RX1 15 yJ7_fill_53178 ∈ ztb := zmem 384 (by decide +kernel) (by decide +kernel)
theorem km_X1_21 : Cond.methodLink RX1 21 yX3_columns ∈ ztb := zmem 385 (by decide +kernel) (by decide +kernel)
theorem km_X1_27 : Cond.methodLink RX1 27 yX3_markedAt ∈ ztb := zmem 386 (by decide +kernel) (by decide +kernel)
theorem km_X1_31 : Cond.methodLink RX1 31 yX3_lineAt ∈ ztb := zmem 387 (by decide +kernel) (by decide +kernel)
theorem km_X1_35 : Cond.methodLink RX1 35 yX1_meetAll ∈ ztb := zmem 388 (by decide +kernel) (by decide +kernel)
theorem km_X1_39 : Cond.methodLink RX1 39 yX1_placeOf ∈ ztb := zmem 393 (by decide +kernel) (by decide +kernel)
theorem km_X1_43 : Cond.methodLink RX1 43 yX1_weigh ∈ ztb := zmem 396 (by decide +kernel) (by decide +kernel)
theorem km_X2_23 : Cond.methodLink RX2 23 yX2_countFrom ∈ ztb := zmem 498 (by decide +kernel) (by decide +kernel)
theorem km_X2_27 : Cond.methodLink RX2 27 yX2_newQuarrels ∈ ztb := zmem 502 (by decide +kernel) (by decide +kernel)
theorem km_X3_26 : Cond.methodLink RX3 26 yJ7_fill_53178 ∈ ztb := zmem 232 (by decide +kernel) (by decide +kernel)
theorem km_X3_32 : Cond.methodLink RX3 32 yX3_lineAt ∈ ztb := zmem 314 (by decide +kernel) (by decide +kernel)
theorem km_X3_40 : Cond.methodLink RX3 40 yX3_markedAt ∈ ztb := zmem 650 (by decide +kernel) (by decide +kernel)
theorem km_X3_44 : Cond.methodLink RX3 44 yX3_shape ∈ ztb := zmem 537 (by decide +kernel) (by decide +kernel)
theorem km_X3_48 : Cond.methodLink RX3 48 yX3_put ∈ ztb := zmem 538 (by decide +kernel) (by decide +kernel)
theorem km_X4_39 : Cond.methodLink RX4 39 yJ7_fill_53178 ∈ ztb := zmem 429 (by decide +kernel) (by decide +kernel)
theorem km_X4_45 : Cond.methodLink RX4 45 yX4_amongRows ∈ ztb := zmem 424 (by decide +kernel) (by decide +kernel)
theorem km_X4_49 : Cond.methodLink RX4 49 yX3_markedAt ∈ ztb := zmem 487 (by decide +kernel) (by decide +kernel)
theorem km_X4_55 : Cond.methodLink RX4 55 yX3_lineAt ∈ ztb := zmem 488 (by decide +kernel) (by decide +kernel)
theorem km_X4_59 : Cond.methodLink RX4 59 yX4_begin ∈ ztb := zmem 438 (by decide +kernel) (by decide +kernel)
theorem km_X4_63 : Cond.methodLink RX4 63 yX4_walk ∈ ztb := zmem 442 (by decide +kernel) (by decide +kernel)
theorem km_X4_70 : Cond.methodLink RX4 70 yX3_shape ∈ ztb := zmem 477 (by decide +kernel) (by decide +kernel)
theorem km_X4_74 : Cond.methodLink RX4 74 yX3_put ∈ ztb := zmem 478 (by decide +kernel) (by decide +kernel)
theorem km_X4_80 : Cond.methodLink RX4 80 yX4_freeLines ∈ ztb := zmem 446 (by decide +kernel) (by decide +kernel)
theorem km_X4_84 : Cond.methodLink RX4 84 yX4_endIn ∈ ztb := zmem 450 (by decide +kernel) (by decide +kernel)
theorem km_X4_87 : Cond.methodLink RX4 87 yX4_flipSteps ∈ ztb := zmem 460 (by decide +kernel) (by decide +kernel)
theorem km_X4_90 : Cond.methodLink RX4 90 yX4_stepBits ∈ ztb := zmem 464 (by decide +kernel) (by decide +kernel)
theorem km_X4_96 : Cond.methodLink RX4 96 yJ6_bitCount_0f7a4 ∈ ztb := zmem 454 (by decide +kernel) (by decide +kernel)
theorem km_X5_23 : Cond.methodLink RX5 23 yX5_byteAt ∈ ztb := zmem 276 (by decide +kernel) (by decide +kernel)
theorem km_X5_27 : Cond.methodLink RX5 27 yX5_lineAt ∈ ztb := zmem 284 (by decide +kernel) (by decide +kernel)
theorem km_X5_30 : Cond.methodLink RX5 30 yX5_endsRow ∈ ztb := zmem 272 (by decide +kernel) (by decide +kernel)
theorem km_X5_34 : Cond.methodLink RX5 34 yX5_isColumn ∈ ztb := zmem 280 (by decide +kernel) (by decide +kernel)
theorem km_X6_15 : Cond.methodLink RX6 15 yX3_init ∈ ztb := zmem 64 (by decide +kernel) (by decide +kernel)
theorem km_X6_22 : Cond.methodLink RX6 22 yX5_init ∈ ztb := zmem 81 (by decide +kernel) (by decide +kernel)
theorem km_X6_29 : Cond.methodLink RX6 29 yX1_init ∈ ztb := zmem 94 (by decide +kernel) (by decide +kernel)
theorem km_X6_36 : Cond.methodLink RX6 36 yX4_init ∈ ztb := zmem 113 (by decide +kernel) (by decide +kernel)
theorem km_X6_43 : Cond.methodLink RX6 43 yX2_init ∈ ztb := zmem 147 (by decide +kernel) (by decide +kernel)
theorem km_X6_50 : Cond.methodLink RX6 50 yX0_init ∈ ztb := zmem 160 (by decide +kernel) (by decide +kernel)
theorem km_X6_59 : Cond.methodLink RX6 59 yX6_rowAt ∈ ztb := zmem 210 (by decide +kernel) (by decide +kernel)
theorem km_X6_63 : Cond.methodLink RX6 63 yX6_within ∈ ztb := zmem 214 (by decide +kernel) (by decide +kernel)
theorem km_X6_67 : Cond.methodLink RX6 67 yX6_fits ∈ ztb := zmem 217 (by decide +kernel) (by decide +kernel)
theorem km_X6_71 : Cond.methodLink RX6 71 yX3_columns ∈ ztb := zmem 223 (by decide +kernel) (by decide +kernel)
theorem km_X6_75 : Cond.methodLink RX6 75 yX3_shape ∈ ztb := zmem 227 (by decide +kernel) (by decide +kernel)
theorem km_X6_79 : Cond.methodLink RX6 79 yX6_nibble ∈ ztb := zmem 220 (by decide +kernel) (by decide +kernel)
theorem km_X6_83 : Cond.methodLink RX6 83 yX3_put ∈ ztb := zmem 235 (by decide +kernel) (by decide +kernel)
theorem km_X6_86 : Cond.methodLink RX6 86 yX5_hasRoomFor ∈ ztb := zmem 243 (by decide +kernel) (by decide +kernel)
theorem km_X6_90 : Cond.methodLink RX6 90 yX5_add ∈ ztb := zmem 247 (by decide +kernel) (by decide +kernel)
theorem km_X6_94 : Cond.methodLink RX6 94 yX5_length ∈ ztb := zmem 252 (by decide +kernel) (by decide +kernel)
theorem km_X6_97 : Cond.methodLink RX6 97 yX5_clear ∈ ztb := zmem 260 (by decide +kernel) (by decide +kernel)
theorem km_X6_100 : Cond.methodLink RX6 100 yX5_firstFault ∈ ztb := zmem 268 (by decide +kernel) (by decide +kernel)
theorem km_X6_103 : Cond.methodLink RX6 103 yX5_highestLine ∈ ztb := zmem 292 (by decide +kernel) (by decide +kernel)
theorem km_X6_106 : Cond.methodLink RX6 106 yX5_endsRow ∈ ztb := zmem 296 (by decide +kernel) (by decide +kernel)
theorem km_X6_109 : Cond.methodLink RX6 109 yX6_layOne ∈ ztb := zmem 297 (by decide +kernel) (by decide +kernel)
theorem km_X6_113 : Cond.methodLink RX6 113 yX3_lines ∈ ztb := zmem 306 (by decide +kernel) (by decide +kernel)
theorem km_X6_116 : Cond.methodLink RX6 116 yX3_markedAt ∈ ztb := zmem 310 (by decide +kernel) (by decide +kernel)
theorem km_X6_119 : Cond.methodLink RX6 119 yX3_lineAt ∈ ztb := zmem 318 (by decide +kernel) (by decide +kernel)
theorem km_X6_125 : Cond.methodLink RX6 125 yX3_packed ∈ ztb := zmem 324 (by decide +kernel) (by decide +kernel)
theorem km_X6_129 : Cond.methodLink RX6 129 yX6_isKind ∈ ztb := zmem 332 (by decide +kernel) (by decide +kernel)
theorem km_X6_132 : Cond.methodLink RX6 132 yX3_step ∈ ztb := zmem 335 (by decide +kernel) (by decide +kernel)
theorem km_X6_136 : Cond.methodLink RX6 136 yX6_firstQuarrel ∈ ztb := zmem 349 (by decide +kernel) (by decide +kernel)
theorem km_X6_140 : Cond.methodLink RX6 140 yX6_quarrelCount ∈ ztb := zmem 355 (by decide +kernel) (by decide +kernel)
theorem km_X6_143 : Cond.methodLink RX6 143 yX6_isMove ∈ ztb := zmem 362 (by decide +kernel) (by decide +kernel)
theorem km_X6_146 : Cond.methodLink RX6 146 yX6_meetingRound ∈ ztb := zmem 365 (by decide +kernel) (by decide +kernel)
theorem km_X6_150 : Cond.methodLink RX6 150 yX6_meeting ∈ ztb := zmem 373 (by decide +kernel) (by decide +kernel)
theorem km_X6_153 : Cond.methodLink RX6 153 yX1_lookAt ∈ ztb := zmem 380 (by decide +kernel) (by decide +kernel)
theorem km_X6_157 : Cond.methodLink RX6 157 yX1_bestMeeting ∈ ztb := zmem 400 (by decide +kernel) (by decide +kernel)
theorem km_X6_160 : Cond.methodLink RX6 160 yX1_bestDx ∈ ztb := zmem 404 (by decide +kernel) (by decide +kernel)
theorem km_X6_163 : Cond.methodLink RX6 163 yX1_bestDy ∈ ztb := zmem 408 (by decide +kernel) (by decide +kernel)
theorem km_X6_166 : Cond.methodLink RX6 166 yX1_sumOfSquares ∈ ztb := zmem 412 (by decide +kernel) (by decide +kernel)
theorem km_X6_169 : Cond.methodLink RX6 169 yX4_amongSquares ∈ ztb := zmem 420 (by decide +kernel) (by decide +kernel)
theorem km_X6_172 : Cond.methodLink RX6 172 yX6_countOrMake ∈ ztb := zmem 430 (by decide +kernel) (by decide +kernel)
theorem km_X6_176 : Cond.methodLink RX6 176 yX4_keepMarksOf ∈ ztb := zmem 483 (by decide +kernel) (by decide +kernel)
theorem km_X6_180 : Cond.methodLink RX6 180 yX2_withQuarrels ∈ ztb := zmem 493 (by decide +kernel) (by decide +kernel)
theorem km_X6_183 : Cond.methodLink RX6 183 yX4_amongRows ∈ ztb := zmem 510 (by decide +kernel) (by decide +kernel)
theorem km_X6_187 : Cond.methodLink RX6 187 yX4_reach ∈ ztb := zmem 469 (by decide +kernel) (by decide +kernel)
theorem km_X6_190 : Cond.methodLink RX6 190 yX6_isToldPrime ∈ ztb := zmem 519 (by decide +kernel) (by decide +kernel)
theorem km_X6_193 : Cond.methodLink RX6 193 yX6_powerBy ∈ ztb := zmem 522 (by decide +kernel) (by decide +kernel)
theorem km_X6_196 : Cond.methodLink RX6 196 yX6_rest ∈ ztb := zmem 368 (by decide +kernel) (by decide +kernel)
theorem km_X6_199 : Cond.methodLink RX6 199 yX6_keepSquare ∈ ztb := zmem 525 (by decide +kernel) (by decide +kernel)
theorem km_X6_203 : Cond.methodLink RX6 203 yX6_onlyPartner ∈ ztb := zmem 543 (by decide +kernel) (by decide +kernel)
theorem km_X6_206 : Cond.methodLink RX6 206 yX3_isSquare ∈ ztb := zmem 529 (by decide +kernel) (by decide +kernel)
theorem km_X6_210 : Cond.methodLink RX6 210 yX6_turnInto ∈ ztb := zmem 550 (by decide +kernel) (by decide +kernel)
theorem km_X6_214 : Cond.methodLink RX6 214 yX3_copyFrom ∈ ztb := zmem 533 (by decide +kernel) (by decide +kernel)
theorem km_X6_217 : Cond.methodLink RX6 217 yX6_isNewTurning ∈ ztb := zmem 557 (by decide +kernel) (by decide +kernel)
theorem km_X6_220 : Cond.methodLink RX6 220 yX6_setOn ∈ ztb := zmem 565 (by decide +kernel) (by decide +kernel)
theorem km_X6_224 : Cond.methodLink RX6 224 yX6_takeOff ∈ ztb := zmem 569 (by decide +kernel) (by decide +kernel)
theorem km_X6_227 : Cond.methodLink RX6 227 yX0_holds ∈ ztb := zmem 577 (by decide +kernel) (by decide +kernel)
theorem km_X6_231 : Cond.methodLink RX6 231 yX0_isFull ∈ ztb := zmem 581 (by decide +kernel) (by decide +kernel)
theorem km_X6_234 : Cond.methodLink RX6 234 yX0_add ∈ ztb := zmem 585 (by decide +kernel) (by decide +kernel)
theorem km_X6_236 : Cond.methodLink RX6 236 yX0_size ∈ ztb := zmem 590 (by decide +kernel) (by decide +kernel)
theorem km_X6_239 : Cond.methodLink RX6 239 yX0_clear ∈ ztb := zmem 598 (by decide +kernel) (by decide +kernel)
theorem km_X6_240 : Cond.methodLink RX6 240 yX0_seek ∈ ztb := zmem 606 (by decide +kernel) (by decide +kernel)
theorem km_X6_243 : Cond.methodLink RX6 243 yX0_bestMeeting ∈ ztb := zmem 618 (by decide +kernel) (by decide +kernel)
theorem km_X6_244 : Cond.methodLink RX6 244 yX0_bestLate ∈ ztb := zmem 622 (by decide +kernel) (by decide +kernel)
theorem km_X6_247 : Cond.methodLink RX6 247 yX0_bestMoved ∈ ztb := zmem 626 (by decide +kernel) (by decide +kernel)
theorem km_X6_250 : Cond.methodLink RX6 250 yX6_bestHeard ∈ ztb := zmem 634 (by decide +kernel) (by decide +kernel)
theorem km_X6_253 : Cond.methodLink RX6 253 yX6_marksInAll ∈ ztb := zmem 642 (by decide +kernel) (by decide +kernel)
theorem km_X6_256 : Cond.methodLink RX6 256 yX6_columnsInAll ∈ ztb := zmem 651 (by decide +kernel) (by decide +kernel)
theorem km_X6_259 : Cond.methodLink RX6 259 yJ9_floorMod_7cf53 ∈ ztb := zmem 342 (by decide +kernel) (by decide +kernel)
theorem km_X6_264 : Cond.methodLink RX6 264 yX5_lineAt ∈ ztb := zmem 301 (by decide +kernel) (by decide +kernel)
theorem km_X6_265 : Cond.methodLink RX6 265 yX4_countAll ∈ ztb := zmem 434 (by decide +kernel) (by decide +kernel)
theorem km_X6_268 : Cond.methodLink RX6 268 yX4_giveTo ∈ ztb := zmem 473 (by decide +kernel) (by decide +kernel)
theorem km_X6_271 : Cond.methodLink RX6 271 yX6_quarrel ∈ ztb := zmem 352 (by decide +kernel) (by decide +kernel)
theorem km_X6_275 : Cond.methodLink RX6 275 yX3_hasMark ∈ ztb := zmem 369 (by decide +kernel) (by decide +kernel)
theorem km_X6_278 : Cond.methodLink RX6 278 yX3_markCount ∈ ztb := zmem 646 (by decide +kernel) (by decide +kernel)
theorem km_X7_46 : Cond.methodLink RX7 46 yX7_in ∈ ztb := zmem 725 (by decide +kernel) (by decide +kernel)
theorem km_X7_50 : Cond.methodLink RX7 50 yX7_isRow ∈ ztb := zmem 721 (by decide +kernel) (by decide +kernel)
theorem km_X7_71 : Cond.methodLink RX7 71 yX7_fault ∈ ztb := zmem 749 (by decide +kernel) (by decide +kernel)
theorem km_X7_79 : Cond.methodLink RX7 79 yX7_at ∈ ztb := zmem 756 (by decide +kernel) (by decide +kernel)
theorem km_X7_89 : Cond.methodLink RX7 89 yX7_are ∈ ztb := zmem 771 (by decide +kernel) (by decide +kernel)
theorem km_X7_93 : Cond.methodLink RX7 93 yX7_off ∈ ztb := zmem 775 (by decide +kernel) (by decide +kernel)
theorem km_X7_101 : Cond.methodLink RX7 101 yX7_roundOf ∈ ztb := zmem 789 (by decide +kernel) (by decide +kernel)
theorem km_X7_104 : Cond.methodLink RX7 104 yX7_hitsOf ∈ ztb := zmem 793 (by decide +kernel) (by decide +kernel)
theorem km_X7_109 : Cond.methodLink RX7 109 yX7_isUnlike ∈ ztb := zmem 814 (by decide +kernel) (by decide +kernel)
theorem km_X7_112 : Cond.methodLink RX7 112 yX7_isLean ∈ ztb := zmem 818 (by decide +kernel) (by decide +kernel)
theorem km_X7_118 : Cond.methodLink RX7 118 yX7_may ∈ ztb := zmem 810 (by decide +kernel) (by decide +kernel)
theorem km_X7_122 : Cond.methodLink RX7 122 yX7_lays ∈ ztb := zmem 806 (by decide +kernel) (by decide +kernel)
theorem km_X7_126 : Cond.methodLink RX7 126 yX7_becomes ∈ ztb := zmem 822 (by decide +kernel) (by decide +kernel)
theorem km_X7_132 : Cond.methodLink RX7 132 yX7_quarrelsLaid ∈ ztb := zmem 835 (by decide +kernel) (by decide +kernel)
theorem km_X7_138 : Cond.methodLink RX7 138 yX7_there ∈ ztb := zmem 848 (by decide +kernel) (by decide +kernel)
theorem km_X7_141 : Cond.methodLink RX7 141 yX7_isPrime ∈ ztb := zmem 856 (by decide +kernel) (by decide +kernel)
theorem km_X7_144 : Cond.methodLink RX7 144 yX7_power ∈ ztb := zmem 859 (by decide +kernel) (by decide +kernel)
theorem km_X7_148 : Cond.methodLink RX7 148 yX7_made ∈ ztb := zmem 862 (by decide +kernel) (by decide +kernel)
theorem km_X7_153 : Cond.methodLink RX7 153 yX7_isSquare ∈ ztb := zmem 875 (by decide +kernel) (by decide +kernel)
theorem km_X7_156 : Cond.methodLink RX7 156 yX7_turns ∈ ztb := zmem 879 (by decide +kernel) (by decide +kernel)
theorem km_X7_160 : Cond.methodLink RX7 160 yX7_code ∈ ztb := zmem 887 (by decide +kernel) (by decide +kernel)
theorem km_X7_173 : Cond.methodLink RX7 173 yX7_isHeard ∈ ztb := zmem 902 (by decide +kernel) (by decide +kernel)
theorem km_X7_186 : Cond.methodLink RX7 186 yX7_finds ∈ ztb := zmem 914 (by decide +kernel) (by decide +kernel)
theorem kn_X0_23 : Cond.methodLinkNest RX0 23 yX6_within RX6 ∈ znest := by decide +kernel
theorem kn_X1_47 : Cond.methodLinkNest RX1 47 yX6_isMove RX6 ∈ znest := by decide +kernel
theorem kn_X2_19 : Cond.methodLinkNest RX2 19 yX6_within RX6 ∈ znest := by decide +kernel
theorem kn_X3_22 : Cond.methodLinkNest RX3 22 yX6_within RX6 ∈ znest := by decide +kernel
theorem kn_X3_36 : Cond.methodLinkNest RX3 36 yX6_rest RX6 ∈ znest := by decide +kernel
theorem kn_X4_28 : Cond.methodLinkNest RX4 28 yX6_within RX6 ∈ znest := by decide +kernel
theorem kn_X4_93 : Cond.methodLinkNest RX4 93 yX6_rest RX6 ∈ znest := by decide +kernel
theorem kn_X5_19 : Cond.methodLinkNest RX5 19 yX6_within RX6 ∈ znest := by decide +kernel
theorem kl_L_13 : Cond.constantLong RL 13 (4294967295) ∈ ztb := zmem 926 (by decide +kernel) (by decide +kernel)
theorem kl_X6_123 : Cond.constantLong RX6 123 (-1) ∈ ztb := zmem 323 (by decide +kernel) (by decide +kernel)
theorem kl_X7_44 : Cond.constantLong RX7 44 (5) ∈ ztb := zmem 724 (by decide +kernel) (by decide +kernel)
theorem kl_X7_54 : Cond.constantLong RX7 54 (12) ∈ ztb := zmem 728 (by decide +kernel) (by decide +kernel)
theorem kl_X7_56 : Cond.constantLong RX7 56 (15) ∈ ztb := zmem 729 (by decide +kernel) (by decide +kernel)
theorem kl_X7_58 : Cond.constantLong RX7 58 (8) ∈ ztb := zmem 734 (by decide +kernel) (by decide +kernel)
theorem kl_X7_67 : Cond.constantLong RX7 67 (97) ∈ ztb := zmem 743 (by decide +kernel) (by decide +kernel)
theorem kl_X7_69 : Cond.constantLong RX7 69 (108) ∈ ztb := zmem 744 (by decide +kernel) (by decide +kernel)
theorem kl_X7_75 : Cond.constantLong RX7 75 (14) ∈ ztb := zmem 750 (by decide +kernel) (by decide +kernel)
theorem kl_X7_77 : Cond.constantLong RX7 77 (13) ∈ ztb := zmem 755 (by decide +kernel) (by decide +kernel)
theorem kl_X7_83 : Cond.constantLong RX7 83 (-1) ∈ ztb := zmem 764 (by decide +kernel) (by decide +kernel)
theorem kl_X7_85 : Cond.constantLong RX7 85 (16) ∈ ztb := zmem 765 (by decide +kernel) (by decide +kernel)
theorem kl_X7_87 : Cond.constantLong RX7 87 (11) ∈ ztb := zmem 770 (by decide +kernel) (by decide +kernel)
theorem kl_X7_97 : Cond.constantLong RX7 97 (2) ∈ ztb := zmem 783 (by decide +kernel) (by decide +kernel)
theorem kl_X7_99 : Cond.constantLong RX7 99 (-12) ∈ ztb := zmem 788 (by decide +kernel) (by decide +kernel)
theorem kl_X7_107 : Cond.constantLong RX7 107 (3) ∈ ztb := zmem 801 (by decide +kernel) (by decide +kernel)
theorem kl_X7_130 : Cond.constantLong RX7 130 (6) ∈ ztb := zmem 834 (by decide +kernel) (by decide +kernel)
theorem kl_X7_136 : Cond.constantLong RX7 136 (4) ∈ ztb := zmem 847 (by decide +kernel) (by decide +kernel)
theorem kl_X7_151 : Cond.constantLong RX7 151 (7) ∈ ztb := zmem 874 (by decide +kernel) (by decide +kernel)
theorem kl_X7_167 : Cond.constantLong RX7 167 (30) ∈ ztb := zmem 899 (by decide +kernel) (by decide +kernel)
theorem kl_X7_169 : Cond.constantLong RX7 169 (-20) ∈ ztb := zmem 900 (by decide +kernel) (by decide +kernel)
theorem kl_X7_171 : Cond.constantLong RX7 171 (20) ∈ ztb := zmem 901 (by decide +kernel) (by decide +kernel)
theorem ki_J6_265 : Cond.constant RJ6 265 (1431655765) ∈ ztb := zmem 457 (by decide +kernel) (by decide +kernel)
theorem ki_J6_266 : Cond.constant RJ6 266 (858993459) ∈ ztb := zmem 458 (by decide +kernel) (by decide +kernel)
theorem ki_J6_267 : Cond.constant RJ6 267 (252645135) ∈ ztb := zmem 459 (by decide +kernel) (by decide +kernel)
theorem cs_J6_bitCount_0f7a4 : zCs yJ6_bitCount_0f7a4 cJ6_bitCount_0f7a4 1 (some .int) 1 := ⟨zmem 456 (by decide +kernel) (by decide +kernel), zmem 455 (by decide +kernel) (by decide +kernel), zmem 52 (by decide +kernel) (by decide +kernel), by decide +kernel, by decide +kernel, by decide +kernel⟩
theorem cs_J7_fill_53178 : zCs yJ7_fill_53178 cJ7_fill_53178 4 (none) 2 := ⟨zmem 234 (by decide +kernel) (by decide +kernel), zmem 233 (by decide +kernel) (by decide +kernel), zmem 50 (by decide +kernel) (by decide +kernel), by decide +kernel, by decide +kernel, by decide +kernel⟩
theorem cs_J9_floorMod_7cf53 : zCs yJ9_floorMod_7cf53 cJ9_floorMod_7cf53 3 (some .int) 2 := ⟨zmem 344 (by decide +kernel) (by decide +kernel), zmem 343 (by decide +kernel) (by decide +kernel), zmem 51 (by decide +kernel) (by decide +kernel), by decide +kernel, by decide +kernel, by decide +kernel⟩
theorem cs_X0_add : zCv yX0_add cX0_add 3 (none) 2 := ⟨zmem 588 (by decide +kernel) (by decide +kernel), ⟨zmem 586 (by decide +kernel) (by decide +kernel), zmem 587 (by decide +kernel) (by decide +kernel)⟩, zmem 48 (by decide +kernel) (by decide +kernel), by decide +kernel, by decide +kernel, by decide +kernel⟩
theorem cs_X0_bestLate : zCv yX0_bestLate cX0_bestLate 1 (some .int) 0 := ⟨zmem 625 (by decide +kernel) (by decide +kernel), ⟨zmem 623 (by decide +kernel) (by decide +kernel), zmem 624 (by decide +kernel) (by decide +kernel)⟩, zmem 48 (by decide +kernel) (by decide +kernel), by decide +kernel, by decide +kernel, by decide +kernel⟩
theorem cs_X0_bestMeeting : zCv yX0_bestMeeting cX0_bestMeeting 1 (some .int) 0 := ⟨zmem 621 (by decide +kernel) (by decide +kernel), ⟨zmem 619 (by decide +kernel) (by decide +kernel), zmem 620 (by decide +kernel) (by decide +kernel)⟩, zmem 48 (by decide +kernel) (by decide +kernel), by decide +kernel, by decide +kernel, by decide +kernel⟩
theorem cs_X0_bestMoved : zCv yX0_bestMoved cX0_bestMoved 1 (some .int) 0 := ⟨zmem 629 (by decide +kernel) (by decide +kernel), ⟨zmem 627 (by decide +kernel) (by decide +kernel), zmem 628 (by decide +kernel) (by decide +kernel)⟩, zmem 48 (by decide +kernel) (by decide +kernel), by decide +kernel, by decide +kernel, by decide +kernel⟩
theorem cs_X0_clear : zCv yX0_clear cX0_clear 1 (none) 0 := ⟨zmem 601 (by decide +kernel) (by decide +kernel), ⟨zmem 599 (by decide +kernel) (by decide +kernel), zmem 600 (by decide +kernel) (by decide +kernel)⟩, zmem 48 (by decide +kernel) (by decide +kernel), by decide +kernel, by decide +kernel, by decide +kernel⟩
theorem cs_X0_holds : zCv yX0_holds cX0_holds 4 (some .boolean) 2 := ⟨zmem 580 (by decide +kernel) (by decide +kernel), ⟨zmem 578 (by decide +kernel) (by decide +kernel), zmem 579 (by decide +kernel) (by decide +kernel)⟩, zmem 48 (by decide +kernel) (by decide +kernel), by decide +kernel, by decide +kernel, by decide +kernel⟩
theorem cs_X0_isFull : zCv yX0_isFull cX0_isFull 1 (some .boolean) 0 := ⟨zmem 584 (by decide +kernel) (by decide +kernel), ⟨zmem 582 (by decide +kernel) (by decide +kernel), zmem 583 (by decide +kernel) (by decide +kernel)⟩, zmem 48 (by decide +kernel) (by decide +kernel), by decide +kernel, by decide +kernel, by decide +kernel⟩
theorem cs_X0_meetHeard : zCv yX0_meetHeard cX0_meetHeard 6 (none) 2 := ⟨zmem 617 (by decide +kernel) (by decide +kernel), ⟨zmem 616 (by decide +kernel) (by decide +kernel), zmem 19 (by decide +kernel) (by decide +kernel)⟩, zmem 48 (by decide +kernel) (by decide +kernel), by decide +kernel, by decide +kernel, by decide +kernel⟩
theorem cs_X0_seek : zCv yX0_seek cX0_seek 3 (none) 1 := ⟨zmem 609 (by decide +kernel) (by decide +kernel), ⟨zmem 607 (by decide +kernel) (by decide +kernel), zmem 608 (by decide +kernel) (by decide +kernel)⟩, zmem 48 (by decide +kernel) (by decide +kernel), by decide +kernel, by decide +kernel, by decide +kernel⟩
theorem cs_X0_size : zCv yX0_size cX0_size 1 (some .int) 0 := ⟨zmem 593 (by decide +kernel) (by decide +kernel), ⟨zmem 591 (by decide +kernel) (by decide +kernel), zmem 592 (by decide +kernel) (by decide +kernel)⟩, zmem 48 (by decide +kernel) (by decide +kernel), by decide +kernel, by decide +kernel, by decide +kernel⟩
theorem cs_X1_bestDx : zCv yX1_bestDx cX1_bestDx 1 (some .int) 0 := ⟨zmem 407 (by decide +kernel) (by decide +kernel), ⟨zmem 405 (by decide +kernel) (by decide +kernel), zmem 406 (by decide +kernel) (by decide +kernel)⟩, zmem 45 (by decide +kernel) (by decide +kernel), by decide +kernel, by decide +kernel, by decide +kernel⟩
theorem cs_X1_bestDy : zCv yX1_bestDy cX1_bestDy 1 (some .int) 0 := ⟨zmem 411 (by decide +kernel) (by decide +kernel), ⟨zmem 409 (by decide +kernel) (by decide +kernel), zmem 410 (by decide +kernel) (by decide +kernel)⟩, zmem 45 (by decide +kernel) (by decide +kernel), by decide +kernel, by decide +kernel, by decide +kernel⟩
theorem cs_X1_bestMeeting : zCv yX1_bestMeeting cX1_bestMeeting 1 (some .int) 0 := ⟨zmem 403 (by decide +kernel) (by decide +kernel), ⟨zmem 401 (by decide +kernel) (by decide +kernel), zmem 402 (by decide +kernel) (by decide +kernel)⟩, zmem 45 (by decide +kernel) (by decide +kernel), by decide +kernel, by decide +kernel, by decide +kernel⟩
theorem cs_X1_lookAt : zCv yX1_lookAt cX1_lookAt 5 (none) 3 := ⟨zmem 383 (by decide +kernel) (by decide +kernel), ⟨zmem 381 (by decide +kernel) (by decide +kernel), zmem 382 (by decide +kernel) (by decide +kernel)⟩, zmem 45 (by decide +kernel) (by decide +kernel), by decide +kernel, by decide +kernel, by decide +kernel⟩
theorem cs_X1_meetAll : zCv yX1_meetAll cX1_meetAll 7 (none) 3 := ⟨zmem 391 (by decide +kernel) (by decide +kernel), ⟨zmem 390 (by decide +kernel) (by decide +kernel), zmem 4 (by decide +kernel) (by decide +kernel)⟩, zmem 45 (by decide +kernel) (by decide +kernel), by decide +kernel, by decide +kernel, by decide +kernel⟩
theorem cs_X1_placeOf : zCs yX1_placeOf cX1_placeOf 2 (some .int) 2 := ⟨zmem 395 (by decide +kernel) (by decide +kernel), zmem 394 (by decide +kernel) (by decide +kernel), zmem 45 (by decide +kernel) (by decide +kernel), by decide +kernel, by decide +kernel, by decide +kernel⟩
theorem cs_X1_sumOfSquares : zCv yX1_sumOfSquares cX1_sumOfSquares 1 (some .int) 0 := ⟨zmem 415 (by decide +kernel) (by decide +kernel), ⟨zmem 413 (by decide +kernel) (by decide +kernel), zmem 414 (by decide +kernel) (by decide +kernel)⟩, zmem 45 (by decide +kernel) (by decide +kernel), by decide +kernel, by decide +kernel, by decide +kernel⟩
theorem cs_X1_weigh : zCv yX1_weigh cX1_weigh 3 (none) 1 := ⟨zmem 399 (by decide +kernel) (by decide +kernel), ⟨zmem 398 (by decide +kernel) (by decide +kernel), zmem 5 (by decide +kernel) (by decide +kernel)⟩, zmem 45 (by decide +kernel) (by decide +kernel), by decide +kernel, by decide +kernel, by decide +kernel⟩
theorem cs_X2_countFrom : zCv yX2_countFrom cX2_countFrom 7 (some .int) 3 := ⟨zmem 501 (by decide +kernel) (by decide +kernel), ⟨zmem 500 (by decide +kernel) (by decide +kernel), zmem 13 (by decide +kernel) (by decide +kernel)⟩, zmem 47 (by decide +kernel) (by decide +kernel), by decide +kernel, by decide +kernel, by decide +kernel⟩
theorem cs_X2_newQuarrels : zCv yX2_newQuarrels cX2_newQuarrels 6 (some .int) 1 := ⟨zmem 505 (by decide +kernel) (by decide +kernel), ⟨zmem 504 (by decide +kernel) (by decide +kernel), zmem 14 (by decide +kernel) (by decide +kernel)⟩, zmem 47 (by decide +kernel) (by decide +kernel), by decide +kernel, by decide +kernel, by decide +kernel⟩
theorem cs_X2_withQuarrels : zCv yX2_withQuarrels cX2_withQuarrels 3 (some .int) 2 := ⟨zmem 496 (by decide +kernel) (by decide +kernel), ⟨zmem 494 (by decide +kernel) (by decide +kernel), zmem 495 (by decide +kernel) (by decide +kernel)⟩, zmem 47 (by decide +kernel) (by decide +kernel), by decide +kernel, by decide +kernel, by decide +kernel⟩
theorem cs_X3_columns : zCv yX3_columns cX3_columns 1 (some .int) 0 := ⟨zmem 226 (by decide +kernel) (by decide +kernel), ⟨zmem 224 (by decide +kernel) (by decide +kernel), zmem 225 (by decide +kernel) (by decide +kernel)⟩, zmem 43 (by decide +kernel) (by decide +kernel), by decide +kernel, by decide +kernel, by decide +kernel⟩
theorem cs_X3_copyFrom : zCv yX3_copyFrom cX3_copyFrom 3 (none) 1 := ⟨zmem 536 (by decide +kernel) (by decide +kernel), ⟨zmem 534 (by decide +kernel) (by decide +kernel), zmem 535 (by decide +kernel) (by decide +kernel)⟩, zmem 43 (by decide +kernel) (by decide +kernel), by decide +kernel, by decide +kernel, by decide +kernel⟩
theorem cs_X3_hasMark : zCv yX3_hasMark cX3_hasMark 3 (some .boolean) 2 := ⟨zmem 372 (by decide +kernel) (by decide +kernel), ⟨zmem 370 (by decide +kernel) (by decide +kernel), zmem 371 (by decide +kernel) (by decide +kernel)⟩, zmem 43 (by decide +kernel) (by decide +kernel), by decide +kernel, by decide +kernel, by decide +kernel⟩
theorem cs_X3_isSquare : zCv yX3_isSquare cX3_isSquare 3 (some .boolean) 0 := ⟨zmem 532 (by decide +kernel) (by decide +kernel), ⟨zmem 530 (by decide +kernel) (by decide +kernel), zmem 531 (by decide +kernel) (by decide +kernel)⟩, zmem 43 (by decide +kernel) (by decide +kernel), by decide +kernel, by decide +kernel, by decide +kernel⟩
theorem cs_X3_lineAt : zCv yX3_lineAt cX3_lineAt 2 (some .int) 1 := ⟨zmem 317 (by decide +kernel) (by decide +kernel), ⟨zmem 315 (by decide +kernel) (by decide +kernel), zmem 316 (by decide +kernel) (by decide +kernel)⟩, zmem 43 (by decide +kernel) (by decide +kernel), by decide +kernel, by decide +kernel, by decide +kernel⟩
theorem cs_X3_lines : zCv yX3_lines cX3_lines 1 (some .int) 0 := ⟨zmem 309 (by decide +kernel) (by decide +kernel), ⟨zmem 307 (by decide +kernel) (by decide +kernel), zmem 308 (by decide +kernel) (by decide +kernel)⟩, zmem 43 (by decide +kernel) (by decide +kernel), by decide +kernel, by decide +kernel, by decide +kernel⟩
theorem cs_X3_markCount : zCv yX3_markCount cX3_markCount 3 (some .int) 0 := ⟨zmem 649 (by decide +kernel) (by decide +kernel), ⟨zmem 647 (by decide +kernel) (by decide +kernel), zmem 648 (by decide +kernel) (by decide +kernel)⟩, zmem 43 (by decide +kernel) (by decide +kernel), by decide +kernel, by decide +kernel, by decide +kernel⟩
theorem cs_X3_markedAt : zCv yX3_markedAt cX3_markedAt 2 (some .boolean) 1 := ⟨zmem 313 (by decide +kernel) (by decide +kernel), ⟨zmem 311 (by decide +kernel) (by decide +kernel), zmem 312 (by decide +kernel) (by decide +kernel)⟩, zmem 43 (by decide +kernel) (by decide +kernel), by decide +kernel, by decide +kernel, by decide +kernel⟩
theorem cs_X3_packed : zCv yX3_packed cX3_packed 4 (some .long) 0 := ⟨zmem 327 (by decide +kernel) (by decide +kernel), ⟨zmem 325 (by decide +kernel) (by decide +kernel), zmem 326 (by decide +kernel) (by decide +kernel)⟩, zmem 43 (by decide +kernel) (by decide +kernel), by decide +kernel, by decide +kernel, by decide +kernel⟩
theorem cs_X3_put : zCv yX3_put cX3_put 3 (none) 2 := ⟨zmem 238 (by decide +kernel) (by decide +kernel), ⟨zmem 236 (by decide +kernel) (by decide +kernel), zmem 237 (by decide +kernel) (by decide +kernel)⟩, zmem 43 (by decide +kernel) (by decide +kernel), by decide +kernel, by decide +kernel, by decide +kernel⟩
theorem cs_X3_shape : zCv yX3_shape cX3_shape 3 (none) 2 := ⟨zmem 230 (by decide +kernel) (by decide +kernel), ⟨zmem 228 (by decide +kernel) (by decide +kernel), zmem 229 (by decide +kernel) (by decide +kernel)⟩, zmem 43 (by decide +kernel) (by decide +kernel), by decide +kernel, by decide +kernel, by decide +kernel⟩
theorem cs_X3_step : zCv yX3_step cX3_step 5 (some .int) 3 := ⟨zmem 338 (by decide +kernel) (by decide +kernel), ⟨zmem 336 (by decide +kernel) (by decide +kernel), zmem 337 (by decide +kernel) (by decide +kernel)⟩, zmem 43 (by decide +kernel) (by decide +kernel), by decide +kernel, by decide +kernel, by decide +kernel⟩
theorem cs_X4_amongRows : zCv yX4_amongRows cX4_amongRows 4 (none) 3 := ⟨zmem 427 (by decide +kernel) (by decide +kernel), ⟨zmem 425 (by decide +kernel) (by decide +kernel), zmem 426 (by decide +kernel) (by decide +kernel)⟩, zmem 46 (by decide +kernel) (by decide +kernel), by decide +kernel, by decide +kernel, by decide +kernel⟩
theorem cs_X4_amongSquares : zCv yX4_amongSquares cX4_amongSquares 2 (none) 1 := ⟨zmem 423 (by decide +kernel) (by decide +kernel), ⟨zmem 421 (by decide +kernel) (by decide +kernel), zmem 422 (by decide +kernel) (by decide +kernel)⟩, zmem 46 (by decide +kernel) (by decide +kernel), by decide +kernel, by decide +kernel, by decide +kernel⟩
theorem cs_X4_begin : zCv yX4_begin cX4_begin 2 (none) 1 := ⟨zmem 441 (by decide +kernel) (by decide +kernel), ⟨zmem 440 (by decide +kernel) (by decide +kernel), zmem 7 (by decide +kernel) (by decide +kernel)⟩, zmem 46 (by decide +kernel) (by decide +kernel), by decide +kernel, by decide +kernel, by decide +kernel⟩
theorem cs_X4_countAll : zCv yX4_countAll cX4_countAll 1 (some .int) 0 := ⟨zmem 437 (by decide +kernel) (by decide +kernel), ⟨zmem 435 (by decide +kernel) (by decide +kernel), zmem 436 (by decide +kernel) (by decide +kernel)⟩, zmem 46 (by decide +kernel) (by decide +kernel), by decide +kernel, by decide +kernel, by decide +kernel⟩
theorem cs_X4_endIn : zCv yX4_endIn cX4_endIn 5 (some .boolean) 2 := ⟨zmem 453 (by decide +kernel) (by decide +kernel), ⟨zmem 452 (by decide +kernel) (by decide +kernel), zmem 10 (by decide +kernel) (by decide +kernel)⟩, zmem 46 (by decide +kernel) (by decide +kernel), by decide +kernel, by decide +kernel, by decide +kernel⟩
theorem cs_X4_flipSteps : zCv yX4_flipSteps cX4_flipSteps 3 (none) 1 := ⟨zmem 463 (by decide +kernel) (by decide +kernel), ⟨zmem 462 (by decide +kernel) (by decide +kernel), zmem 11 (by decide +kernel) (by decide +kernel)⟩, zmem 46 (by decide +kernel) (by decide +kernel), by decide +kernel, by decide +kernel, by decide +kernel⟩
theorem cs_X4_freeLines : zCv yX4_freeLines cX4_freeLines 5 (some .int) 2 := ⟨zmem 449 (by decide +kernel) (by decide +kernel), ⟨zmem 448 (by decide +kernel) (by decide +kernel), zmem 9 (by decide +kernel) (by decide +kernel)⟩, zmem 46 (by decide +kernel) (by decide +kernel), by decide +kernel, by decide +kernel, by decide +kernel⟩
theorem cs_X4_giveTo : zCv yX4_giveTo cX4_giveTo 3 (none) 1 := ⟨zmem 476 (by decide +kernel) (by decide +kernel), ⟨zmem 474 (by decide +kernel) (by decide +kernel), zmem 475 (by decide +kernel) (by decide +kernel)⟩, zmem 46 (by decide +kernel) (by decide +kernel), by decide +kernel, by decide +kernel, by decide +kernel⟩
theorem cs_X4_keepMarksOf : zCv yX4_keepMarksOf cX4_keepMarksOf 3 (none) 1 := ⟨zmem 486 (by decide +kernel) (by decide +kernel), ⟨zmem 484 (by decide +kernel) (by decide +kernel), zmem 485 (by decide +kernel) (by decide +kernel)⟩, zmem 46 (by decide +kernel) (by decide +kernel), by decide +kernel, by decide +kernel, by decide +kernel⟩
theorem cs_X4_reach : zCv yX4_reach cX4_reach 2 (some .boolean) 1 := ⟨zmem 472 (by decide +kernel) (by decide +kernel), ⟨zmem 470 (by decide +kernel) (by decide +kernel), zmem 471 (by decide +kernel) (by decide +kernel)⟩, zmem 46 (by decide +kernel) (by decide +kernel), by decide +kernel, by decide +kernel, by decide +kernel⟩
theorem cs_X4_stepBits : zCv yX4_stepBits cX4_stepBits 3 (some .int) 1 := ⟨zmem 467 (by decide +kernel) (by decide +kernel), ⟨zmem 466 (by decide +kernel) (by decide +kernel), zmem 12 (by decide +kernel) (by decide +kernel)⟩, zmem 46 (by decide +kernel) (by decide +kernel), by decide +kernel, by decide +kernel, by decide +kernel⟩
theorem cs_X4_walk : zCv yX4_walk cX4_walk 5 (some .boolean) 2 := ⟨zmem 445 (by decide +kernel) (by decide +kernel), ⟨zmem 444 (by decide +kernel) (by decide +kernel), zmem 8 (by decide +kernel) (by decide +kernel)⟩, zmem 46 (by decide +kernel) (by decide +kernel), by decide +kernel, by decide +kernel, by decide +kernel⟩
theorem cs_X5_add : zCv yX5_add cX5_add 2 (none) 1 := ⟨zmem 250 (by decide +kernel) (by decide +kernel), ⟨zmem 248 (by decide +kernel) (by decide +kernel), zmem 249 (by decide +kernel) (by decide +kernel)⟩, zmem 44 (by decide +kernel) (by decide +kernel), by decide +kernel, by decide +kernel, by decide +kernel⟩
theorem cs_X5_byteAt : zCv yX5_byteAt cX5_byteAt 2 (some .int) 1 := ⟨zmem 279 (by decide +kernel) (by decide +kernel), ⟨zmem 278 (by decide +kernel) (by decide +kernel), zmem 1 (by decide +kernel) (by decide +kernel)⟩, zmem 44 (by decide +kernel) (by decide +kernel), by decide +kernel, by decide +kernel, by decide +kernel⟩
theorem cs_X5_clear : zCv yX5_clear cX5_clear 1 (none) 0 := ⟨zmem 263 (by decide +kernel) (by decide +kernel), ⟨zmem 261 (by decide +kernel) (by decide +kernel), zmem 262 (by decide +kernel) (by decide +kernel)⟩, zmem 44 (by decide +kernel) (by decide +kernel), by decide +kernel, by decide +kernel, by decide +kernel⟩
theorem cs_X5_endsRow : zCv yX5_endsRow cX5_endsRow 2 (some .boolean) 1 := ⟨zmem 275 (by decide +kernel) (by decide +kernel), ⟨zmem 273 (by decide +kernel) (by decide +kernel), zmem 274 (by decide +kernel) (by decide +kernel)⟩, zmem 44 (by decide +kernel) (by decide +kernel), by decide +kernel, by decide +kernel, by decide +kernel⟩
theorem cs_X5_firstFault : zCv yX5_firstFault cX5_firstFault 4 (some .int) 0 := ⟨zmem 271 (by decide +kernel) (by decide +kernel), ⟨zmem 269 (by decide +kernel) (by decide +kernel), zmem 270 (by decide +kernel) (by decide +kernel)⟩, zmem 44 (by decide +kernel) (by decide +kernel), by decide +kernel, by decide +kernel, by decide +kernel⟩
theorem cs_X5_hasRoomFor : zCv yX5_hasRoomFor cX5_hasRoomFor 2 (some .boolean) 1 := ⟨zmem 246 (by decide +kernel) (by decide +kernel), ⟨zmem 244 (by decide +kernel) (by decide +kernel), zmem 245 (by decide +kernel) (by decide +kernel)⟩, zmem 44 (by decide +kernel) (by decide +kernel), by decide +kernel, by decide +kernel, by decide +kernel⟩
theorem cs_X5_highestLine : zCv yX5_highestLine cX5_highestLine 4 (some .int) 0 := ⟨zmem 295 (by decide +kernel) (by decide +kernel), ⟨zmem 293 (by decide +kernel) (by decide +kernel), zmem 294 (by decide +kernel) (by decide +kernel)⟩, zmem 44 (by decide +kernel) (by decide +kernel), by decide +kernel, by decide +kernel, by decide +kernel⟩
theorem cs_X5_isColumn : zCv yX5_isColumn cX5_isColumn 2 (some .boolean) 1 := ⟨zmem 283 (by decide +kernel) (by decide +kernel), ⟨zmem 282 (by decide +kernel) (by decide +kernel), zmem 2 (by decide +kernel) (by decide +kernel)⟩, zmem 44 (by decide +kernel) (by decide +kernel), by decide +kernel, by decide +kernel, by decide +kernel⟩
theorem cs_X5_length : zCv yX5_length cX5_length 1 (some .int) 0 := ⟨zmem 255 (by decide +kernel) (by decide +kernel), ⟨zmem 253 (by decide +kernel) (by decide +kernel), zmem 254 (by decide +kernel) (by decide +kernel)⟩, zmem 44 (by decide +kernel) (by decide +kernel), by decide +kernel, by decide +kernel, by decide +kernel⟩
theorem cs_X5_lineAt : zCv yX5_lineAt cX5_lineAt 3 (some .int) 1 := ⟨zmem 287 (by decide +kernel) (by decide +kernel), ⟨zmem 285 (by decide +kernel) (by decide +kernel), zmem 286 (by decide +kernel) (by decide +kernel)⟩, zmem 44 (by decide +kernel) (by decide +kernel), by decide +kernel, by decide +kernel, by decide +kernel⟩
theorem cs_X6_among : zCv yX6_among cX6_among 7 (some .int) 1 := ⟨zmem 633 (by decide +kernel) (by decide +kernel), ⟨zmem 631 (by decide +kernel) (by decide +kernel), zmem 632 (by decide +kernel) (by decide +kernel)⟩, zmem 42 (by decide +kernel) (by decide +kernel), by decide +kernel, by decide +kernel, by decide +kernel⟩
theorem cs_X6_bestHeard : zCv yX6_bestHeard cX6_bestHeard 3 (some .int) 1 := ⟨zmem 637 (by decide +kernel) (by decide +kernel), ⟨zmem 636 (by decide +kernel) (by decide +kernel), zmem 20 (by decide +kernel) (by decide +kernel)⟩, zmem 42 (by decide +kernel) (by decide +kernel), by decide +kernel, by decide +kernel, by decide +kernel⟩
theorem cs_X6_columnsInAll : zCv yX6_columnsInAll cX6_columnsInAll 4 (some .int) 0 := ⟨zmem 654 (by decide +kernel) (by decide +kernel), ⟨zmem 653 (by decide +kernel) (by decide +kernel), zmem 22 (by decide +kernel) (by decide +kernel)⟩, zmem 42 (by decide +kernel) (by decide +kernel), by decide +kernel, by decide +kernel, by decide +kernel⟩
theorem cs_X6_corner : zCv yX6_corner cX6_corner 7 (some .int) 3 := ⟨zmem 564 (by decide +kernel) (by decide +kernel), ⟨zmem 562 (by decide +kernel) (by decide +kernel), zmem 563 (by decide +kernel) (by decide +kernel)⟩, zmem 42 (by decide +kernel) (by decide +kernel), by decide +kernel, by decide +kernel, by decide +kernel⟩
theorem cs_X6_count : zCv yX6_count cX6_count 2 (some .int) 1 := ⟨zmem 641 (by decide +kernel) (by decide +kernel), ⟨zmem 639 (by decide +kernel) (by decide +kernel), zmem 640 (by decide +kernel) (by decide +kernel)⟩, zmem 42 (by decide +kernel) (by decide +kernel), by decide +kernel, by decide +kernel, by decide +kernel⟩
theorem cs_X6_countOrMake : zCv yX6_countOrMake cX6_countOrMake 4 (some .int) 2 := ⟨zmem 433 (by decide +kernel) (by decide +kernel), ⟨zmem 432 (by decide +kernel) (by decide +kernel), zmem 6 (by decide +kernel) (by decide +kernel)⟩, zmem 42 (by decide +kernel) (by decide +kernel), by decide +kernel, by decide +kernel, by decide +kernel⟩
theorem cs_X6_difference : zCv yX6_difference cX6_difference 6 (some .int) 4 := ⟨zmem 331 (by decide +kernel) (by decide +kernel), ⟨zmem 329 (by decide +kernel) (by decide +kernel), zmem 330 (by decide +kernel) (by decide +kernel)⟩, zmem 42 (by decide +kernel) (by decide +kernel), by decide +kernel, by decide +kernel, by decide +kernel⟩
theorem cs_X6_fault : zCv yX6_fault cX6_fault 1 (some .int) 0 := ⟨zmem 267 (by decide +kernel) (by decide +kernel), ⟨zmem 265 (by decide +kernel) (by decide +kernel), zmem 266 (by decide +kernel) (by decide +kernel)⟩, zmem 42 (by decide +kernel) (by decide +kernel), by decide +kernel, by decide +kernel, by decide +kernel⟩
theorem cs_X6_firstQuarrel : zCs yX6_firstQuarrel cX6_firstQuarrel 6 (some .int) 2 := ⟨zmem 351 (by decide +kernel) (by decide +kernel), zmem 350 (by decide +kernel) (by decide +kernel), zmem 42 (by decide +kernel) (by decide +kernel), by decide +kernel, by decide +kernel, by decide +kernel⟩
theorem cs_X6_fits : zCs yX6_fits cX6_fits 6 (some .boolean) 3 := ⟨zmem 219 (by decide +kernel) (by decide +kernel), zmem 218 (by decide +kernel) (by decide +kernel), zmem 42 (by decide +kernel) (by decide +kernel), by decide +kernel, by decide +kernel, by decide +kernel⟩
theorem cs_X6_found : zCv yX6_found cX6_found 4 (some .int) 2 := ⟨zmem 605 (by decide +kernel) (by decide +kernel), ⟨zmem 603 (by decide +kernel) (by decide +kernel), zmem 604 (by decide +kernel) (by decide +kernel)⟩, zmem 42 (by decide +kernel) (by decide +kernel), by decide +kernel, by decide +kernel, by decide +kernel⟩
theorem cs_X6_hear : zCv yX6_hear cX6_hear 3 (some .int) 2 := ⟨zmem 576 (by decide +kernel) (by decide +kernel), ⟨zmem 574 (by decide +kernel) (by decide +kernel), zmem 575 (by decide +kernel) (by decide +kernel)⟩, zmem 42 (by decide +kernel) (by decide +kernel), by decide +kernel, by decide +kernel, by decide +kernel⟩
theorem cs_X6_hits : zCv yX6_hits cX6_hits 8 (some .int) 5 := ⟨zmem 361 (by decide +kernel) (by decide +kernel), ⟨zmem 359 (by decide +kernel) (by decide +kernel), zmem 360 (by decide +kernel) (by decide +kernel)⟩, zmem 42 (by decide +kernel) (by decide +kernel), by decide +kernel, by decide +kernel, by decide +kernel⟩
theorem cs_X6_holding : zCv yX6_holding cX6_holding 5 (some .int) 3 := ⟨zmem 482 (by decide +kernel) (by decide +kernel), ⟨zmem 480 (by decide +kernel) (by decide +kernel), zmem 481 (by decide +kernel) (by decide +kernel)⟩, zmem 42 (by decide +kernel) (by decide +kernel), by decide +kernel, by decide +kernel, by decide +kernel⟩
theorem cs_X6_isKind : zCs yX6_isKind cX6_isKind 1 (some .boolean) 1 := ⟨zmem 334 (by decide +kernel) (by decide +kernel), zmem 333 (by decide +kernel) (by decide +kernel), zmem 42 (by decide +kernel) (by decide +kernel), by decide +kernel, by decide +kernel, by decide +kernel⟩
theorem cs_X6_isMove : zCs yX6_isMove cX6_isMove 1 (some .boolean) 1 := ⟨zmem 364 (by decide +kernel) (by decide +kernel), zmem 363 (by decide +kernel) (by decide +kernel), zmem 42 (by decide +kernel) (by decide +kernel), by decide +kernel, by decide +kernel, by decide +kernel⟩
theorem cs_X6_isNewTurning : zCv yX6_isNewTurning cX6_isNewTurning 3 (some .boolean) 1 := ⟨zmem 560 (by decide +kernel) (by decide +kernel), ⟨zmem 559 (by decide +kernel) (by decide +kernel), zmem 16 (by decide +kernel) (by decide +kernel)⟩, zmem 42 (by decide +kernel) (by decide +kernel), by decide +kernel, by decide +kernel, by decide +kernel⟩
theorem cs_X6_isToldPrime : zCs yX6_isToldPrime cX6_isToldPrime 1 (some .boolean) 1 := ⟨zmem 521 (by decide +kernel) (by decide +kernel), zmem 520 (by decide +kernel) (by decide +kernel), zmem 42 (by decide +kernel) (by decide +kernel), by decide +kernel, by decide +kernel, by decide +kernel⟩
theorem cs_X6_keepSquare : zCv yX6_keepSquare cX6_keepSquare 2 (some .int) 1 := ⟨zmem 528 (by decide +kernel) (by decide +kernel), ⟨zmem 527 (by decide +kernel) (by decide +kernel), zmem 15 (by decide +kernel) (by decide +kernel)⟩, zmem 42 (by decide +kernel) (by decide +kernel), by decide +kernel, by decide +kernel, by decide +kernel⟩
theorem cs_X6_lay : zCv yX6_lay cX6_lay 5 (some .int) 1 := ⟨zmem 291 (by decide +kernel) (by decide +kernel), ⟨zmem 289 (by decide +kernel) (by decide +kernel), zmem 290 (by decide +kernel) (by decide +kernel)⟩, zmem 42 (by decide +kernel) (by decide +kernel), by decide +kernel, by decide +kernel, by decide +kernel⟩
theorem cs_X6_layOne : zCv yX6_layOne cX6_layOne 7 (none) 4 := ⟨zmem 300 (by decide +kernel) (by decide +kernel), ⟨zmem 299 (by decide +kernel) (by decide +kernel), zmem 3 (by decide +kernel) (by decide +kernel)⟩, zmem 42 (by decide +kernel) (by decide +kernel), by decide +kernel, by decide +kernel, by decide +kernel⟩
theorem cs_X6_like : zCv yX6_like cX6_like 5 (some .int) 1 := ⟨zmem 556 (by decide +kernel) (by decide +kernel), ⟨zmem 554 (by decide +kernel) (by decide +kernel), zmem 555 (by decide +kernel) (by decide +kernel)⟩, zmem 42 (by decide +kernel) (by decide +kernel), by decide +kernel, by decide +kernel, by decide +kernel⟩
theorem cs_X6_longest : zCv yX6_longest cX6_longest 5 (some .int) 2 := ⟨zmem 514 (by decide +kernel) (by decide +kernel), ⟨zmem 512 (by decide +kernel) (by decide +kernel), zmem 513 (by decide +kernel) (by decide +kernel)⟩, zmem 42 (by decide +kernel) (by decide +kernel), by decide +kernel, by decide +kernel, by decide +kernel⟩
theorem cs_X6_marks : zCv yX6_marks cX6_marks 3 (some .long) 1 := ⟨zmem 322 (by decide +kernel) (by decide +kernel), ⟨zmem 320 (by decide +kernel) (by decide +kernel), zmem 321 (by decide +kernel) (by decide +kernel)⟩, zmem 42 (by decide +kernel) (by decide +kernel), by decide +kernel, by decide +kernel, by decide +kernel⟩
theorem cs_X6_marksInAll : zCv yX6_marksInAll cX6_marksInAll 4 (some .int) 0 := ⟨zmem 645 (by decide +kernel) (by decide +kernel), ⟨zmem 644 (by decide +kernel) (by decide +kernel), zmem 21 (by decide +kernel) (by decide +kernel)⟩, zmem 42 (by decide +kernel) (by decide +kernel), by decide +kernel, by decide +kernel, by decide +kernel⟩
theorem cs_X6_meeting : zCs yX6_meeting cX6_meeting 6 (some .int) 4 := ⟨zmem 375 (by decide +kernel) (by decide +kernel), zmem 374 (by decide +kernel) (by decide +kernel), zmem 42 (by decide +kernel) (by decide +kernel), by decide +kernel, by decide +kernel, by decide +kernel⟩
theorem cs_X6_meetingRound : zCs yX6_meetingRound cX6_meetingRound 7 (some .int) 4 := ⟨zmem 367 (by decide +kernel) (by decide +kernel), zmem 366 (by decide +kernel) (by decide +kernel), zmem 42 (by decide +kernel) (by decide +kernel), by decide +kernel, by decide +kernel, by decide +kernel⟩
theorem cs_X6_most : zCv yX6_most cX6_most 6 (some .int) 3 := ⟨zmem 379 (by decide +kernel) (by decide +kernel), ⟨zmem 377 (by decide +kernel) (by decide +kernel), zmem 378 (by decide +kernel) (by decide +kernel)⟩, zmem 42 (by decide +kernel) (by decide +kernel), by decide +kernel, by decide +kernel, by decide +kernel⟩
theorem cs_X6_nearly : zCv yX6_nearly cX6_nearly 3 (some .int) 2 := ⟨zmem 492 (by decide +kernel) (by decide +kernel), ⟨zmem 490 (by decide +kernel) (by decide +kernel), zmem 491 (by decide +kernel) (by decide +kernel)⟩, zmem 42 (by decide +kernel) (by decide +kernel), by decide +kernel, by decide +kernel, by decide +kernel⟩
theorem cs_X6_nibble : zCs yX6_nibble cX6_nibble 3 (some .int) 2 := ⟨zmem 222 (by decide +kernel) (by decide +kernel), zmem 221 (by decide +kernel) (by decide +kernel), zmem 42 (by decide +kernel) (by decide +kernel), by decide +kernel, by decide +kernel, by decide +kernel⟩
theorem cs_X6_onlyPartner : zCs yX6_onlyPartner cX6_onlyPartner 6 (some .int) 3 := ⟨zmem 545 (by decide +kernel) (by decide +kernel), zmem 544 (by decide +kernel) (by decide +kernel), zmem 42 (by decide +kernel) (by decide +kernel), by decide +kernel, by decide +kernel, by decide +kernel⟩
theorem cs_X6_powerBy : zCs yX6_powerBy cX6_powerBy 5 (some .int) 3 := ⟨zmem 524 (by decide +kernel) (by decide +kernel), zmem 523 (by decide +kernel) (by decide +kernel), zmem 42 (by decide +kernel) (by decide +kernel), by decide +kernel, by decide +kernel, by decide +kernel⟩
theorem cs_X6_powers : zCv yX6_powers cX6_powers 9 (some .int) 4 := ⟨zmem 518 (by decide +kernel) (by decide +kernel), ⟨zmem 516 (by decide +kernel) (by decide +kernel), zmem 517 (by decide +kernel) (by decide +kernel)⟩, zmem 42 (by decide +kernel) (by decide +kernel), by decide +kernel, by decide +kernel, by decide +kernel⟩
theorem cs_X6_quarrel : zCs yX6_quarrel cX6_quarrel 5 (some .boolean) 5 := ⟨zmem 354 (by decide +kernel) (by decide +kernel), zmem 353 (by decide +kernel) (by decide +kernel), zmem 42 (by decide +kernel) (by decide +kernel), by decide +kernel, by decide +kernel, by decide +kernel⟩
theorem cs_X6_quarrelCount : zCs yX6_quarrelCount cX6_quarrelCount 7 (some .int) 2 := ⟨zmem 357 (by decide +kernel) (by decide +kernel), zmem 356 (by decide +kernel) (by decide +kernel), zmem 42 (by decide +kernel) (by decide +kernel), by decide +kernel, by decide +kernel, by decide +kernel⟩
theorem cs_X6_quarrels : zCv yX6_quarrels cX6_quarrels 6 (some .int) 3 := ⟨zmem 348 (by decide +kernel) (by decide +kernel), ⟨zmem 346 (by decide +kernel) (by decide +kernel), zmem 347 (by decide +kernel) (by decide +kernel)⟩, zmem 42 (by decide +kernel) (by decide +kernel), by decide +kernel, by decide +kernel, by decide +kernel⟩
theorem cs_X6_rest : zCs yX6_rest cX6_rest 2 (some .int) 2 := ⟨zmem 341 (by decide +kernel) (by decide +kernel), zmem 340 (by decide +kernel) (by decide +kernel), zmem 42 (by decide +kernel) (by decide +kernel), by decide +kernel, by decide +kernel, by decide +kernel⟩
theorem cs_X6_row : zCv yX6_row cX6_row 9 (some .int) 4 := ⟨zmem 209 (by decide +kernel) (by decide +kernel), ⟨zmem 207 (by decide +kernel) (by decide +kernel), zmem 208 (by decide +kernel) (by decide +kernel)⟩, zmem 42 (by decide +kernel) (by decide +kernel), by decide +kernel, by decide +kernel, by decide +kernel⟩
theorem cs_X6_rowAt : zCv yX6_rowAt cX6_rowAt 2 (some (.object "LeanMarks$Row")) 1 := ⟨zmem 213 (by decide +kernel) (by decide +kernel), ⟨zmem 212 (by decide +kernel) (by decide +kernel), zmem 0 (by decide +kernel) (by decide +kernel)⟩, zmem 42 (by decide +kernel) (by decide +kernel), by decide +kernel, by decide +kernel, by decide +kernel⟩
theorem cs_X6_rows : zCv yX6_rows cX6_rows 6 (some .int) 5 := ⟨zmem 509 (by decide +kernel) (by decide +kernel), ⟨zmem 507 (by decide +kernel) (by decide +kernel), zmem 508 (by decide +kernel) (by decide +kernel)⟩, zmem 42 (by decide +kernel) (by decide +kernel), by decide +kernel, by decide +kernel, by decide +kernel⟩
theorem cs_X6_setOn : zCv yX6_setOn cX6_setOn 8 (some .int) 3 := ⟨zmem 568 (by decide +kernel) (by decide +kernel), ⟨zmem 567 (by decide +kernel) (by decide +kernel), zmem 17 (by decide +kernel) (by decide +kernel)⟩, zmem 42 (by decide +kernel) (by decide +kernel), by decide +kernel, by decide +kernel, by decide +kernel⟩
theorem cs_X6_squares : zCv yX6_squares cX6_squares 4 (some .int) 3 := ⟨zmem 419 (by decide +kernel) (by decide +kernel), ⟨zmem 417 (by decide +kernel) (by decide +kernel), zmem 418 (by decide +kernel) (by decide +kernel)⟩, zmem 42 (by decide +kernel) (by decide +kernel), by decide +kernel, by decide +kernel, by decide +kernel⟩
theorem cs_X6_still : zCv yX6_still cX6_still 2 (some .int) 0 := ⟨zmem 597 (by decide +kernel) (by decide +kernel), ⟨zmem 595 (by decide +kernel) (by decide +kernel), zmem 596 (by decide +kernel) (by decide +kernel)⟩, zmem 42 (by decide +kernel) (by decide +kernel), by decide +kernel, by decide +kernel, by decide +kernel⟩
theorem cs_X6_sums : zCv yX6_sums cX6_sums 9 (some .int) 4 := ⟨zmem 542 (by decide +kernel) (by decide +kernel), ⟨zmem 540 (by decide +kernel) (by decide +kernel), zmem 541 (by decide +kernel) (by decide +kernel)⟩, zmem 42 (by decide +kernel) (by decide +kernel), by decide +kernel, by decide +kernel, by decide +kernel⟩
theorem cs_X6_takeOff : zCv yX6_takeOff cX6_takeOff 8 (some .int) 3 := ⟨zmem 572 (by decide +kernel) (by decide +kernel), ⟨zmem 571 (by decide +kernel) (by decide +kernel), zmem 18 (by decide +kernel) (by decide +kernel)⟩, zmem 42 (by decide +kernel) (by decide +kernel), by decide +kernel, by decide +kernel, by decide +kernel⟩
theorem cs_X6_told : zCv yX6_told cX6_told 5 (some .int) 2 := ⟨zmem 305 (by decide +kernel) (by decide +kernel), ⟨zmem 303 (by decide +kernel) (by decide +kernel), zmem 304 (by decide +kernel) (by decide +kernel)⟩, zmem 42 (by decide +kernel) (by decide +kernel), by decide +kernel, by decide +kernel, by decide +kernel⟩
theorem cs_X6_turn : zCv yX6_turn cX6_turn 4 (some .int) 2 := ⟨zmem 549 (by decide +kernel) (by decide +kernel), ⟨zmem 547 (by decide +kernel) (by decide +kernel), zmem 548 (by decide +kernel) (by decide +kernel)⟩, zmem 42 (by decide +kernel) (by decide +kernel), by decide +kernel, by decide +kernel, by decide +kernel⟩
theorem cs_X6_turnInto : zCs yX6_turnInto cX6_turnInto 9 (none) 3 := ⟨zmem 552 (by decide +kernel) (by decide +kernel), zmem 551 (by decide +kernel) (by decide +kernel), zmem 42 (by decide +kernel) (by decide +kernel), by decide +kernel, by decide +kernel, by decide +kernel⟩
theorem cs_X6_wipe : zCv yX6_wipe cX6_wipe 2 (some .int) 0 := ⟨zmem 259 (by decide +kernel) (by decide +kernel), ⟨zmem 257 (by decide +kernel) (by decide +kernel), zmem 258 (by decide +kernel) (by decide +kernel)⟩, zmem 42 (by decide +kernel) (by decide +kernel), by decide +kernel, by decide +kernel, by decide +kernel⟩
theorem cs_X6_within : zCs yX6_within cX6_within 3 (some .boolean) 3 := ⟨zmem 216 (by decide +kernel) (by decide +kernel), zmem 215 (by decide +kernel) (by decide +kernel), zmem 42 (by decide +kernel) (by decide +kernel), by decide +kernel, by decide +kernel, by decide +kernel⟩
theorem cs_X6_write : zCv yX6_write cX6_write 5 (some .int) 2 := ⟨zmem 242 (by decide +kernel) (by decide +kernel), ⟨zmem 240 (by decide +kernel) (by decide +kernel), zmem 241 (by decide +kernel) (by decide +kernel)⟩, zmem 42 (by decide +kernel) (by decide +kernel), by decide +kernel, by decide +kernel, by decide +kernel⟩
theorem cs_X7_among : zCv yX7_among cX7_among 6 (some .int) 1 := ⟨zmem 921 (by decide +kernel) (by decide +kernel), ⟨zmem 919 (by decide +kernel) (by decide +kernel), zmem 920 (by decide +kernel) (by decide +kernel)⟩, zmem 49 (by decide +kernel) (by decide +kernel), by decide +kernel, by decide +kernel, by decide +kernel⟩
theorem cs_X7_are : zCv yX7_are cX7_are 4 (some .boolean) 3 := ⟨zmem 774 (by decide +kernel) (by decide +kernel), ⟨zmem 773 (by decide +kernel) (by decide +kernel), zmem 24 (by decide +kernel) (by decide +kernel)⟩, zmem 49 (by decide +kernel) (by decide +kernel), by decide +kernel, by decide +kernel, by decide +kernel⟩
theorem cs_X7_at : zCv yX7_at cX7_at 3 (some .int) 2 := ⟨zmem 759 (by decide +kernel) (by decide +kernel), ⟨zmem 758 (by decide +kernel) (by decide +kernel), zmem 23 (by decide +kernel) (by decide +kernel)⟩, zmem 49 (by decide +kernel) (by decide +kernel), by decide +kernel, by decide +kernel, by decide +kernel⟩
theorem cs_X7_becomes : zCv yX7_becomes cX7_becomes 7 (some .int) 5 := ⟨zmem 825 (by decide +kernel) (by decide +kernel), ⟨zmem 824 (by decide +kernel) (by decide +kernel), zmem 32 (by decide +kernel) (by decide +kernel)⟩, zmem 49 (by decide +kernel) (by decide +kernel), by decide +kernel, by decide +kernel, by decide +kernel⟩
theorem cs_X7_code : zCv yX7_code cX7_code 5 (some .long) 1 := ⟨zmem 890 (by decide +kernel) (by decide +kernel), ⟨zmem 889 (by decide +kernel) (by decide +kernel), zmem 38 (by decide +kernel) (by decide +kernel)⟩, zmem 49 (by decide +kernel) (by decide +kernel), by decide +kernel, by decide +kernel, by decide +kernel⟩
theorem cs_X7_corner : zCv yX7_corner cX7_corner 12 (some .int) 3 := ⟨zmem 894 (by decide +kernel) (by decide +kernel), ⟨zmem 892 (by decide +kernel) (by decide +kernel), zmem 893 (by decide +kernel) (by decide +kernel)⟩, zmem 49 (by decide +kernel) (by decide +kernel), by decide +kernel, by decide +kernel, by decide +kernel⟩
theorem cs_X7_count : zCv yX7_count cX7_count 6 (some .int) 1 := ⟨zmem 925 (by decide +kernel) (by decide +kernel), ⟨zmem 923 (by decide +kernel) (by decide +kernel), zmem 924 (by decide +kernel) (by decide +kernel)⟩, zmem 49 (by decide +kernel) (by decide +kernel), by decide +kernel, by decide +kernel, by decide +kernel⟩
theorem cs_X7_difference : zCv yX7_difference cX7_difference 5 (some .int) 4 := ⟨zmem 769 (by decide +kernel) (by decide +kernel), ⟨zmem 767 (by decide +kernel) (by decide +kernel), zmem 768 (by decide +kernel) (by decide +kernel)⟩, zmem 49 (by decide +kernel) (by decide +kernel), by decide +kernel, by decide +kernel, by decide +kernel⟩
theorem cs_X7_fault : zCv yX7_fault cX7_fault 5 (some .int) 0 := ⟨zmem 742 (by decide +kernel) (by decide +kernel), ⟨zmem 740 (by decide +kernel) (by decide +kernel), zmem 741 (by decide +kernel) (by decide +kernel)⟩, zmem 49 (by decide +kernel) (by decide +kernel), by decide +kernel, by decide +kernel, by decide +kernel⟩
theorem cs_X7_finds : zCv yX7_finds cX7_finds 6 (none) 1 := ⟨zmem 917 (by decide +kernel) (by decide +kernel), ⟨zmem 916 (by decide +kernel) (by decide +kernel), zmem 40 (by decide +kernel) (by decide +kernel)⟩, zmem 49 (by decide +kernel) (by decide +kernel), by decide +kernel, by decide +kernel, by decide +kernel⟩
theorem cs_X7_found : zCv yX7_found cX7_found 3 (some .int) 2 := ⟨zmem 913 (by decide +kernel) (by decide +kernel), ⟨zmem 911 (by decide +kernel) (by decide +kernel), zmem 912 (by decide +kernel) (by decide +kernel)⟩, zmem 49 (by decide +kernel) (by decide +kernel), by decide +kernel, by decide +kernel, by decide +kernel⟩
theorem cs_X7_hear : zCv yX7_hear cX7_hear 3 (some .int) 2 := ⟨zmem 898 (by decide +kernel) (by decide +kernel), ⟨zmem 896 (by decide +kernel) (by decide +kernel), zmem 897 (by decide +kernel) (by decide +kernel)⟩, zmem 49 (by decide +kernel) (by decide +kernel), by decide +kernel, by decide +kernel, by decide +kernel⟩
theorem cs_X7_hits : zCv yX7_hits cX7_hits 6 (some .int) 5 := ⟨zmem 787 (by decide +kernel) (by decide +kernel), ⟨zmem 785 (by decide +kernel) (by decide +kernel), zmem 786 (by decide +kernel) (by decide +kernel)⟩, zmem 49 (by decide +kernel) (by decide +kernel), by decide +kernel, by decide +kernel, by decide +kernel⟩
theorem cs_X7_hitsOf : zCv yX7_hitsOf cX7_hitsOf 8 (some .int) 4 := ⟨zmem 796 (by decide +kernel) (by decide +kernel), ⟨zmem 795 (by decide +kernel) (by decide +kernel), zmem 27 (by decide +kernel) (by decide +kernel)⟩, zmem 49 (by decide +kernel) (by decide +kernel), by decide +kernel, by decide +kernel, by decide +kernel⟩
theorem cs_X7_holding : zCv yX7_holding cX7_holding 5 (some .int) 3 := ⟨zmem 829 (by decide +kernel) (by decide +kernel), ⟨zmem 827 (by decide +kernel) (by decide +kernel), zmem 828 (by decide +kernel) (by decide +kernel)⟩, zmem 49 (by decide +kernel) (by decide +kernel), by decide +kernel, by decide +kernel, by decide +kernel⟩
theorem cs_X7_in : zCs yX7_in cX7_in 6 (some .boolean) 3 := ⟨zmem 727 (by decide +kernel) (by decide +kernel), zmem 726 (by decide +kernel) (by decide +kernel), zmem 49 (by decide +kernel) (by decide +kernel), by decide +kernel, by decide +kernel, by decide +kernel⟩
theorem cs_X7_isHeard : zCv yX7_isHeard cX7_isHeard 5 (some .boolean) 2 := ⟨zmem 905 (by decide +kernel) (by decide +kernel), ⟨zmem 904 (by decide +kernel) (by decide +kernel), zmem 39 (by decide +kernel) (by decide +kernel)⟩, zmem 49 (by decide +kernel) (by decide +kernel), by decide +kernel, by decide +kernel, by decide +kernel⟩
theorem cs_X7_isLean : zCv yX7_isLean cX7_isLean 8 (some .boolean) 3 := ⟨zmem 821 (by decide +kernel) (by decide +kernel), ⟨zmem 820 (by decide +kernel) (by decide +kernel), zmem 31 (by decide +kernel) (by decide +kernel)⟩, zmem 49 (by decide +kernel) (by decide +kernel), by decide +kernel, by decide +kernel, by decide +kernel⟩
theorem cs_X7_isPrime : zCs yX7_isPrime cX7_isPrime 1 (some .boolean) 1 := ⟨zmem 858 (by decide +kernel) (by decide +kernel), zmem 857 (by decide +kernel) (by decide +kernel), zmem 49 (by decide +kernel) (by decide +kernel), by decide +kernel, by decide +kernel, by decide +kernel⟩
theorem cs_X7_isRow : zCs yX7_isRow cX7_isRow 1 (some .boolean) 1 := ⟨zmem 723 (by decide +kernel) (by decide +kernel), zmem 722 (by decide +kernel) (by decide +kernel), zmem 49 (by decide +kernel) (by decide +kernel), by decide +kernel, by decide +kernel, by decide +kernel⟩
theorem cs_X7_isSquare : zCv yX7_isSquare cX7_isSquare 4 (some .boolean) 1 := ⟨zmem 878 (by decide +kernel) (by decide +kernel), ⟨zmem 877 (by decide +kernel) (by decide +kernel), zmem 36 (by decide +kernel) (by decide +kernel)⟩, zmem 49 (by decide +kernel) (by decide +kernel), by decide +kernel, by decide +kernel, by decide +kernel⟩
theorem cs_X7_isUnlike : zCv yX7_isUnlike cX7_isUnlike 4 (some .boolean) 1 := ⟨zmem 817 (by decide +kernel) (by decide +kernel), ⟨zmem 816 (by decide +kernel) (by decide +kernel), zmem 30 (by decide +kernel) (by decide +kernel)⟩, zmem 49 (by decide +kernel) (by decide +kernel), by decide +kernel, by decide +kernel, by decide +kernel⟩
theorem cs_X7_lay : zCv yX7_lay cX7_lay 4 (some .int) 1 := ⟨zmem 748 (by decide +kernel) (by decide +kernel), ⟨zmem 746 (by decide +kernel) (by decide +kernel), zmem 747 (by decide +kernel) (by decide +kernel)⟩, zmem 49 (by decide +kernel) (by decide +kernel), by decide +kernel, by decide +kernel, by decide +kernel⟩
theorem cs_X7_lays : zCv yX7_lays cX7_lays 9 (some .int) 6 := ⟨zmem 809 (by decide +kernel) (by decide +kernel), ⟨zmem 808 (by decide +kernel) (by decide +kernel), zmem 28 (by decide +kernel) (by decide +kernel)⟩, zmem 49 (by decide +kernel) (by decide +kernel), by decide +kernel, by decide +kernel, by decide +kernel⟩
theorem cs_X7_like : zCv yX7_like cX7_like 8 (some .int) 1 := ⟨zmem 886 (by decide +kernel) (by decide +kernel), ⟨zmem 884 (by decide +kernel) (by decide +kernel), zmem 885 (by decide +kernel) (by decide +kernel)⟩, zmem 49 (by decide +kernel) (by decide +kernel), by decide +kernel, by decide +kernel, by decide +kernel⟩
theorem cs_X7_longest : zCv yX7_longest cX7_longest 4 (some .int) 2 := ⟨zmem 846 (by decide +kernel) (by decide +kernel), ⟨zmem 844 (by decide +kernel) (by decide +kernel), zmem 845 (by decide +kernel) (by decide +kernel)⟩, zmem 49 (by decide +kernel) (by decide +kernel), by decide +kernel, by decide +kernel, by decide +kernel⟩
theorem cs_X7_made : zCv yX7_made cX7_made 4 (some .int) 2 := ⟨zmem 865 (by decide +kernel) (by decide +kernel), ⟨zmem 864 (by decide +kernel) (by decide +kernel), zmem 35 (by decide +kernel) (by decide +kernel)⟩, zmem 49 (by decide +kernel) (by decide +kernel), by decide +kernel, by decide +kernel, by decide +kernel⟩
theorem cs_X7_marks : zCv yX7_marks cX7_marks 5 (some .long) 1 := ⟨zmem 763 (by decide +kernel) (by decide +kernel), ⟨zmem 761 (by decide +kernel) (by decide +kernel), zmem 762 (by decide +kernel) (by decide +kernel)⟩, zmem 49 (by decide +kernel) (by decide +kernel), by decide +kernel, by decide +kernel, by decide +kernel⟩
theorem cs_X7_may : zCv yX7_may cX7_may 7 (some .boolean) 5 := ⟨zmem 813 (by decide +kernel) (by decide +kernel), ⟨zmem 812 (by decide +kernel) (by decide +kernel), zmem 29 (by decide +kernel) (by decide +kernel)⟩, zmem 49 (by decide +kernel) (by decide +kernel), by decide +kernel, by decide +kernel, by decide +kernel⟩
theorem cs_X7_most : zCv yX7_most cX7_most 11 (some .int) 3 := ⟨zmem 800 (by decide +kernel) (by decide +kernel), ⟨zmem 798 (by decide +kernel) (by decide +kernel), zmem 799 (by decide +kernel) (by decide +kernel)⟩, zmem 49 (by decide +kernel) (by decide +kernel), by decide +kernel, by decide +kernel, by decide +kernel⟩
theorem cs_X7_nearly : zCv yX7_nearly cX7_nearly 9 (some .int) 2 := ⟨zmem 833 (by decide +kernel) (by decide +kernel), ⟨zmem 831 (by decide +kernel) (by decide +kernel), zmem 832 (by decide +kernel) (by decide +kernel)⟩, zmem 49 (by decide +kernel) (by decide +kernel), by decide +kernel, by decide +kernel, by decide +kernel⟩
theorem cs_X7_off : zCv yX7_off cX7_off 6 (some .int) 4 := ⟨zmem 778 (by decide +kernel) (by decide +kernel), ⟨zmem 777 (by decide +kernel) (by decide +kernel), zmem 25 (by decide +kernel) (by decide +kernel)⟩, zmem 49 (by decide +kernel) (by decide +kernel), by decide +kernel, by decide +kernel, by decide +kernel⟩
theorem cs_X7_power : zCs yX7_power cX7_power 5 (some .int) 3 := ⟨zmem 861 (by decide +kernel) (by decide +kernel), zmem 860 (by decide +kernel) (by decide +kernel), zmem 49 (by decide +kernel) (by decide +kernel), by decide +kernel, by decide +kernel, by decide +kernel⟩
theorem cs_X7_powers : zCv yX7_powers cX7_powers 6 (some .int) 4 := ⟨zmem 855 (by decide +kernel) (by decide +kernel), ⟨zmem 853 (by decide +kernel) (by decide +kernel), zmem 854 (by decide +kernel) (by decide +kernel)⟩, zmem 49 (by decide +kernel) (by decide +kernel), by decide +kernel, by decide +kernel, by decide +kernel⟩
theorem cs_X7_quarrels : zCv yX7_quarrels cX7_quarrels 10 (some .int) 3 := ⟨zmem 782 (by decide +kernel) (by decide +kernel), ⟨zmem 780 (by decide +kernel) (by decide +kernel), zmem 781 (by decide +kernel) (by decide +kernel)⟩, zmem 49 (by decide +kernel) (by decide +kernel), by decide +kernel, by decide +kernel, by decide +kernel⟩
theorem cs_X7_quarrelsLaid : zCv yX7_quarrelsLaid cX7_quarrelsLaid 6 (some .int) 1 := ⟨zmem 838 (by decide +kernel) (by decide +kernel), ⟨zmem 837 (by decide +kernel) (by decide +kernel), zmem 33 (by decide +kernel) (by decide +kernel)⟩, zmem 49 (by decide +kernel) (by decide +kernel), by decide +kernel, by decide +kernel, by decide +kernel⟩
theorem cs_X7_roundOf : zCv yX7_roundOf cX7_roundOf 9 (some .int) 4 := ⟨zmem 792 (by decide +kernel) (by decide +kernel), ⟨zmem 791 (by decide +kernel) (by decide +kernel), zmem 26 (by decide +kernel) (by decide +kernel)⟩, zmem 49 (by decide +kernel) (by decide +kernel), by decide +kernel, by decide +kernel, by decide +kernel⟩
theorem cs_X7_row : zCv yX7_row cX7_row 8 (some .int) 4 := ⟨zmem 720 (by decide +kernel) (by decide +kernel), ⟨zmem 718 (by decide +kernel) (by decide +kernel), zmem 719 (by decide +kernel) (by decide +kernel)⟩, zmem 49 (by decide +kernel) (by decide +kernel), by decide +kernel, by decide +kernel, by decide +kernel⟩
theorem cs_X7_rows : zCv yX7_rows cX7_rows 6 (some .int) 5 := ⟨zmem 842 (by decide +kernel) (by decide +kernel), ⟨zmem 840 (by decide +kernel) (by decide +kernel), zmem 841 (by decide +kernel) (by decide +kernel)⟩, zmem 49 (by decide +kernel) (by decide +kernel), by decide +kernel, by decide +kernel, by decide +kernel⟩
theorem cs_X7_squares : zCv yX7_squares cX7_squares 4 (some .int) 3 := ⟨zmem 805 (by decide +kernel) (by decide +kernel), ⟨zmem 803 (by decide +kernel) (by decide +kernel), zmem 804 (by decide +kernel) (by decide +kernel)⟩, zmem 49 (by decide +kernel) (by decide +kernel), by decide +kernel, by decide +kernel, by decide +kernel⟩
theorem cs_X7_still : zCv yX7_still cX7_still 2 (some .int) 0 := ⟨zmem 909 (by decide +kernel) (by decide +kernel), ⟨zmem 907 (by decide +kernel) (by decide +kernel), zmem 908 (by decide +kernel) (by decide +kernel)⟩, zmem 49 (by decide +kernel) (by decide +kernel), by decide +kernel, by decide +kernel, by decide +kernel⟩
theorem cs_X7_sums : zCv yX7_sums cX7_sums 8 (some .int) 4 := ⟨zmem 869 (by decide +kernel) (by decide +kernel), ⟨zmem 867 (by decide +kernel) (by decide +kernel), zmem 868 (by decide +kernel) (by decide +kernel)⟩, zmem 49 (by decide +kernel) (by decide +kernel), by decide +kernel, by decide +kernel, by decide +kernel⟩
theorem cs_X7_there : zCv yX7_there cX7_there 4 (some .boolean) 3 := ⟨zmem 851 (by decide +kernel) (by decide +kernel), ⟨zmem 850 (by decide +kernel) (by decide +kernel), zmem 34 (by decide +kernel) (by decide +kernel)⟩, zmem 49 (by decide +kernel) (by decide +kernel), by decide +kernel, by decide +kernel, by decide +kernel⟩
theorem cs_X7_told : zCv yX7_told cX7_told 4 (some .int) 2 := ⟨zmem 754 (by decide +kernel) (by decide +kernel), ⟨zmem 752 (by decide +kernel) (by decide +kernel), zmem 753 (by decide +kernel) (by decide +kernel)⟩, zmem 49 (by decide +kernel) (by decide +kernel), by decide +kernel, by decide +kernel, by decide +kernel⟩
theorem cs_X7_turn : zCv yX7_turn cX7_turn 4 (some .int) 2 := ⟨zmem 873 (by decide +kernel) (by decide +kernel), ⟨zmem 871 (by decide +kernel) (by decide +kernel), zmem 872 (by decide +kernel) (by decide +kernel)⟩, zmem 49 (by decide +kernel) (by decide +kernel), by decide +kernel, by decide +kernel, by decide +kernel⟩
theorem cs_X7_turns : zCv yX7_turns cX7_turns 6 (none) 2 := ⟨zmem 882 (by decide +kernel) (by decide +kernel), ⟨zmem 881 (by decide +kernel) (by decide +kernel), zmem 37 (by decide +kernel) (by decide +kernel)⟩, zmem 49 (by decide +kernel) (by decide +kernel), by decide +kernel, by decide +kernel, by decide +kernel⟩
theorem cs_X7_wipe : zCv yX7_wipe cX7_wipe 2 (some .int) 0 := ⟨zmem 738 (by decide +kernel) (by decide +kernel), ⟨zmem 736 (by decide +kernel) (by decide +kernel), zmem 737 (by decide +kernel) (by decide +kernel)⟩, zmem 49 (by decide +kernel) (by decide +kernel), by decide +kernel, by decide +kernel, by decide +kernel⟩
theorem cs_X7_write : zCv yX7_write cX7_write 5 (some .int) 2 := ⟨zmem 733 (by decide +kernel) (by decide +kernel), ⟨zmem 731 (by decide +kernel) (by decide +kernel), zmem 732 (by decide +kernel) (by decide +kernel)⟩, zmem 49 (by decide +kernel) (by decide +kernel), by decide +kernel, by decide +kernel, by decide +kernel⟩
theorem ia_16 : zLA 16 8 := ⟨by decide, by decide, fun _ _ => rfl⟩
theorem ia_3 : zIA 3 60 := ⟨by decide, by decide, fun _ _ => rfl⟩
theorem ia_5 : zIA 5 625 := ⟨by decide, by decide, fun _ _ => rfl⟩
theorem ia_7 : zIA 7 12 := ⟨by decide, by decide, fun _ _ => rfl⟩
theorem ia_8 : zIA 8 12 := ⟨by decide, by decide, fun _ _ => rfl⟩
theorem ia_9 : zIA 9 12 := ⟨by decide, by decide, fun _ _ => rfl⟩
theorem ia_11 : zIA 11 6 := ⟨by decide, by decide, fun _ _ => rfl⟩
theorem ia_13 : zIA 13 40 := ⟨by decide, by decide, fun _ _ => rfl⟩
theorem ia_14 : zIA 14 40 := ⟨by decide, by decide, fun _ _ => rfl⟩
theorem ia_15 : zIA 15 779 := ⟨by decide, by decide, fun _ _ => rfl⟩
theorem ia_18 : zIA 18 6 := ⟨by decide, by decide, fun _ _ => rfl⟩
theorem ia_19 : zIA 19 6 := ⟨by decide, by decide, fun _ _ => rfl⟩
theorem ia_20 : zIA 20 72 := ⟨by decide, by decide, fun _ _ => rfl⟩
theorem ia_21 : zBA 21 60 := ⟨by decide, by decide, fun _ _ => rfl⟩
theorem ia_22 : zIA 22 40 := ⟨by decide, by decide, fun _ _ => rfl⟩
theorem ia_23 : zIA 23 40 := ⟨by decide, by decide, fun _ _ => rfl⟩
theorem ia_24 : zIA 24 12 := ⟨by decide, by decide, fun _ _ => rfl⟩
theorem ia_25 : zIA 25 72 := ⟨by decide, by decide, fun _ _ => rfl⟩
theorem ia_26 : zIA 26 6 := ⟨by decide, by decide, fun _ _ => rfl⟩
theorem ia_27 : zIA 27 12 := ⟨by decide, by decide, fun _ _ => rfl⟩
theorem ia_28 : zIA 28 12 := ⟨by decide, by decide, fun _ _ => rfl⟩
theorem iw_X0 : ∀ w ∈ u_ws RX0 TX0 5, w ∈ ztb := by decide +kernel
theorem iw_X1 : ∀ w ∈ u_ws RX1 TX1 4, w ∈ ztb := by decide +kernel
theorem iw_X2 : ∀ w ∈ u_ws RX2 TX2 2, w ∈ ztb := by decide +kernel
theorem iw_X3 : ∀ w ∈ u_ws RX3 TX3 3, w ∈ ztb := by decide +kernel
theorem iw_X4 : ∀ w ∈ u_ws RX4 TX4 9, w ∈ ztb := by decide +kernel
theorem iw_X5 : ∀ w ∈ u_ws RX5 TX5 2, w ∈ ztb := by decide +kernel
theorem iw_X6 : ∀ w ∈ u_ws RX6 TX6 8, w ∈ ztb := by decide +kernel
theorem iw_X7 : ∀ w ∈ u_ws RX7 TX7 18, w ∈ ztb := by decide +kernel
end
section
theorem g_X0_0 {x : Cx} {cc : ByteArray} {own : String} {ret : Option FieldType} {f L : Nat} {σ : Hp} {pc : Nat} {lv : List (Nat × Value)} {st : List Value} (C : zOk x cc own ret f L) {idx : Nat} (hlink : Cond.fieldLink own idx RX0 "column" "[I" ∈ ztb) (d : decode cc pc = .ok (.getfield idx, 3)) (k : zV x σ (pc + 3) lv (za x (13) :: st)) : zV x σ pc lv (za x 12 :: st) := z_get (j := 0) C (by decide) (fun _ _ => rfl) rfl iw_X0 (by decide) hlink rfl d k
theorem g_X0_1 {x : Cx} {cc : ByteArray} {own : String} {ret : Option FieldType} {f L : Nat} {σ : Hp} {pc : Nat} {lv : List (Nat × Value)} {st : List Value} (C : zOk x cc own ret f L) {idx : Nat} (hlink : Cond.fieldLink own idx RX0 "line" "[I" ∈ ztb) (d : decode cc pc = .ok (.getfield idx, 3)) (k : zV x σ (pc + 3) lv (za x (14) :: st)) : zV x σ pc lv (za x 12 :: st) := z_get (j := 1) C (by decide) (fun _ _ => rfl) rfl iw_X0 (by decide) hlink rfl d k
theorem g_X0_2 {x : Cx} {cc : ByteArray} {own : String} {ret : Option FieldType} {f L : Nat} {σ : Hp} {pc : Nat} {lv : List (Nat × Value)} {st : List Value} (C : zOk x cc own ret f L) {idx : Nat} (hlink : Cond.fieldLink own idx RX0 "heard" "I" ∈ ztb) (d : decode cc pc = .ok (.getfield idx, 3)) (k : zV x σ (pc + 3) lv (.int (zI (σ 12 2)) :: st)) : zV x σ pc lv (za x 12 :: st) := z_get (j := 2) C (by decide) (fun _ _ => rfl) rfl iw_X0 (by decide) hlink rfl d k
theorem p_X0_2 {x : Cx} {cc : ByteArray} {own : String} {ret : Option FieldType} {f L : Nat} {σ : Hp} {pc : Nat} {lv : List (Nat × Value)} {st : List Value} (C : zOk x cc own ret f L) {idx : Nat} {z : Int} (hlink : Cond.fieldLink own idx RX0 "heard" "I" ∈ ztb) (d : decode cc pc = .ok (.putfield idx, 3)) (k : zV x (zst σ 12 2 z) (pc + 3) lv st) : zV x σ pc lv (.int (zI z) :: za x 12 :: st) := z_put (j := 2) C (by decide) (fun _ _ => rfl) rfl iw_X0 tyX0_ok nmX0 (by decide) hlink rfl rfl rfl (fun _ _ => rfl) (fun _ _ => Nat.le_of_ble_eq_true rfl) d k
theorem g_X0_3 {x : Cx} {cc : ByteArray} {own : String} {ret : Option FieldType} {f L : Nat} {σ : Hp} {pc : Nat} {lv : List (Nat × Value)} {st : List Value} (C : zOk x cc own ret f L) {idx : Nat} (hlink : Cond.fieldLink own idx RX0 "met" "[I" ∈ ztb) (d : decode cc pc = .ok (.getfield idx, 3)) (k : zV x σ (pc + 3) lv (za x (15) :: st)) : zV x σ pc lv (za x 12 :: st) := z_get (j := 3) C (by decide) (fun _ _ => rfl) rfl iw_X0 (by decide) hlink rfl d k
theorem g_X0_4 {x : Cx} {cc : ByteArray} {own : String} {ret : Option FieldType} {f L : Nat} {σ : Hp} {pc : Nat} {lv : List (Nat × Value)} {st : List Value} (C : zOk x cc own ret f L) {idx : Nat} (hlink : Cond.fieldLink own idx RX0 "bestPlace" "I" ∈ ztb) (d : decode cc pc = .ok (.getfield idx, 3)) (k : zV x σ (pc + 3) lv (.int (zI (σ 12 4)) :: st)) : zV x σ pc lv (za x 12 :: st) := z_get (j := 4) C (by decide) (fun _ _ => rfl) rfl iw_X0 (by decide) hlink rfl d k
theorem p_X0_4 {x : Cx} {cc : ByteArray} {own : String} {ret : Option FieldType} {f L : Nat} {σ : Hp} {pc : Nat} {lv : List (Nat × Value)} {st : List Value} (C : zOk x cc own ret f L) {idx : Nat} {z : Int} (hlink : Cond.fieldLink own idx RX0 "bestPlace" "I" ∈ ztb) (d : decode cc pc = .ok (.putfield idx, 3)) (k : zV x (zst σ 12 4 z) (pc + 3) lv st) : zV x σ pc lv (.int (zI z) :: za x 12 :: st) := z_put (j := 4) C (by decide) (fun _ _ => rfl) rfl iw_X0 tyX0_ok nmX0 (by decide) hlink rfl rfl rfl (fun _ _ => rfl) (fun _ _ => Nat.le_of_ble_eq_true rfl) d k
theorem g_X1_0 {x : Cx} {cc : ByteArray} {own : String} {ret : Option FieldType} {f L : Nat} {σ : Hp} {pc : Nat} {lv : List (Nat × Value)} {st : List Value} (C : zOk x cc own ret f L) {idx : Nat} (hlink : Cond.fieldLink own idx RX1 "met" "[I" ∈ ztb) (d : decode cc pc = .ok (.getfield idx, 3)) (k : zV x σ (pc + 3) lv (za x (5) :: st)) : zV x σ pc lv (za x 4 :: st) := z_get (j := 0) C (by decide) (fun _ _ => rfl) rfl iw_X1 (by decide) hlink rfl d k
theorem g_X1_1 {x : Cx} {cc : ByteArray} {own : String} {ret : Option FieldType} {f L : Nat} {σ : Hp} {pc : Nat} {lv : List (Nat × Value)} {st : List Value} (C : zOk x cc own ret f L) {idx : Nat} (hlink : Cond.fieldLink own idx RX1 "best" "I" ∈ ztb) (d : decode cc pc = .ok (.getfield idx, 3)) (k : zV x σ (pc + 3) lv (.int (zI (σ 4 1)) :: st)) : zV x σ pc lv (za x 4 :: st) := z_get (j := 1) C (by decide) (fun _ _ => rfl) rfl iw_X1 (by decide) hlink rfl d k
theorem p_X1_1 {x : Cx} {cc : ByteArray} {own : String} {ret : Option FieldType} {f L : Nat} {σ : Hp} {pc : Nat} {lv : List (Nat × Value)} {st : List Value} (C : zOk x cc own ret f L) {idx : Nat} {z : Int} (hlink : Cond.fieldLink own idx RX1 "best" "I" ∈ ztb) (d : decode cc pc = .ok (.putfield idx, 3)) (k : zV x (zst σ 4 1 z) (pc + 3) lv st) : zV x σ pc lv (.int (zI z) :: za x 4 :: st) := z_put (j := 1) C (by decide) (fun _ _ => rfl) rfl iw_X1 tyX1_ok nmX1 (by decide) hlink rfl rfl rfl (fun _ _ => rfl) (fun _ _ => Nat.le_of_ble_eq_true rfl) d k
theorem g_X1_2 {x : Cx} {cc : ByteArray} {own : String} {ret : Option FieldType} {f L : Nat} {σ : Hp} {pc : Nat} {lv : List (Nat × Value)} {st : List Value} (C : zOk x cc own ret f L) {idx : Nat} (hlink : Cond.fieldLink own idx RX1 "bestPlace" "I" ∈ ztb) (d : decode cc pc = .ok (.getfield idx, 3)) (k : zV x σ (pc + 3) lv (.int (zI (σ 4 2)) :: st)) : zV x σ pc lv (za x 4 :: st) := z_get (j := 2) C (by decide) (fun _ _ => rfl) rfl iw_X1 (by decide) hlink rfl d k
theorem p_X1_2 {x : Cx} {cc : ByteArray} {own : String} {ret : Option FieldType} {f L : Nat} {σ : Hp} {pc : Nat} {lv : List (Nat × Value)} {st : List Value} (C : zOk x cc own ret f L) {idx : Nat} {z : Int} (hlink : Cond.fieldLink own idx RX1 "bestPlace" "I" ∈ ztb) (d : decode cc pc = .ok (.putfield idx, 3)) (k : zV x (zst σ 4 2 z) (pc + 3) lv st) : zV x σ pc lv (.int (zI z) :: za x 4 :: st) := z_put (j := 2) C (by decide) (fun _ _ => rfl) rfl iw_X1 tyX1_ok nmX1 (by decide) hlink rfl rfl rfl (fun _ _ => rfl) (fun _ _ => Nat.le_of_ble_eq_true rfl) d k
theorem g_X1_3 {x : Cx} {cc : ByteArray} {own : String} {ret : Option FieldType} {f L : Nat} {σ : Hp} {pc : Nat} {lv : List (Nat × Value)} {st : List Value} (C : zOk x cc own ret f L) {idx : Nat} (hlink : Cond.fieldLink own idx RX1 "squared" "I" ∈ ztb) (d : decode cc pc = .ok (.getfield idx, 3)) (k : zV x σ (pc + 3) lv (.int (zI (σ 4 3)) :: st)) : zV x σ pc lv (za x 4 :: st) := z_get (j := 3) C (by decide) (fun _ _ => rfl) rfl iw_X1 (by decide) hlink rfl d k
theorem p_X1_3 {x : Cx} {cc : ByteArray} {own : String} {ret : Option FieldType} {f L : Nat} {σ : Hp} {pc : Nat} {lv : List (Nat × Value)} {st : List Value} (C : zOk x cc own ret f L) {idx : Nat} {z : Int} (hlink : Cond.fieldLink own idx RX1 "squared" "I" ∈ ztb) (d : decode cc pc = .ok (.putfield idx, 3)) (k : zV x (zst σ 4 3 z) (pc + 3) lv st) : zV x σ pc lv (.int (zI z) :: za x 4 :: st) := z_put (j := 3) C (by decide) (fun _ _ => rfl) rfl iw_X1 tyX1_ok nmX1 (by decide) hlink rfl rfl rfl (fun _ _ => rfl) (fun _ _ => Nat.le_of_ble_eq_true rfl) d k
theorem g_X2_0 {x : Cx} {cc : ByteArray} {own : String} {ret : Option FieldType} {f L : Nat} {σ : Hp} {pc : Nat} {lv : List (Nat × Value)} {st : List Value} (C : zOk x cc own ret f L) {idx : Nat} (hlink : Cond.fieldLink own idx RX2 "line" "[I" ∈ ztb) (d : decode cc pc = .ok (.getfield idx, 3)) (k : zV x σ (pc + 3) lv (za x (11) :: st)) : zV x σ pc lv (za x 10 :: st) := z_get (j := 0) C (by decide) (fun _ _ => rfl) rfl iw_X2 (by decide) hlink rfl d k
theorem g_X2_1 {x : Cx} {cc : ByteArray} {own : String} {ret : Option FieldType} {f L : Nat} {σ : Hp} {pc : Nat} {lv : List (Nat × Value)} {st : List Value} (C : zOk x cc own ret f L) {idx : Nat} (hlink : Cond.fieldLink own idx RX2 "columns" "I" ∈ ztb) (d : decode cc pc = .ok (.getfield idx, 3)) (k : zV x σ (pc + 3) lv (.int (zI (σ 10 1)) :: st)) : zV x σ pc lv (za x 10 :: st) := z_get (j := 1) C (by decide) (fun _ _ => rfl) rfl iw_X2 (by decide) hlink rfl d k
theorem p_X2_1 {x : Cx} {cc : ByteArray} {own : String} {ret : Option FieldType} {f L : Nat} {σ : Hp} {pc : Nat} {lv : List (Nat × Value)} {st : List Value} (C : zOk x cc own ret f L) {idx : Nat} {z : Int} (hlink : Cond.fieldLink own idx RX2 "columns" "I" ∈ ztb) (d : decode cc pc = .ok (.putfield idx, 3)) (k : zV x (zst σ 10 1 z) (pc + 3) lv st) : zV x σ pc lv (.int (zI z) :: za x 10 :: st) := z_put (j := 1) C (by decide) (fun _ _ => rfl) rfl iw_X2 tyX2_ok nmX2 (by decide) hlink rfl rfl rfl (fun _ _ => rfl) (fun _ _ => Nat.le_of_ble_eq_true rfl) d k
theorem g_X3_0 {x : Cx} {cc : ByteArray} {own : String} {ret : Option FieldType} {f L : Nat} {σ : Hp} {pc : Nat} {lv : List (Nat × Value)} {st : List Value} (C : zOk x cc own ret f L) {r : Nat} (hr : r < 7) {idx : Nat} (hlink : Cond.fieldLink own idx RX3 "columns" "I" ∈ ztb) (d : decode cc pc = .ok (.getfield idx, 3)) (k : zV x σ (pc + 3) lv (.int (zI (σ (29 + r) 0)) :: st)) : zV x σ pc lv (za x (29 + r) :: st) := z_get (j := 0) C (by omega) (zcell_row hr) rfl iw_X3 (by decide) hlink rfl d k
theorem p_X3_0 {x : Cx} {cc : ByteArray} {own : String} {ret : Option FieldType} {f L : Nat} {σ : Hp} {pc : Nat} {lv : List (Nat × Value)} {st : List Value} (C : zOk x cc own ret f L) {r : Nat} (hr : r < 7) {idx : Nat} {z : Int} (hlink : Cond.fieldLink own idx RX3 "columns" "I" ∈ ztb) (d : decode cc pc = .ok (.putfield idx, 3)) (k : zV x (zst σ (29 + r) 0 z) (pc + 3) lv st) : zV x σ pc lv (.int (zI z) :: za x (29 + r) :: st) := z_put (j := 0) C (by omega) (zcell_row hr) rfl iw_X3 tyX3_ok nmX3 (by decide) hlink rfl rfl rfl (fun _ _ => rfl) (fun _ _ => Nat.le_of_ble_eq_true rfl) d k
theorem g_X3_1 {x : Cx} {cc : ByteArray} {own : String} {ret : Option FieldType} {f L : Nat} {σ : Hp} {pc : Nat} {lv : List (Nat × Value)} {st : List Value} (C : zOk x cc own ret f L) {r : Nat} (hr : r < 7) {idx : Nat} (hlink : Cond.fieldLink own idx RX3 "lines" "I" ∈ ztb) (d : decode cc pc = .ok (.getfield idx, 3)) (k : zV x σ (pc + 3) lv (.int (zI (σ (29 + r) 1)) :: st)) : zV x σ pc lv (za x (29 + r) :: st) := z_get (j := 1) C (by omega) (zcell_row hr) rfl iw_X3 (by decide) hlink rfl d k
theorem p_X3_1 {x : Cx} {cc : ByteArray} {own : String} {ret : Option FieldType} {f L : Nat} {σ : Hp} {pc : Nat} {lv : List (Nat × Value)} {st : List Value} (C : zOk x cc own ret f L) {r : Nat} (hr : r < 7) {idx : Nat} {z : Int} (hlink : Cond.fieldLink own idx RX3 "lines" "I" ∈ ztb) (d : decode cc pc = .ok (.putfield idx, 3)) (k : zV x (zst σ (29 + r) 1 z) (pc + 3) lv st) : zV x σ pc lv (.int (zI z) :: za x (29 + r) :: st) := z_put (j := 1) C (by omega) (zcell_row hr) rfl iw_X3 tyX3_ok nmX3 (by decide) hlink rfl rfl rfl (fun _ _ => rfl) (fun _ _ => Nat.le_of_ble_eq_true rfl) d k
theorem g_X3_2 {x : Cx} {cc : ByteArray} {own : String} {ret : Option FieldType} {f L : Nat} {σ : Hp} {pc : Nat} {lv : List (Nat × Value)} {st : List Value} (C : zOk x cc own ret f L) {r : Nat} (hr : r < 7) {idx : Nat} (hlink : Cond.fieldLink own idx RX3 "line" "[I" ∈ ztb) (d : decode cc pc = .ok (.getfield idx, 3)) (k : zV x σ (pc + 3) lv (za x (36 + r) :: st)) : zV x σ pc lv (za x (29 + r) :: st) := z_get (j := 2) C (by omega) (zcell_row hr) rfl iw_X3 (by decide) hlink rfl d k
theorem g_X4_0 {x : Cx} {cc : ByteArray} {own : String} {ret : Option FieldType} {f L : Nat} {σ : Hp} {pc : Nat} {lv : List (Nat × Value)} {st : List Value} (C : zOk x cc own ret f L) {idx : Nat} (hlink : Cond.fieldLink own idx RX4 "line" "[I" ∈ ztb) (d : decode cc pc = .ok (.getfield idx, 3)) (k : zV x σ (pc + 3) lv (za x (7) :: st)) : zV x σ pc lv (za x 6 :: st) := z_get (j := 0) C (by decide) (fun _ _ => rfl) rfl iw_X4 (by decide) hlink rfl d k
theorem g_X4_1 {x : Cx} {cc : ByteArray} {own : String} {ret : Option FieldType} {f L : Nat} {σ : Hp} {pc : Nat} {lv : List (Nat × Value)} {st : List Value} (C : zOk x cc own ret f L) {idx : Nat} (hlink : Cond.fieldLink own idx RX4 "standing" "[I" ∈ ztb) (d : decode cc pc = .ok (.getfield idx, 3)) (k : zV x σ (pc + 3) lv (za x (8) :: st)) : zV x σ pc lv (za x 6 :: st) := z_get (j := 1) C (by decide) (fun _ _ => rfl) rfl iw_X4 (by decide) hlink rfl d k
theorem g_X4_2 {x : Cx} {cc : ByteArray} {own : String} {ret : Option FieldType} {f L : Nat} {σ : Hp} {pc : Nat} {lv : List (Nat × Value)} {st : List Value} (C : zOk x cc own ret f L) {idx : Nat} (hlink : Cond.fieldLink own idx RX4 "allowed" "[I" ∈ ztb) (d : decode cc pc = .ok (.getfield idx, 3)) (k : zV x σ (pc + 3) lv (za x (9) :: st)) : zV x σ pc lv (za x 6 :: st) := z_get (j := 2) C (by decide) (fun _ _ => rfl) rfl iw_X4 (by decide) hlink rfl d k
theorem g_X4_3 {x : Cx} {cc : ByteArray} {own : String} {ret : Option FieldType} {f L : Nat} {σ : Hp} {pc : Nat} {lv : List (Nat × Value)} {st : List Value} (C : zOk x cc own ret f L) {idx : Nat} (hlink : Cond.fieldLink own idx RX4 "columns" "I" ∈ ztb) (d : decode cc pc = .ok (.getfield idx, 3)) (k : zV x σ (pc + 3) lv (.int (zI (σ 6 3)) :: st)) : zV x σ pc lv (za x 6 :: st) := z_get (j := 3) C (by decide) (fun _ _ => rfl) rfl iw_X4 (by decide) hlink rfl d k
theorem p_X4_3 {x : Cx} {cc : ByteArray} {own : String} {ret : Option FieldType} {f L : Nat} {σ : Hp} {pc : Nat} {lv : List (Nat × Value)} {st : List Value} (C : zOk x cc own ret f L) {idx : Nat} {z : Int} (hlink : Cond.fieldLink own idx RX4 "columns" "I" ∈ ztb) (d : decode cc pc = .ok (.putfield idx, 3)) (k : zV x (zst σ 6 3 z) (pc + 3) lv st) : zV x σ pc lv (.int (zI z) :: za x 6 :: st) := z_put (j := 3) C (by decide) (fun _ _ => rfl) rfl iw_X4 tyX4_ok nmX4 (by decide) hlink rfl rfl rfl (fun _ _ => rfl) (fun _ _ => Nat.le_of_ble_eq_true rfl) d k
theorem g_X4_4 {x : Cx} {cc : ByteArray} {own : String} {ret : Option FieldType} {f L : Nat} {σ : Hp} {pc : Nat} {lv : List (Nat × Value)} {st : List Value} (C : zOk x cc own ret f L) {idx : Nat} (hlink : Cond.fieldLink own idx RX4 "lines" "I" ∈ ztb) (d : decode cc pc = .ok (.getfield idx, 3)) (k : zV x σ (pc + 3) lv (.int (zI (σ 6 4)) :: st)) : zV x σ pc lv (za x 6 :: st) := z_get (j := 4) C (by decide) (fun _ _ => rfl) rfl iw_X4 (by decide) hlink rfl d k
theorem p_X4_4 {x : Cx} {cc : ByteArray} {own : String} {ret : Option FieldType} {f L : Nat} {σ : Hp} {pc : Nat} {lv : List (Nat × Value)} {st : List Value} (C : zOk x cc own ret f L) {idx : Nat} {z : Int} (hlink : Cond.fieldLink own idx RX4 "lines" "I" ∈ ztb) (d : decode cc pc = .ok (.putfield idx, 3)) (k : zV x (zst σ 6 4 z) (pc + 3) lv st) : zV x σ pc lv (.int (zI z) :: za x 6 :: st) := z_put (j := 4) C (by decide) (fun _ _ => rfl) rfl iw_X4 tyX4_ok nmX4 (by decide) hlink rfl rfl rfl (fun _ _ => rfl) (fun _ _ => Nat.le_of_ble_eq_true rfl) d k
theorem g_X4_5 {x : Cx} {cc : ByteArray} {own : String} {ret : Option FieldType} {f L : Nat} {σ : Hp} {pc : Nat} {lv : List (Nat × Value)} {st : List Value} (C : zOk x cc own ret f L) {idx : Nat} (hlink : Cond.fieldLink own idx RX4 "kind" "I" ∈ ztb) (d : decode cc pc = .ok (.getfield idx, 3)) (k : zV x σ (pc + 3) lv (.int (zI (σ 6 5)) :: st)) : zV x σ pc lv (za x 6 :: st) := z_get (j := 5) C (by decide) (fun _ _ => rfl) rfl iw_X4 (by decide) hlink rfl d k
theorem p_X4_5 {x : Cx} {cc : ByteArray} {own : String} {ret : Option FieldType} {f L : Nat} {σ : Hp} {pc : Nat} {lv : List (Nat × Value)} {st : List Value} (C : zOk x cc own ret f L) {idx : Nat} {z : Int} (hlink : Cond.fieldLink own idx RX4 "kind" "I" ∈ ztb) (d : decode cc pc = .ok (.putfield idx, 3)) (k : zV x (zst σ 6 5 z) (pc + 3) lv st) : zV x σ pc lv (.int (zI z) :: za x 6 :: st) := z_put (j := 5) C (by decide) (fun _ _ => rfl) rfl iw_X4 tyX4_ok nmX4 (by decide) hlink rfl rfl rfl (fun _ _ => rfl) (fun _ _ => Nat.le_of_ble_eq_true rfl) d k
theorem g_X4_6 {x : Cx} {cc : ByteArray} {own : String} {ret : Option FieldType} {f L : Nat} {σ : Hp} {pc : Nat} {lv : List (Nat × Value)} {st : List Value} (C : zOk x cc own ret f L) {idx : Nat} (hlink : Cond.fieldLink own idx RX4 "onePerLine" "Z" ∈ ztb) (d : decode cc pc = .ok (.getfield idx, 3)) (k : zV x σ (pc + 3) lv (.int (zI (σ 6 6)) :: st)) : zV x σ pc lv (za x 6 :: st) := z_get (j := 6) C (by decide) (fun _ _ => rfl) rfl iw_X4 (by decide) hlink rfl d k
theorem p_X4_6 {x : Cx} {cc : ByteArray} {own : String} {ret : Option FieldType} {f L : Nat} {σ : Hp} {pc : Nat} {lv : List (Nat × Value)} {st : List Value} (C : zOk x cc own ret f L) {idx : Nat} {z : Int} (hb : z = 0 ∨ z = 1) (hlink : Cond.fieldLink own idx RX4 "onePerLine" "Z" ∈ ztb) (d : decode cc pc = .ok (.putfield idx, 3)) (k : zV x (zst σ 6 6 z) (pc + 3) lv st) : zV x σ pc lv (.int (zI z) :: za x 6 :: st) := z_put (j := 6) C (by decide) (fun _ _ => rfl) rfl iw_X4 tyX4_ok nmX4 (by decide) hlink rfl (znarb hb) (by rcases hb with rfl | rfl <;> rfl) (fun _ _ => rfl) (fun _ _ => Nat.le_of_ble_eq_true rfl) d k
theorem g_X4_7 {x : Cx} {cc : ByteArray} {own : String} {ret : Option FieldType} {f L : Nat} {σ : Hp} {pc : Nat} {lv : List (Nat × Value)} {st : List Value} (C : zOk x cc own ret f L) {idx : Nat} (hlink : Cond.fieldLink own idx RX4 "wanted" "I" ∈ ztb) (d : decode cc pc = .ok (.getfield idx, 3)) (k : zV x σ (pc + 3) lv (.int (zI (σ 6 7)) :: st)) : zV x σ pc lv (za x 6 :: st) := z_get (j := 7) C (by decide) (fun _ _ => rfl) rfl iw_X4 (by decide) hlink rfl d k
theorem p_X4_7 {x : Cx} {cc : ByteArray} {own : String} {ret : Option FieldType} {f L : Nat} {σ : Hp} {pc : Nat} {lv : List (Nat × Value)} {st : List Value} (C : zOk x cc own ret f L) {idx : Nat} {z : Int} (hlink : Cond.fieldLink own idx RX4 "wanted" "I" ∈ ztb) (d : decode cc pc = .ok (.putfield idx, 3)) (k : zV x (zst σ 6 7 z) (pc + 3) lv st) : zV x σ pc lv (.int (zI z) :: za x 6 :: st) := z_put (j := 7) C (by decide) (fun _ _ => rfl) rfl iw_X4 tyX4_ok nmX4 (by decide) hlink rfl rfl rfl (fun _ _ => rfl) (fun _ _ => Nat.le_of_ble_eq_true rfl) d k
theorem g_X4_8 {x : Cx} {cc : ByteArray} {own : String} {ret : Option FieldType} {f L : Nat} {σ : Hp} {pc : Nat} {lv : List (Nat × Value)} {st : List Value} (C : zOk x cc own ret f L) {idx : Nat} (hlink : Cond.fieldLink own idx RX4 "passed" "I" ∈ ztb) (d : decode cc pc = .ok (.getfield idx, 3)) (k : zV x σ (pc + 3) lv (.int (zI (σ 6 8)) :: st)) : zV x σ pc lv (za x 6 :: st) := z_get (j := 8) C (by decide) (fun _ _ => rfl) rfl iw_X4 (by decide) hlink rfl d k
theorem p_X4_8 {x : Cx} {cc : ByteArray} {own : String} {ret : Option FieldType} {f L : Nat} {σ : Hp} {pc : Nat} {lv : List (Nat × Value)} {st : List Value} (C : zOk x cc own ret f L) {idx : Nat} {z : Int} (hlink : Cond.fieldLink own idx RX4 "passed" "I" ∈ ztb) (d : decode cc pc = .ok (.putfield idx, 3)) (k : zV x (zst σ 6 8 z) (pc + 3) lv st) : zV x σ pc lv (.int (zI z) :: za x 6 :: st) := z_put (j := 8) C (by decide) (fun _ _ => rfl) rfl iw_X4 tyX4_ok nmX4 (by decide) hlink rfl rfl rfl (fun _ _ => rfl) (fun _ _ => Nat.le_of_ble_eq_true rfl) d k
theorem g_X5_0 {x : Cx} {cc : ByteArray} {own : String} {ret : Option FieldType} {f L : Nat} {σ : Hp} {pc : Nat} {lv : List (Nat × Value)} {st : List Value} (C : zOk x cc own ret f L) {idx : Nat} (hlink : Cond.fieldLink own idx RX5 "bytes" "[I" ∈ ztb) (d : decode cc pc = .ok (.getfield idx, 3)) (k : zV x σ (pc + 3) lv (za x (3) :: st)) : zV x σ pc lv (za x 2 :: st) := z_get (j := 0) C (by decide) (fun _ _ => rfl) rfl iw_X5 (by decide) hlink rfl d k
theorem g_X5_1 {x : Cx} {cc : ByteArray} {own : String} {ret : Option FieldType} {f L : Nat} {σ : Hp} {pc : Nat} {lv : List (Nat × Value)} {st : List Value} (C : zOk x cc own ret f L) {idx : Nat} (hlink : Cond.fieldLink own idx RX5 "length" "I" ∈ ztb) (d : decode cc pc = .ok (.getfield idx, 3)) (k : zV x σ (pc + 3) lv (.int (zI (σ 2 1)) :: st)) : zV x σ pc lv (za x 2 :: st) := z_get (j := 1) C (by decide) (fun _ _ => rfl) rfl iw_X5 (by decide) hlink rfl d k
theorem p_X5_1 {x : Cx} {cc : ByteArray} {own : String} {ret : Option FieldType} {f L : Nat} {σ : Hp} {pc : Nat} {lv : List (Nat × Value)} {st : List Value} (C : zOk x cc own ret f L) {idx : Nat} {z : Int} (hlink : Cond.fieldLink own idx RX5 "length" "I" ∈ ztb) (d : decode cc pc = .ok (.putfield idx, 3)) (k : zV x (zst σ 2 1 z) (pc + 3) lv st) : zV x σ pc lv (.int (zI z) :: za x 2 :: st) := z_put (j := 1) C (by decide) (fun _ _ => rfl) rfl iw_X5 tyX5_ok nmX5 (by decide) hlink rfl rfl rfl (fun _ _ => rfl) (fun _ _ => Nat.le_of_ble_eq_true rfl) d k
theorem g_X6_0 {x : Cx} {cc : ByteArray} {own : String} {ret : Option FieldType} {f L : Nat} {σ : Hp} {pc : Nat} {lv : List (Nat × Value)} {st : List Value} (C : zOk x cc own ret f L) {idx : Nat} (hlink : Cond.fieldLink own idx RX6 "table" "[LLeanMarks$Row;" ∈ ztb) (d : decode cc pc = .ok (.getfield idx, 3)) (k : zV x σ (pc + 3) lv (za x (1) :: st)) : zV x σ pc lv (za x 0 :: st) := z_get (j := 0) C (by decide) (fun _ _ => rfl) rfl iw_X6 (by decide) hlink rfl d k
theorem g_X6_1 {x : Cx} {cc : ByteArray} {own : String} {ret : Option FieldType} {f L : Nat} {σ : Hp} {pc : Nat} {lv : List (Nat × Value)} {st : List Value} (C : zOk x cc own ret f L) {idx : Nat} (hlink : Cond.fieldLink own idx RX6 "spare" "LLeanMarks$Row;" ∈ ztb) (d : decode cc pc = .ok (.getfield idx, 3)) (k : zV x σ (pc + 3) lv (za x (29 + 6) :: st)) : zV x σ pc lv (za x 0 :: st) := z_get (j := 1) C (by decide) (fun _ _ => rfl) rfl iw_X6 (by decide) hlink rfl d k
theorem g_X6_2 {x : Cx} {cc : ByteArray} {own : String} {ret : Option FieldType} {f L : Nat} {σ : Hp} {pc : Nat} {lv : List (Nat × Value)} {st : List Value} (C : zOk x cc own ret f L) {idx : Nat} (hlink : Cond.fieldLink own idx RX6 "text" "LLeanMarks$Text;" ∈ ztb) (d : decode cc pc = .ok (.getfield idx, 3)) (k : zV x σ (pc + 3) lv (za x (2) :: st)) : zV x σ pc lv (za x 0 :: st) := z_get (j := 2) C (by decide) (fun _ _ => rfl) rfl iw_X6 (by decide) hlink rfl d k
theorem g_X6_3 {x : Cx} {cc : ByteArray} {own : String} {ret : Option FieldType} {f L : Nat} {σ : Hp} {pc : Nat} {lv : List (Nat × Value)} {st : List Value} (C : zOk x cc own ret f L) {idx : Nat} (hlink : Cond.fieldLink own idx RX6 "moves" "LLeanMarks$Moves;" ∈ ztb) (d : decode cc pc = .ok (.getfield idx, 3)) (k : zV x σ (pc + 3) lv (za x (4) :: st)) : zV x σ pc lv (za x 0 :: st) := z_get (j := 3) C (by decide) (fun _ _ => rfl) rfl iw_X6 (by decide) hlink rfl d k
theorem g_X6_4 {x : Cx} {cc : ByteArray} {own : String} {ret : Option FieldType} {f L : Nat} {σ : Hp} {pc : Nat} {lv : List (Nat × Value)} {st : List Value} (C : zOk x cc own ret f L) {idx : Nat} (hlink : Cond.fieldLink own idx RX6 "search" "LLeanMarks$Search;" ∈ ztb) (d : decode cc pc = .ok (.getfield idx, 3)) (k : zV x σ (pc + 3) lv (za x (6) :: st)) : zV x σ pc lv (za x 0 :: st) := z_get (j := 4) C (by decide) (fun _ _ => rfl) rfl iw_X6 (by decide) hlink rfl d k
theorem g_X6_5 {x : Cx} {cc : ByteArray} {own : String} {ret : Option FieldType} {f L : Nat} {σ : Hp} {pc : Nat} {lv : List (Nat × Value)} {st : List Value} (C : zOk x cc own ret f L) {idx : Nat} (hlink : Cond.fieldLink own idx RX6 "permuting" "LLeanMarks$Permuting;" ∈ ztb) (d : decode cc pc = .ok (.getfield idx, 3)) (k : zV x σ (pc + 3) lv (za x (10) :: st)) : zV x σ pc lv (za x 0 :: st) := z_get (j := 5) C (by decide) (fun _ _ => rfl) rfl iw_X6 (by decide) hlink rfl d k
theorem g_X6_6 {x : Cx} {cc : ByteArray} {own : String} {ret : Option FieldType} {f L : Nat} {σ : Hp} {pc : Nat} {lv : List (Nat × Value)} {st : List Value} (C : zOk x cc own ret f L) {idx : Nat} (hlink : Cond.fieldLink own idx RX6 "echo" "LLeanMarks$Echo;" ∈ ztb) (d : decode cc pc = .ok (.getfield idx, 3)) (k : zV x σ (pc + 3) lv (za x (12) :: st)) : zV x σ pc lv (za x 0 :: st) := z_get (j := 6) C (by decide) (fun _ _ => rfl) rfl iw_X6 (by decide) hlink rfl d k
theorem g_X6_7 {x : Cx} {cc : ByteArray} {own : String} {ret : Option FieldType} {f L : Nat} {σ : Hp} {pc : Nat} {lv : List (Nat × Value)} {st : List Value} (C : zOk x cc own ret f L) {idx : Nat} (hlink : Cond.fieldLink own idx RX6 "turnings" "[J" ∈ ztb) (d : decode cc pc = .ok (.getfield idx, 3)) (k : zV x σ (pc + 3) lv (za x (16) :: st)) : zV x σ pc lv (za x 0 :: st) := z_get (j := 7) C (by decide) (fun _ _ => rfl) rfl iw_X6 (by decide) hlink rfl d k
theorem g_X7_0 {x : Cx} {cc : ByteArray} {own : String} {ret : Option FieldType} {f L : Nat} {σ : Hp} {pc : Nat} {lv : List (Nat × Value)} {st : List Value} (C : zOk x cc own ret f L) {idx : Nat} (hlink : Cond.fieldLink own idx RX7 "wide" "[I" ∈ ztb) (d : decode cc pc = .ok (.getfield idx, 3)) (k : zV x σ (pc + 3) lv (za x (18) :: st)) : zV x σ pc lv (za x 17 :: st) := z_get (j := 0) C (by decide) (fun _ _ => rfl) rfl iw_X7 (by decide) hlink rfl d k
theorem g_X7_1 {x : Cx} {cc : ByteArray} {own : String} {ret : Option FieldType} {f L : Nat} {σ : Hp} {pc : Nat} {lv : List (Nat × Value)} {st : List Value} (C : zOk x cc own ret f L) {idx : Nat} (hlink : Cond.fieldLink own idx RX7 "high" "[I" ∈ ztb) (d : decode cc pc = .ok (.getfield idx, 3)) (k : zV x σ (pc + 3) lv (za x (19) :: st)) : zV x σ pc lv (za x 17 :: st) := z_get (j := 1) C (by decide) (fun _ _ => rfl) rfl iw_X7 (by decide) hlink rfl d k
theorem g_X7_2 {x : Cx} {cc : ByteArray} {own : String} {ret : Option FieldType} {f L : Nat} {σ : Hp} {pc : Nat} {lv : List (Nat × Value)} {st : List Value} (C : zOk x cc own ret f L) {idx : Nat} (hlink : Cond.fieldLink own idx RX7 "mark" "[I" ∈ ztb) (d : decode cc pc = .ok (.getfield idx, 3)) (k : zV x σ (pc + 3) lv (za x (20) :: st)) : zV x σ pc lv (za x 17 :: st) := z_get (j := 2) C (by decide) (fun _ _ => rfl) rfl iw_X7 (by decide) hlink rfl d k
theorem g_X7_3 {x : Cx} {cc : ByteArray} {own : String} {ret : Option FieldType} {f L : Nat} {σ : Hp} {pc : Nat} {lv : List (Nat × Value)} {st : List Value} (C : zOk x cc own ret f L) {idx : Nat} (hlink : Cond.fieldLink own idx RX7 "length" "I" ∈ ztb) (d : decode cc pc = .ok (.getfield idx, 3)) (k : zV x σ (pc + 3) lv (.int (zI (σ 17 3)) :: st)) : zV x σ pc lv (za x 17 :: st) := z_get (j := 3) C (by decide) (fun _ _ => rfl) rfl iw_X7 (by decide) hlink rfl d k
theorem p_X7_3 {x : Cx} {cc : ByteArray} {own : String} {ret : Option FieldType} {f L : Nat} {σ : Hp} {pc : Nat} {lv : List (Nat × Value)} {st : List Value} (C : zOk x cc own ret f L) {idx : Nat} {z : Int} (hlink : Cond.fieldLink own idx RX7 "length" "I" ∈ ztb) (d : decode cc pc = .ok (.putfield idx, 3)) (k : zV x (zst σ 17 3 z) (pc + 3) lv st) : zV x σ pc lv (.int (zI z) :: za x 17 :: st) := z_put (j := 3) C (by decide) (fun _ _ => rfl) rfl iw_X7 tyX7_ok nmX7 (by decide) hlink rfl rfl rfl (fun _ _ => rfl) (fun _ _ => Nat.le_of_ble_eq_true rfl) d k
theorem g_X7_4 {x : Cx} {cc : ByteArray} {own : String} {ret : Option FieldType} {f L : Nat} {σ : Hp} {pc : Nat} {lv : List (Nat × Value)} {st : List Value} (C : zOk x cc own ret f L) {idx : Nat} (hlink : Cond.fieldLink own idx RX7 "text" "[B" ∈ ztb) (d : decode cc pc = .ok (.getfield idx, 3)) (k : zV x σ (pc + 3) lv (za x (21) :: st)) : zV x σ pc lv (za x 17 :: st) := z_get (j := 4) C (by decide) (fun _ _ => rfl) rfl iw_X7 (by decide) hlink rfl d k
theorem g_X7_5 {x : Cx} {cc : ByteArray} {own : String} {ret : Option FieldType} {f L : Nat} {σ : Hp} {pc : Nat} {lv : List (Nat × Value)} {st : List Value} (C : zOk x cc own ret f L) {idx : Nat} (hlink : Cond.fieldLink own idx RX7 "heard" "I" ∈ ztb) (d : decode cc pc = .ok (.getfield idx, 3)) (k : zV x σ (pc + 3) lv (.int (zI (σ 17 5)) :: st)) : zV x σ pc lv (za x 17 :: st) := z_get (j := 5) C (by decide) (fun _ _ => rfl) rfl iw_X7 (by decide) hlink rfl d k
theorem p_X7_5 {x : Cx} {cc : ByteArray} {own : String} {ret : Option FieldType} {f L : Nat} {σ : Hp} {pc : Nat} {lv : List (Nat × Value)} {st : List Value} (C : zOk x cc own ret f L) {idx : Nat} {z : Int} (hlink : Cond.fieldLink own idx RX7 "heard" "I" ∈ ztb) (d : decode cc pc = .ok (.putfield idx, 3)) (k : zV x (zst σ 17 5 z) (pc + 3) lv st) : zV x σ pc lv (.int (zI z) :: za x 17 :: st) := z_put (j := 5) C (by decide) (fun _ _ => rfl) rfl iw_X7 tyX7_ok nmX7 (by decide) hlink rfl rfl rfl (fun _ _ => rfl) (fun _ _ => Nat.le_of_ble_eq_true rfl) d k
theorem g_X7_6 {x : Cx} {cc : ByteArray} {own : String} {ret : Option FieldType} {f L : Nat} {σ : Hp} {pc : Nat} {lv : List (Nat × Value)} {st : List Value} (C : zOk x cc own ret f L) {idx : Nat} (hlink : Cond.fieldLink own idx RX7 "heardX" "[I" ∈ ztb) (d : decode cc pc = .ok (.getfield idx, 3)) (k : zV x σ (pc + 3) lv (za x (22) :: st)) : zV x σ pc lv (za x 17 :: st) := z_get (j := 6) C (by decide) (fun _ _ => rfl) rfl iw_X7 (by decide) hlink rfl d k
theorem g_X7_7 {x : Cx} {cc : ByteArray} {own : String} {ret : Option FieldType} {f L : Nat} {σ : Hp} {pc : Nat} {lv : List (Nat × Value)} {st : List Value} (C : zOk x cc own ret f L) {idx : Nat} (hlink : Cond.fieldLink own idx RX7 "heardY" "[I" ∈ ztb) (d : decode cc pc = .ok (.getfield idx, 3)) (k : zV x σ (pc + 3) lv (za x (23) :: st)) : zV x σ pc lv (za x 17 :: st) := z_get (j := 7) C (by decide) (fun _ _ => rfl) rfl iw_X7 (by decide) hlink rfl d k
theorem g_X7_8 {x : Cx} {cc : ByteArray} {own : String} {ret : Option FieldType} {f L : Nat} {σ : Hp} {pc : Nat} {lv : List (Nat × Value)} {st : List Value} (C : zOk x cc own ret f L) {idx : Nat} (hlink : Cond.fieldLink own idx RX7 "laid" "[I" ∈ ztb) (d : decode cc pc = .ok (.getfield idx, 3)) (k : zV x σ (pc + 3) lv (za x (24) :: st)) : zV x σ pc lv (za x 17 :: st) := z_get (j := 8) C (by decide) (fun _ _ => rfl) rfl iw_X7 (by decide) hlink rfl d k
theorem g_X7_9 {x : Cx} {cc : ByteArray} {own : String} {ret : Option FieldType} {f L : Nat} {σ : Hp} {pc : Nat} {lv : List (Nat × Value)} {st : List Value} (C : zOk x cc own ret f L) {idx : Nat} (hlink : Cond.fieldLink own idx RX7 "laidMany" "I" ∈ ztb) (d : decode cc pc = .ok (.getfield idx, 3)) (k : zV x σ (pc + 3) lv (.int (zI (σ 17 9)) :: st)) : zV x σ pc lv (za x 17 :: st) := z_get (j := 9) C (by decide) (fun _ _ => rfl) rfl iw_X7 (by decide) hlink rfl d k
theorem p_X7_9 {x : Cx} {cc : ByteArray} {own : String} {ret : Option FieldType} {f L : Nat} {σ : Hp} {pc : Nat} {lv : List (Nat × Value)} {st : List Value} (C : zOk x cc own ret f L) {idx : Nat} {z : Int} (hlink : Cond.fieldLink own idx RX7 "laidMany" "I" ∈ ztb) (d : decode cc pc = .ok (.putfield idx, 3)) (k : zV x (zst σ 17 9 z) (pc + 3) lv st) : zV x σ pc lv (.int (zI z) :: za x 17 :: st) := z_put (j := 9) C (by decide) (fun _ _ => rfl) rfl iw_X7 tyX7_ok nmX7 (by decide) hlink rfl rfl rfl (fun _ _ => rfl) (fun _ _ => Nat.le_of_ble_eq_true rfl) d k
theorem g_X7_10 {x : Cx} {cc : ByteArray} {own : String} {ret : Option FieldType} {f L : Nat} {σ : Hp} {pc : Nat} {lv : List (Nat × Value)} {st : List Value} (C : zOk x cc own ret f L) {idx : Nat} (hlink : Cond.fieldLink own idx RX7 "read" "[I" ∈ ztb) (d : decode cc pc = .ok (.getfield idx, 3)) (k : zV x σ (pc + 3) lv (za x (25) :: st)) : zV x σ pc lv (za x 17 :: st) := z_get (j := 10) C (by decide) (fun _ _ => rfl) rfl iw_X7 (by decide) hlink rfl d k
theorem g_X7_11 {x : Cx} {cc : ByteArray} {own : String} {ret : Option FieldType} {f L : Nat} {σ : Hp} {pc : Nat} {lv : List (Nat × Value)} {st : List Value} (C : zOk x cc own ret f L) {idx : Nat} (hlink : Cond.fieldLink own idx RX7 "readWide" "[I" ∈ ztb) (d : decode cc pc = .ok (.getfield idx, 3)) (k : zV x σ (pc + 3) lv (za x (26) :: st)) : zV x σ pc lv (za x 17 :: st) := z_get (j := 11) C (by decide) (fun _ _ => rfl) rfl iw_X7 (by decide) hlink rfl d k
theorem g_X7_12 {x : Cx} {cc : ByteArray} {own : String} {ret : Option FieldType} {f L : Nat} {σ : Hp} {pc : Nat} {lv : List (Nat × Value)} {st : List Value} (C : zOk x cc own ret f L) {idx : Nat} (hlink : Cond.fieldLink own idx RX7 "readRows" "I" ∈ ztb) (d : decode cc pc = .ok (.getfield idx, 3)) (k : zV x σ (pc + 3) lv (.int (zI (σ 17 12)) :: st)) : zV x σ pc lv (za x 17 :: st) := z_get (j := 12) C (by decide) (fun _ _ => rfl) rfl iw_X7 (by decide) hlink rfl d k
theorem p_X7_12 {x : Cx} {cc : ByteArray} {own : String} {ret : Option FieldType} {f L : Nat} {σ : Hp} {pc : Nat} {lv : List (Nat × Value)} {st : List Value} (C : zOk x cc own ret f L) {idx : Nat} {z : Int} (hlink : Cond.fieldLink own idx RX7 "readRows" "I" ∈ ztb) (d : decode cc pc = .ok (.putfield idx, 3)) (k : zV x (zst σ 17 12 z) (pc + 3) lv st) : zV x σ pc lv (.int (zI z) :: za x 17 :: st) := z_put (j := 12) C (by decide) (fun _ _ => rfl) rfl iw_X7 tyX7_ok nmX7 (by decide) hlink rfl rfl rfl (fun _ _ => rfl) (fun _ _ => Nat.le_of_ble_eq_true rfl) d k
theorem g_X7_13 {x : Cx} {cc : ByteArray} {own : String} {ret : Option FieldType} {f L : Nat} {σ : Hp} {pc : Nat} {lv : List (Nat × Value)} {st : List Value} (C : zOk x cc own ret f L) {idx : Nat} (hlink : Cond.fieldLink own idx RX7 "turned" "[I" ∈ ztb) (d : decode cc pc = .ok (.getfield idx, 3)) (k : zV x σ (pc + 3) lv (za x (27) :: st)) : zV x σ pc lv (za x 17 :: st) := z_get (j := 13) C (by decide) (fun _ _ => rfl) rfl iw_X7 (by decide) hlink rfl d k
theorem g_X7_14 {x : Cx} {cc : ByteArray} {own : String} {ret : Option FieldType} {f L : Nat} {σ : Hp} {pc : Nat} {lv : List (Nat × Value)} {st : List Value} (C : zOk x cc own ret f L) {idx : Nat} (hlink : Cond.fieldLink own idx RX7 "next" "[I" ∈ ztb) (d : decode cc pc = .ok (.getfield idx, 3)) (k : zV x σ (pc + 3) lv (za x (28) :: st)) : zV x σ pc lv (za x 17 :: st) := z_get (j := 14) C (by decide) (fun _ _ => rfl) rfl iw_X7 (by decide) hlink rfl d k
theorem g_X7_15 {x : Cx} {cc : ByteArray} {own : String} {ret : Option FieldType} {f L : Nat} {σ : Hp} {pc : Nat} {lv : List (Nat × Value)} {st : List Value} (C : zOk x cc own ret f L) {idx : Nat} (hlink : Cond.fieldLink own idx RX7 "foundMany" "I" ∈ ztb) (d : decode cc pc = .ok (.getfield idx, 3)) (k : zV x σ (pc + 3) lv (.int (zI (σ 17 15)) :: st)) : zV x σ pc lv (za x 17 :: st) := z_get (j := 15) C (by decide) (fun _ _ => rfl) rfl iw_X7 (by decide) hlink rfl d k
theorem p_X7_15 {x : Cx} {cc : ByteArray} {own : String} {ret : Option FieldType} {f L : Nat} {σ : Hp} {pc : Nat} {lv : List (Nat × Value)} {st : List Value} (C : zOk x cc own ret f L) {idx : Nat} {z : Int} (hlink : Cond.fieldLink own idx RX7 "foundMany" "I" ∈ ztb) (d : decode cc pc = .ok (.putfield idx, 3)) (k : zV x (zst σ 17 15 z) (pc + 3) lv st) : zV x σ pc lv (.int (zI z) :: za x 17 :: st) := z_put (j := 15) C (by decide) (fun _ _ => rfl) rfl iw_X7 tyX7_ok nmX7 (by decide) hlink rfl rfl rfl (fun _ _ => rfl) (fun _ _ => Nat.le_of_ble_eq_true rfl) d k
theorem g_X7_16 {x : Cx} {cc : ByteArray} {own : String} {ret : Option FieldType} {f L : Nat} {σ : Hp} {pc : Nat} {lv : List (Nat × Value)} {st : List Value} (C : zOk x cc own ret f L) {idx : Nat} (hlink : Cond.fieldLink own idx RX7 "foundLate" "I" ∈ ztb) (d : decode cc pc = .ok (.getfield idx, 3)) (k : zV x σ (pc + 3) lv (.int (zI (σ 17 16)) :: st)) : zV x σ pc lv (za x 17 :: st) := z_get (j := 16) C (by decide) (fun _ _ => rfl) rfl iw_X7 (by decide) hlink rfl d k
theorem p_X7_16 {x : Cx} {cc : ByteArray} {own : String} {ret : Option FieldType} {f L : Nat} {σ : Hp} {pc : Nat} {lv : List (Nat × Value)} {st : List Value} (C : zOk x cc own ret f L) {idx : Nat} {z : Int} (hlink : Cond.fieldLink own idx RX7 "foundLate" "I" ∈ ztb) (d : decode cc pc = .ok (.putfield idx, 3)) (k : zV x (zst σ 17 16 z) (pc + 3) lv st) : zV x σ pc lv (.int (zI z) :: za x 17 :: st) := z_put (j := 16) C (by decide) (fun _ _ => rfl) rfl iw_X7 tyX7_ok nmX7 (by decide) hlink rfl rfl rfl (fun _ _ => rfl) (fun _ _ => Nat.le_of_ble_eq_true rfl) d k
theorem g_X7_17 {x : Cx} {cc : ByteArray} {own : String} {ret : Option FieldType} {f L : Nat} {σ : Hp} {pc : Nat} {lv : List (Nat × Value)} {st : List Value} (C : zOk x cc own ret f L) {idx : Nat} (hlink : Cond.fieldLink own idx RX7 "foundMoved" "I" ∈ ztb) (d : decode cc pc = .ok (.getfield idx, 3)) (k : zV x σ (pc + 3) lv (.int (zI (σ 17 17)) :: st)) : zV x σ pc lv (za x 17 :: st) := z_get (j := 17) C (by decide) (fun _ _ => rfl) rfl iw_X7 (by decide) hlink rfl d k
theorem p_X7_17 {x : Cx} {cc : ByteArray} {own : String} {ret : Option FieldType} {f L : Nat} {σ : Hp} {pc : Nat} {lv : List (Nat × Value)} {st : List Value} (C : zOk x cc own ret f L) {idx : Nat} {z : Int} (hlink : Cond.fieldLink own idx RX7 "foundMoved" "I" ∈ ztb) (d : decode cc pc = .ok (.putfield idx, 3)) (k : zV x (zst σ 17 17 z) (pc + 3) lv st) : zV x σ pc lv (.int (zI z) :: za x 17 :: st) := z_put (j := 17) C (by decide) (fun _ _ => rfl) rfl iw_X7 tyX7_ok nmX7 (by decide) hlink rfl rfl rfl (fun _ _ => rfl) (fun _ _ => Nat.le_of_ble_eq_true rfl) d k
end
section
def wJ6_bitCount_0f7a4 (v0 : Int) (σ : Hp) (k : Int → Hp → Prop) : Prop :=
  k (zand (((zand (((zand (v0 - (zand (zushr v0 1) 1431655765)) 858993459) + (zand (zushr (v0 - (zand (zushr v0 1) 1431655765)) 2) 858993459)) + (zushr ((zand (v0 - (zand (zushr v0 1) 1431655765)) 858993459) + (zand (zushr (v0 - (zand (zushr v0 1) 1431655765)) 2) 858993459)) 4)) 252645135) + (zushr (zand (((zand (v0 - (zand (zushr v0 1) 1431655765)) 858993459) + (zand (zushr (v0 - (zand (zushr v0 1) 1431655765)) 2) 858993459)) + (zushr ((zand (v0 - (zand (zushr v0 1) 1431655765)) 858993459) + (zand (zushr (v0 - (zand (zushr v0 1) 1431655765)) 2) 858993459)) 4)) 252645135) 8)) + (zushr ((zand (((zand (v0 - (zand (zushr v0 1) 1431655765)) 858993459) + (zand (zushr (v0 - (zand (zushr v0 1) 1431655765)) 2) 858993459)) + (zushr ((zand (v0 - (zand (zushr v0 1) 1431655765)) 858993459) + (zand (zushr (v0 - (zand (zushr v0 1) 1431655765)) 2) 858993459)) 4)) 252645135) + (zushr (zand (((zand (v0 - (zand (zushr v0 1) 1431655765)) 858993459) + (zand (zushr (v0 - (zand (zushr v0 1) 1431655765)) 2) 858993459)) + (zushr ((zand (v0 - (zand (zushr v0 1) 1431655765)) 858993459) + (zand (zushr (v0 - (zand (zushr v0 1) 1431655765)) 2) 858993459)) 4)) 252645135) 8)) 16)) 63) σ
set_option maxRecDepth 100000 in
theorem mJ6_bitCount_0f7a4 (v0 : Int) (σ : Hp) (k : Int → Hp → Prop) (h : wJ6_bitCount_0f7a4 v0 σ k) (l : Launch) : zMt l yJ6_bitCount_0f7a4 cJ6_bitCount_0f7a4 1 (some .int) { frames := 0, cells := 0, slots := 0, locals := 0 } (fun w => [.int (zI (v0))]) σ (zPi k) := by
  refine zMt_of (by decide +kernel) (fun w => Nat.le_of_ble_eq_true rfl) (fun x hl hN C E => ?_)
  change zV x σ 0 [(0, .int (zI (v0)))] []
  change zOk x cJ6_bitCount_0f7a4 RJ6 (some .int) (0) (0) at C
  unfold wJ6_bitCount_0f7a4 at h
  refine z_iload_n C 0 dJ6_bitCount_0f7a4_0 rfl rfl ?_
  refine z_iload_n C 0 dJ6_bitCount_0f7a4_1 rfl rfl ?_
  refine z_iconst C dJ6_bitCount_0f7a4_2 ?_
  refine z_iushr C dJ6_bitCount_0f7a4_3 ?_
  refine z_ldcw (z := 1431655765) C ki_J6_265 rfl dJ6_bitCount_0f7a4_4 ?_
  refine z_iand C dJ6_bitCount_0f7a4_7 ?_
  refine z_isub C dJ6_bitCount_0f7a4_8 ?_
  refine z_istore_n C [(0, .int (zI (v0 - (zand (zushr v0 1) 1431655765))))] dJ6_bitCount_0f7a4_9 rfl (by rw [hN]; decide) rfl ?_
  refine z_iload_n C 0 dJ6_bitCount_0f7a4_10 rfl rfl ?_
  refine z_ldcw (z := 858993459) C ki_J6_266 rfl dJ6_bitCount_0f7a4_11 ?_
  refine z_iand C dJ6_bitCount_0f7a4_14 ?_
  refine z_iload_n C 0 dJ6_bitCount_0f7a4_15 rfl rfl ?_
  refine z_iconst C dJ6_bitCount_0f7a4_16 ?_
  refine z_iushr C dJ6_bitCount_0f7a4_17 ?_
  refine z_ldcw (z := 858993459) C ki_J6_266 rfl dJ6_bitCount_0f7a4_18 ?_
  refine z_iand C dJ6_bitCount_0f7a4_21 ?_
  refine z_iadd C dJ6_bitCount_0f7a4_22 ?_
  refine z_istore_n C [(0, .int (zI ((zand (v0 - (zand (zushr v0 1) 1431655765)) 858993459) + (zand (zushr (v0 - (zand (zushr v0 1) 1431655765)) 2) 858993459))))] dJ6_bitCount_0f7a4_23 rfl (by rw [hN]; decide) rfl ?_
  refine z_iload_n C 0 dJ6_bitCount_0f7a4_24 rfl rfl ?_
  refine z_iload_n C 0 dJ6_bitCount_0f7a4_25 rfl rfl ?_
  refine z_iconst C dJ6_bitCount_0f7a4_26 ?_
  refine z_iushr C dJ6_bitCount_0f7a4_27 ?_
  refine z_iadd C dJ6_bitCount_0f7a4_28 ?_
  refine z_ldcw (z := 252645135) C ki_J6_267 rfl dJ6_bitCount_0f7a4_29 ?_
  refine z_iand C dJ6_bitCount_0f7a4_32 ?_
  refine z_istore_n C [(0, .int (zI (zand (((zand (v0 - (zand (zushr v0 1) 1431655765)) 858993459) + (zand (zushr (v0 - (zand (zushr v0 1) 1431655765)) 2) 858993459)) + (zushr ((zand (v0 - (zand (zushr v0 1) 1431655765)) 858993459) + (zand (zushr (v0 - (zand (zushr v0 1) 1431655765)) 2) 858993459)) 4)) 252645135)))] dJ6_bitCount_0f7a4_33 rfl (by rw [hN]; decide) rfl ?_
  refine z_iload_n C 0 dJ6_bitCount_0f7a4_34 rfl rfl ?_
  refine z_iload_n C 0 dJ6_bitCount_0f7a4_35 rfl rfl ?_
  refine z_bipush C dJ6_bitCount_0f7a4_36 rfl ?_
  refine z_iushr C dJ6_bitCount_0f7a4_38 ?_
  refine z_iadd C dJ6_bitCount_0f7a4_39 ?_
  refine z_istore_n C [(0, .int (zI ((zand (((zand (v0 - (zand (zushr v0 1) 1431655765)) 858993459) + (zand (zushr (v0 - (zand (zushr v0 1) 1431655765)) 2) 858993459)) + (zushr ((zand (v0 - (zand (zushr v0 1) 1431655765)) 858993459) + (zand (zushr (v0 - (zand (zushr v0 1) 1431655765)) 2) 858993459)) 4)) 252645135) + (zushr (zand (((zand (v0 - (zand (zushr v0 1) 1431655765)) 858993459) + (zand (zushr (v0 - (zand (zushr v0 1) 1431655765)) 2) 858993459)) + (zushr ((zand (v0 - (zand (zushr v0 1) 1431655765)) 858993459) + (zand (zushr (v0 - (zand (zushr v0 1) 1431655765)) 2) 858993459)) 4)) 252645135) 8))))] dJ6_bitCount_0f7a4_40 rfl (by rw [hN]; decide) rfl ?_
  refine z_iload_n C 0 dJ6_bitCount_0f7a4_41 rfl rfl ?_
  refine z_iload_n C 0 dJ6_bitCount_0f7a4_42 rfl rfl ?_
  refine z_bipush C dJ6_bitCount_0f7a4_43 rfl ?_
  refine z_iushr C dJ6_bitCount_0f7a4_45 ?_
  refine z_iadd C dJ6_bitCount_0f7a4_46 ?_
  refine z_istore_n C [(0, .int (zI (((zand (((zand (v0 - (zand (zushr v0 1) 1431655765)) 858993459) + (zand (zushr (v0 - (zand (zushr v0 1) 1431655765)) 2) 858993459)) + (zushr ((zand (v0 - (zand (zushr v0 1) 1431655765)) 858993459) + (zand (zushr (v0 - (zand (zushr v0 1) 1431655765)) 2) 858993459)) 4)) 252645135) + (zushr (zand (((zand (v0 - (zand (zushr v0 1) 1431655765)) 858993459) + (zand (zushr (v0 - (zand (zushr v0 1) 1431655765)) 2) 858993459)) + (zushr ((zand (v0 - (zand (zushr v0 1) 1431655765)) 858993459) + (zand (zushr (v0 - (zand (zushr v0 1) 1431655765)) 2) 858993459)) 4)) 252645135) 8)) + (zushr ((zand (((zand (v0 - (zand (zushr v0 1) 1431655765)) 858993459) + (zand (zushr (v0 - (zand (zushr v0 1) 1431655765)) 2) 858993459)) + (zushr ((zand (v0 - (zand (zushr v0 1) 1431655765)) 858993459) + (zand (zushr (v0 - (zand (zushr v0 1) 1431655765)) 2) 858993459)) 4)) 252645135) + (zushr (zand (((zand (v0 - (zand (zushr v0 1) 1431655765)) 858993459) + (zand (zushr (v0 - (zand (zushr v0 1) 1431655765)) 2) 858993459)) + (zushr ((zand (v0 - (zand (zushr v0 1) 1431655765)) 858993459) + (zand (zushr (v0 - (zand (zushr v0 1) 1431655765)) 2) 858993459)) 4)) 252645135) 8)) 16))))] dJ6_bitCount_0f7a4_47 rfl (by rw [hN]; decide) rfl ?_
  refine z_iload_n C 0 dJ6_bitCount_0f7a4_48 rfl rfl ?_
  refine z_bipush C dJ6_bitCount_0f7a4_49 rfl ?_
  refine z_iand C dJ6_bitCount_0f7a4_51 ?_
  exact z_iret C E dJ6_bitCount_0f7a4_52 ⟨_, rfl, h⟩
def wJ7_fill_53178_5 (k : Hp → Prop) : Nat → Nat → Nat → Int → Int → Int → Hp → Prop
  | 0, _, _, _, _, _, _ => False
  | n + 1, p0, n0, v1, v2, v3, σ => zrg v2 ∧ zrg v3 ∧ ((v3 ≤ v2 → k σ) ∧ (¬ (v3 ≤ v2) → (0 ≤ v2 ∧ v2 < (n0 : Int)) ∧ wJ7_fill_53178_5 k n p0 n0 v1 (v2 + 1) v3 (zst σ p0 v2.toNat v1)))
set_option maxRecDepth 100000 in
theorem sJ7_fill_53178_5 {x : Cx} (C : zOk x cJ7_fill_53178 RJ7 (none) (0) (0)) (hN : x.2.2.2.2.1 = 4) {k : Hp → Prop} (E : zEnd x (zPv k x.2.1)) : ∀ (n : Nat) (p0 : Nat) (n0 : Nat) (v1 : Int) (v2 : Int) (v3 : Int) (hp0 : zIA p0 n0) (σ : Hp), wJ7_fill_53178_5 k n p0 n0 v1 v2 v3 σ → zV x σ 5 [(0, za x (p0)), (1, .int (zI (v1))), (2, .int (zI (v2))), (3, .int (zI (v3)))] [] := by
  intro n
  induction n with
  | zero => intro _ _ _ _ _ _ _ h; exact h.elim
  | succ n ih =>
    intro p0 n0 v1 v2 v3 hp0 σ h
    unfold wJ7_fill_53178_5 at h
    refine z_iload_n C 2 dJ7_fill_53178_5 rfl rfl ?_
    refine z_iload_n C 3 dJ7_fill_53178_6 rfl rfl ?_
    obtain ⟨o1, h⟩ := h
    obtain ⟨o2, h⟩ := h
    refine z_icmp_ge C 20 dJ7_fill_53178_7 (by decide) o1 o2 (fun c3 => ?_) (fun c3 => ?_)
    · have h := h.1 c3
      exact z_vret C E dJ7_fill_53178_20 ⟨rfl, h⟩
    · have h := h.2 c3
      refine z_aload_n C 0 dJ7_fill_53178_10 rfl rfl ?_
      refine z_iload_n C 2 dJ7_fill_53178_11 rfl rfl ?_
      refine z_iload_n C 1 dJ7_fill_53178_12 rfl rfl ?_
      obtain ⟨o4, h⟩ := h
      refine z_iast C hp0 dJ7_fill_53178_13 o4.1 o4.2 ?_
      refine z_iinc C 2 [(2, .int (zI (v2 + 1))), (0, za x (p0)), (1, .int (zI (v1))), (3, .int (zI (v3)))] dJ7_fill_53178_14 rfl (by rw [hN]; decide) rfl ?_
      refine z_goto C 5 dJ7_fill_53178_17 (by decide) ?_
      refine z_sub C [1, 2, 0, 3] [(0, za x (p0)), (1, .int (zI (v1))), (2, .int (zI (v2 + 1))), (3, .int (zI (v3)))] rfl ?_
      exact ih p0 n0 v1 (v2 + 1) v3 hp0 (zst σ p0 v2.toNat v1) h
def wJ7_fill_53178 (p0 : Nat) (n0 : Nat) (v1 : Int) (σ : Hp) (k : Hp → Prop) : Prop :=
  (∃ N1, wJ7_fill_53178_5 k N1 p0 n0 v1 0 ((n0 : Int)) σ)
set_option maxRecDepth 100000 in
theorem mJ7_fill_53178 (p0 : Nat) (n0 : Nat) (v1 : Int) (hp0 : zIA p0 n0) (σ : Hp) (k : Hp → Prop) (h : wJ7_fill_53178 p0 n0 v1 σ k) (l : Launch) : zMt l yJ7_fill_53178 cJ7_fill_53178 4 (none) { frames := 0, cells := 0, slots := 0, locals := 0 } (fun w => [.ref (w.2.1 (p0)), .int (zI (v1))]) σ (zPv k) := by
  refine zMt_of (by decide +kernel) (fun w => Nat.le_of_ble_eq_true rfl) (fun x hl hN C E => ?_)
  change zV x σ 0 [(0, za x (p0)), (1, .int (zI (v1)))] []
  change zOk x cJ7_fill_53178 RJ7 (none) (0) (0) at C
  unfold wJ7_fill_53178 at h
  refine z_iconst C dJ7_fill_53178_0 ?_
  refine z_istore_n C [(2, .int (zI (0))), (0, za x (p0)), (1, .int (zI (v1)))] dJ7_fill_53178_1 rfl (by rw [hN]; decide) rfl ?_
  refine z_aload_n C 1 dJ7_fill_53178_2 rfl rfl ?_
  refine z_alen C hp0 dJ7_fill_53178_3 ?_
  refine z_istore_n C [(3, .int (zI ((n0 : Int)))), (2, .int (zI (0))), (0, za x (p0)), (1, .int (zI (v1)))] dJ7_fill_53178_4 rfl (by rw [hN]; decide) rfl ?_
  refine z_sub C [2, 3, 1, 0] [(0, za x (p0)), (1, .int (zI (v1))), (2, .int (zI (0))), (3, .int (zI ((n0 : Int))))] rfl ?_
  obtain ⟨n1, h⟩ := h
  exact sJ7_fill_53178_5 C hN E n1 p0 n0 v1 0 ((n0 : Int)) hp0 σ h
def wJ9_floorMod_7cf53 (v0 : Int) (v1 : Int) (σ : Hp) (k : Int → Hp → Prop) : Prop :=
  zrg v0 ∧ zrg v1 ∧ 0 < v1 ∧ zrg (zxor v0 v1) ∧ ((0 ≤ zxor v0 v1 → k (Int.tmod v0 v1) σ) ∧ (¬ (0 ≤ zxor v0 v1) → zrg (Int.tmod v0 v1) ∧ ((Int.tmod v0 v1 = 0 → k (Int.tmod v0 v1) σ) ∧ (¬ (Int.tmod v0 v1 = 0) → k ((Int.tmod v0 v1) + v1) σ))))
set_option maxRecDepth 100000 in
theorem mJ9_floorMod_7cf53 (v0 : Int) (v1 : Int) (σ : Hp) (k : Int → Hp → Prop) (h : wJ9_floorMod_7cf53 v0 v1 σ k) (l : Launch) : zMt l yJ9_floorMod_7cf53 cJ9_floorMod_7cf53 3 (some .int) { frames := 0, cells := 0, slots := 0, locals := 0 } (fun w => [.int (zI (v0)), .int (zI (v1))]) σ (zPi k) := by
  refine zMt_of (by decide +kernel) (fun w => Nat.le_of_ble_eq_true rfl) (fun x hl hN C E => ?_)
  change zV x σ 0 [(0, .int (zI (v0))), (1, .int (zI (v1)))] []
  change zOk x cJ9_floorMod_7cf53 RJ9 (some .int) (0) (0) at C
  unfold wJ9_floorMod_7cf53 at h
  refine z_iload_n C 0 dJ9_floorMod_7cf53_0 rfl rfl ?_
  refine z_iload_n C 1 dJ9_floorMod_7cf53_1 rfl rfl ?_
  obtain ⟨o1, h⟩ := h
  obtain ⟨o2, h⟩ := h
  obtain ⟨o3, h⟩ := h
  refine z_irem C dJ9_floorMod_7cf53_2 o1 o2 o3 ?_
  refine z_istore_n C [(2, .int (zI (Int.tmod v0 v1))), (0, .int (zI (v0))), (1, .int (zI (v1)))] dJ9_floorMod_7cf53_3 rfl (by rw [hN]; decide) rfl ?_
  refine z_iload_n C 1 dJ9_floorMod_7cf53_4 rfl rfl ?_
  refine z_iload_n C 2 dJ9_floorMod_7cf53_5 rfl rfl ?_
  refine z_ixor C dJ9_floorMod_7cf53_6 ?_
  obtain ⟨o4, h⟩ := h
  refine z_if_ge C 18 dJ9_floorMod_7cf53_7 (by decide) o4 (fun c5 => ?_) (fun c5 => ?_)
  · have h := h.1 c5
    refine z_iload_n C 0 dJ9_floorMod_7cf53_18 rfl rfl ?_
    exact z_iret C E dJ9_floorMod_7cf53_19 ⟨_, rfl, h⟩
  · have h := h.2 c5
    refine z_iload_n C 0 dJ9_floorMod_7cf53_10 rfl rfl ?_
    obtain ⟨o6, h⟩ := h
    refine z_if_eq C 18 dJ9_floorMod_7cf53_11 (by decide) o6 (fun c7 => ?_) (fun c7 => ?_)
    · have h := h.1 c7
      refine z_iload_n C 0 dJ9_floorMod_7cf53_18 rfl rfl ?_
      exact z_iret C E dJ9_floorMod_7cf53_19 ⟨_, rfl, h⟩
    · have h := h.2 c7
      refine z_iload_n C 0 dJ9_floorMod_7cf53_14 rfl rfl ?_
      refine z_iload_n C 2 dJ9_floorMod_7cf53_15 rfl rfl ?_
      refine z_iadd C dJ9_floorMod_7cf53_16 ?_
      exact z_iret C E dJ9_floorMod_7cf53_17 ⟨_, rfl, h⟩
def wX6_within (v0 : Int) (v1 : Int) (v2 : Int) (σ : Hp) (k : Int → Hp → Prop) : Prop :=
  zrg v0 ∧ zrg v1 ∧ ((v0 < v1 → k 0 σ) ∧ (¬ (v0 < v1) → zrg v2 ∧ ((v2 < v0 → k 0 σ) ∧ (¬ (v2 < v0) → k 1 σ))))
set_option maxRecDepth 100000 in
theorem mX6_within (v0 : Int) (v1 : Int) (v2 : Int) (σ : Hp) (k : Int → Hp → Prop) (h : wX6_within v0 v1 v2 σ k) (l : Launch) : zMt l yX6_within cX6_within 3 (some .boolean) { frames := 0, cells := 0, slots := 0, locals := 0 } (fun w => [.int (zI (v0)), .int (zI (v1)), .int (zI (v2))]) σ (zPi k) := by
  refine zMt_of (plainFor_of_name (by decide)) (fun w => Nat.le_of_ble_eq_true rfl) (fun x hl hN C E => ?_)
  change zV x σ 0 [(0, .int (zI (v0))), (1, .int (zI (v1))), (2, .int (zI (v2)))] []
  change zOk x cX6_within RX6 (some .boolean) (0) (0) at C
  unfold wX6_within at h
  refine z_iload_n C 0 dX6_within_0 rfl rfl ?_
  refine z_iload_n C 1 dX6_within_1 rfl rfl ?_
  obtain ⟨o1, h⟩ := h
  obtain ⟨o2, h⟩ := h
  refine z_icmp_lt C 14 dX6_within_2 (by decide) o1 o2 (fun c3 => ?_) (fun c3 => ?_)
  · have h := h.1 c3
    refine z_iconst C dX6_within_14 ?_
    exact z_zret C E dX6_within_15 (by decide) ⟨_, rfl, h⟩
  · have h := h.2 c3
    refine z_iload_n C 0 dX6_within_5 rfl rfl ?_
    refine z_iload_n C 2 dX6_within_6 rfl rfl ?_
    obtain ⟨o4, h⟩ := h
    refine z_icmp_gt C 14 dX6_within_7 (by decide) o1 o4 (fun c5 => ?_) (fun c5 => ?_)
    · have h := h.1 c5
      refine z_iconst C dX6_within_14 ?_
      exact z_zret C E dX6_within_15 (by decide) ⟨_, rfl, h⟩
    · have h := h.2 c5
      refine z_iconst C dX6_within_10 ?_
      refine z_goto C 15 dX6_within_11 (by decide) ?_
      exact z_zret C E dX6_within_15 (by decide) ⟨_, rfl, h⟩
def wX0_add (v1 : Int) (v2 : Int) (σ : Hp) (k : Hp → Prop) : Prop :=
  wX6_within (σ 12 2) 0 39 σ (fun a2 σ1 => zrg a2 ∧ ((a2 = 0 → k σ1) ∧ (¬ (a2 = 0) → (0 ≤ σ1 12 2 ∧ σ1 12 2 < 40) ∧ (0 ≤ (zst σ1 13 (σ1 12 2).toNat v1) 12 2 ∧ (zst σ1 13 (σ1 12 2).toNat v1) 12 2 < 40) ∧ k (zst (zst (zst σ1 13 (σ1 12 2).toNat v1) 14 ((zst σ1 13 (σ1 12 2).toNat v1) 12 2).toNat v2) 12 2 (((zst (zst σ1 13 (σ1 12 2).toNat v1) 14 ((zst σ1 13 (σ1 12 2).toNat v1) 12 2).toNat v2) 12 2) + 1)))))
set_option maxRecDepth 100000 in
theorem mX0_add (v1 : Int) (v2 : Int) (σ : Hp) (k : Hp → Prop) (h : wX0_add v1 v2 σ k) (l : Launch) : zMt l yX0_add cX0_add 3 (none) { frames := 1, cells := 0, slots := 0, locals := 22 } (fun w => [.ref (w.2.1 (12)), .int (zI (v1)), .int (zI (v2))]) σ (zPv k) := by
  refine zMt_of (plainFor_of_name (by decide)) (fun w => Nat.le_of_ble_eq_true rfl) (fun x hl hN C E => ?_)
  change zV x σ 0 [(0, za x (12)), (1, .int (zI (v1))), (2, .int (zI (v2)))] []
  change zOk x cX0_add RX0 (none) (1) (22) at C
  unfold wX0_add at h
  refine z_aload_n C 0 dX0_add_0 rfl rfl ?_
  refine g_X0_2 C kf_X0_16 dX0_add_1 ?_
  refine z_iconst C dX0_add_4 ?_
  refine z_bipush C dX0_add_5 rfl ?_
  refine z_callN (av := fun w => [.int (zI (σ 12 2)), .int (zI (0)), .int (zI (39))]) C [] cs_X6_within (mX6_within (σ 12 2) 0 39  σ _ h) kn_X0_23 dX0_add_7 rfl rfl ⟨rfl, rfl⟩ ⟨by decide, by decide⟩ (Nat.le_of_ble_eq_true rfl) (fun rv σ1 hp => ?_)
  obtain ⟨a2, rfl, h⟩ := hp
  change zV x σ1 10 [(0, za x (12)), (1, .int (zI (v1))), (2, .int (zI (v2)))] [.int (zI (a2))]
  obtain ⟨o3, h⟩ := h
  refine z_if_eq C 43 dX0_add_10 (by decide) o3 (fun c4 => ?_) (fun c4 => ?_)
  · have h := h.1 c4
    exact z_vret C E dX0_add_43 ⟨rfl, h⟩
  · have h := h.2 c4
    refine z_aload_n C 0 dX0_add_13 rfl rfl ?_
    refine g_X0_0 C kf_X0_9 dX0_add_14 ?_
    refine z_aload_n C 0 dX0_add_17 rfl rfl ?_
    refine g_X0_2 C kf_X0_16 dX0_add_18 ?_
    refine z_iload_n C 1 dX0_add_21 rfl rfl ?_
    obtain ⟨o5, h⟩ := h
    refine z_iast C ia_13 dX0_add_22 o5.1 o5.2 ?_
    refine z_aload_n C 0 dX0_add_23 rfl rfl ?_
    refine g_X0_1 C kf_X0_13 dX0_add_24 ?_
    refine z_aload_n C 0 dX0_add_27 rfl rfl ?_
    refine g_X0_2 C kf_X0_16 dX0_add_28 ?_
    refine z_iload_n C 2 dX0_add_31 rfl rfl ?_
    obtain ⟨o6, h⟩ := h
    refine z_iast C ia_14 dX0_add_32 o6.1 o6.2 ?_
    refine z_aload_n C 0 dX0_add_33 rfl rfl ?_
    refine z_dup C dX0_add_34 rfl ?_
    refine g_X0_2 C kf_X0_16 dX0_add_35 ?_
    refine z_iconst C dX0_add_38 ?_
    refine z_iadd C dX0_add_39 ?_
    refine p_X0_2 C kf_X0_16 dX0_add_40 ?_
    exact z_vret C E dX0_add_43 ⟨rfl, h⟩
def wX0_bestLate (σ : Hp) (k : Int → Hp → Prop) : Prop :=
  zrg (σ 12 4) ∧ k (Int.tdiv (σ 12 4) 41) σ
set_option maxRecDepth 100000 in
theorem mX0_bestLate (σ : Hp) (k : Int → Hp → Prop) (h : wX0_bestLate  σ k) (l : Launch) : zMt l yX0_bestLate cX0_bestLate 1 (some .int) { frames := 0, cells := 0, slots := 0, locals := 0 } (fun w => [.ref (w.2.1 (12))]) σ (zPi k) := by
  refine zMt_of (plainFor_of_name (by decide)) (fun w => Nat.le_of_ble_eq_true rfl) (fun x hl hN C E => ?_)
  change zV x σ 0 [(0, za x (12))] []
  change zOk x cX0_bestLate RX0 (some .int) (0) (0) at C
  unfold wX0_bestLate at h
  refine z_aload_n C 0 dX0_bestLate_0 rfl rfl ?_
  refine g_X0_4 C kf_X0_53 dX0_bestLate_1 ?_
  refine z_bipush C dX0_bestLate_4 rfl ?_
  obtain ⟨o1, h⟩ := h
  refine z_idiv C dX0_bestLate_6 o1 (zrg_d rfl) (by decide) ?_
  exact z_iret C E dX0_bestLate_7 ⟨_, rfl, h⟩
def wX0_bestMeeting (σ : Hp) (k : Int → Hp → Prop) : Prop :=
  wX6_within (σ 12 4) 0 ((((779 : Nat) : Int)) - 1) σ (fun a2 σ1 => zrg a2 ∧ ((a2 = 0 → k 0 σ1) ∧ (¬ (a2 = 0) → (0 ≤ σ1 12 4 ∧ σ1 12 4 < 779) ∧ k (σ1 15 (σ1 12 4).toNat) σ1)))
set_option maxRecDepth 100000 in
theorem mX0_bestMeeting (σ : Hp) (k : Int → Hp → Prop) (h : wX0_bestMeeting  σ k) (l : Launch) : zMt l yX0_bestMeeting cX0_bestMeeting 1 (some .int) { frames := 1, cells := 0, slots := 0, locals := 22 } (fun w => [.ref (w.2.1 (12))]) σ (zPi k) := by
  refine zMt_of (plainFor_of_name (by decide)) (fun w => Nat.le_of_ble_eq_true rfl) (fun x hl hN C E => ?_)
  change zV x σ 0 [(0, za x (12))] []
  change zOk x cX0_bestMeeting RX0 (some .int) (1) (22) at C
  unfold wX0_bestMeeting at h
  refine z_aload_n C 0 dX0_bestMeeting_0 rfl rfl ?_
  refine g_X0_4 C kf_X0_53 dX0_bestMeeting_1 ?_
  refine z_iconst C dX0_bestMeeting_4 ?_
  refine z_aload_n C 0 dX0_bestMeeting_5 rfl rfl ?_
  refine g_X0_3 C kf_X0_20 dX0_bestMeeting_6 ?_
  refine z_alen C ia_15 dX0_bestMeeting_9 ?_
  refine z_iconst C dX0_bestMeeting_10 ?_
  refine z_isub C dX0_bestMeeting_11 ?_
  refine z_callN (av := fun w => [.int (zI (σ 12 4)), .int (zI (0)), .int (zI ((((779 : Nat) : Int)) - 1))]) C [] cs_X6_within (mX6_within (σ 12 4) 0 ((((779 : Nat) : Int)) - 1)  σ _ h) kn_X0_23 dX0_bestMeeting_12 rfl rfl ⟨rfl, rfl⟩ ⟨by decide, by decide⟩ (Nat.le_of_ble_eq_true rfl) (fun rv σ1 hp => ?_)
  obtain ⟨a2, rfl, h⟩ := hp
  change zV x σ1 15 [(0, za x (12))] [.int (zI (a2))]
  obtain ⟨o3, h⟩ := h
  refine z_if_eq C 30 dX0_bestMeeting_15 (by decide) o3 (fun c4 => ?_) (fun c4 => ?_)
  · have h := h.1 c4
    refine z_iconst C dX0_bestMeeting_30 ?_
    exact z_iret C E dX0_bestMeeting_31 ⟨_, rfl, h⟩
  · have h := h.2 c4
    refine z_aload_n C 0 dX0_bestMeeting_18 rfl rfl ?_
    refine g_X0_3 C kf_X0_20 dX0_bestMeeting_19 ?_
    refine z_aload_n C 0 dX0_bestMeeting_22 rfl rfl ?_
    refine g_X0_4 C kf_X0_53 dX0_bestMeeting_23 ?_
    obtain ⟨o5, h⟩ := h
    refine z_iald C ia_15 dX0_bestMeeting_26 o5.1 o5.2 ?_
    refine z_goto C 31 dX0_bestMeeting_27 (by decide) ?_
    exact z_iret C E dX0_bestMeeting_31 ⟨_, rfl, h⟩
def wX0_bestMoved (σ : Hp) (k : Int → Hp → Prop) : Prop :=
  zrg (σ 12 4) ∧ k ((Int.tmod (σ 12 4) 41) - 20) σ
set_option maxRecDepth 100000 in
theorem mX0_bestMoved (σ : Hp) (k : Int → Hp → Prop) (h : wX0_bestMoved  σ k) (l : Launch) : zMt l yX0_bestMoved cX0_bestMoved 1 (some .int) { frames := 0, cells := 0, slots := 0, locals := 0 } (fun w => [.ref (w.2.1 (12))]) σ (zPi k) := by
  refine zMt_of (plainFor_of_name (by decide)) (fun w => Nat.le_of_ble_eq_true rfl) (fun x hl hN C E => ?_)
  change zV x σ 0 [(0, za x (12))] []
  change zOk x cX0_bestMoved RX0 (some .int) (0) (0) at C
  unfold wX0_bestMoved at h
  refine z_aload_n C 0 dX0_bestMoved_0 rfl rfl ?_
  refine g_X0_4 C kf_X0_53 dX0_bestMoved_1 ?_
  refine z_bipush C dX0_bestMoved_4 rfl ?_
  obtain ⟨o1, h⟩ := h
  refine z_irem C dX0_bestMoved_6 o1 (zrg_d rfl) (by decide) ?_
  refine z_bipush C dX0_bestMoved_7 rfl ?_
  refine z_isub C dX0_bestMoved_9 ?_
  exact z_iret C E dX0_bestMoved_10 ⟨_, rfl, h⟩
def wX0_clear (σ : Hp) (k : Hp → Prop) : Prop :=
  k (zst σ 12 2 0)
set_option maxRecDepth 100000 in
theorem mX0_clear (σ : Hp) (k : Hp → Prop) (h : wX0_clear  σ k) (l : Launch) : zMt l yX0_clear cX0_clear 1 (none) { frames := 0, cells := 0, slots := 0, locals := 0 } (fun w => [.ref (w.2.1 (12))]) σ (zPv k) := by
  refine zMt_of (plainFor_of_name (by decide)) (fun w => Nat.le_of_ble_eq_true rfl) (fun x hl hN C E => ?_)
  change zV x σ 0 [(0, za x (12))] []
  change zOk x cX0_clear RX0 (none) (0) (0) at C
  unfold wX0_clear at h
  refine z_aload_n C 0 dX0_clear_0 rfl rfl ?_
  refine z_iconst C dX0_clear_1 ?_
  refine p_X0_2 C kf_X0_16 dX0_clear_2 ?_
  exact z_vret C E dX0_clear_5 ⟨rfl, h⟩
def wX0_holds_2 (k : Int → Hp → Prop) : Nat → Int → Int → Int → Hp → Prop
  | 0, _, _, _, _ => False
  | n + 1, v1, v2, v3, σ => zrg v3 ∧ zrg (σ 12 2) ∧ ((σ 12 2 ≤ v3 → k 0 σ) ∧ (¬ (σ 12 2 ≤ v3) → ((40 ≤ v3 → k 0 σ) ∧ (¬ (40 ≤ v3) → (0 ≤ v3 ∧ v3 < 40) ∧ zrg (σ 13 v3.toNat) ∧ zrg v1 ∧ ((σ 13 v3.toNat ≠ v1 → wX0_holds_2 k n v1 v2 (v3 + 1) σ) ∧ (¬ (σ 13 v3.toNat ≠ v1) → zrg (σ 14 v3.toNat) ∧ zrg v2 ∧ ((σ 14 v3.toNat ≠ v2 → wX0_holds_2 k n v1 v2 (v3 + 1) σ) ∧ (¬ (σ 14 v3.toNat ≠ v2) → k 1 σ))))))))
set_option maxRecDepth 100000 in
theorem sX0_holds_2 {x : Cx} (C : zOk x cX0_holds RX0 (some .boolean) (0) (0)) (hN : x.2.2.2.2.1 = 4) {k : Int → Hp → Prop} (E : zEnd x (zPi k x.2.1)) : ∀ (n : Nat) (v1 : Int) (v2 : Int) (v3 : Int) (σ : Hp), wX0_holds_2 k n v1 v2 v3 σ → zV x σ 2 [(0, za x (12)), (1, .int (zI (v1))), (2, .int (zI (v2))), (3, .int (zI (v3)))] [] := by
  intro n
  induction n with
  | zero => intro _ _ _ _ h; exact h.elim
  | succ n ih =>
    intro v1 v2 v3 σ h
    unfold wX0_holds_2 at h
    refine z_iload_n C 3 dX0_holds_2 rfl rfl ?_
    refine z_aload_n C 0 dX0_holds_3 rfl rfl ?_
    refine g_X0_2 C kf_X0_16 dX0_holds_4 ?_
    obtain ⟨o1, h⟩ := h
    obtain ⟨o2, h⟩ := h
    refine z_icmp_ge C 44 dX0_holds_7 (by decide) o1 o2 (fun c3 => ?_) (fun c3 => ?_)
    · have h := h.1 c3
      refine z_iconst C dX0_holds_44 ?_
      exact z_zret C E dX0_holds_45 (by decide) ⟨_, rfl, h⟩
    · have h := h.2 c3
      refine z_iload_n C 3 dX0_holds_10 rfl rfl ?_
      refine z_bipush C dX0_holds_11 rfl ?_
      refine z_icmp_ge C 44 dX0_holds_13 (by decide) o1 (zrg_d rfl) (fun c4 => ?_) (fun c4 => ?_)
      · have h := h.1 c4
        refine z_iconst C dX0_holds_44 ?_
        exact z_zret C E dX0_holds_45 (by decide) ⟨_, rfl, h⟩
      · have h := h.2 c4
        refine z_aload_n C 0 dX0_holds_16 rfl rfl ?_
        refine g_X0_0 C kf_X0_9 dX0_holds_17 ?_
        refine z_iload_n C 3 dX0_holds_20 rfl rfl ?_
        obtain ⟨o5, h⟩ := h
        refine z_iald C ia_13 dX0_holds_21 o5.1 o5.2 ?_
        refine z_iload_n C 1 dX0_holds_22 rfl rfl ?_
        obtain ⟨o6, h⟩ := h
        obtain ⟨o7, h⟩ := h
        refine z_icmp_ne C 38 dX0_holds_23 (by decide) o6 o7 (fun c8 => ?_) (fun c8 => ?_)
        · have h := h.1 c8
          refine z_iinc C 3 [(3, .int (zI (v3 + 1))), (0, za x (12)), (1, .int (zI (v1))), (2, .int (zI (v2)))] dX0_holds_38 rfl (by rw [hN]; decide) rfl ?_
          refine z_goto C 2 dX0_holds_41 (by decide) ?_
          refine z_sub C [1, 2, 3, 0] [(0, za x (12)), (1, .int (zI (v1))), (2, .int (zI (v2))), (3, .int (zI (v3 + 1)))] rfl ?_
          exact ih v1 v2 (v3 + 1)  σ h
        · have h := h.2 c8
          refine z_aload_n C 0 dX0_holds_26 rfl rfl ?_
          refine g_X0_1 C kf_X0_13 dX0_holds_27 ?_
          refine z_iload_n C 3 dX0_holds_30 rfl rfl ?_
          refine z_iald C ia_14 dX0_holds_31 o5.1 o5.2 ?_
          refine z_iload_n C 2 dX0_holds_32 rfl rfl ?_
          obtain ⟨o9, h⟩ := h
          obtain ⟨o10, h⟩ := h
          refine z_icmp_ne C 38 dX0_holds_33 (by decide) o9 o10 (fun c11 => ?_) (fun c11 => ?_)
          · have h := h.1 c11
            refine z_iinc C 3 [(3, .int (zI (v3 + 1))), (0, za x (12)), (1, .int (zI (v1))), (2, .int (zI (v2)))] dX0_holds_38 rfl (by rw [hN]; decide) rfl ?_
            refine z_goto C 2 dX0_holds_41 (by decide) ?_
            refine z_sub C [1, 2, 3, 0] [(0, za x (12)), (1, .int (zI (v1))), (2, .int (zI (v2))), (3, .int (zI (v3 + 1)))] rfl ?_
            exact ih v1 v2 (v3 + 1)  σ h
          · have h := h.2 c11
            refine z_iconst C dX0_holds_36 ?_
            exact z_zret C E dX0_holds_37 (by decide) ⟨_, rfl, h⟩
def wX0_holds (v1 : Int) (v2 : Int) (σ : Hp) (k : Int → Hp → Prop) : Prop :=
  (∃ N1, wX0_holds_2 k N1 v1 v2 0 σ)
set_option maxRecDepth 100000 in
theorem mX0_holds (v1 : Int) (v2 : Int) (σ : Hp) (k : Int → Hp → Prop) (h : wX0_holds v1 v2 σ k) (l : Launch) : zMt l yX0_holds cX0_holds 4 (some .boolean) { frames := 0, cells := 0, slots := 0, locals := 0 } (fun w => [.ref (w.2.1 (12)), .int (zI (v1)), .int (zI (v2))]) σ (zPi k) := by
  refine zMt_of (plainFor_of_name (by decide)) (fun w => Nat.le_of_ble_eq_true rfl) (fun x hl hN C E => ?_)
  change zV x σ 0 [(0, za x (12)), (1, .int (zI (v1))), (2, .int (zI (v2)))] []
  change zOk x cX0_holds RX0 (some .boolean) (0) (0) at C
  unfold wX0_holds at h
  refine z_iconst C dX0_holds_0 ?_
  refine z_istore_n C [(3, .int (zI (0))), (0, za x (12)), (1, .int (zI (v1))), (2, .int (zI (v2)))] dX0_holds_1 rfl (by rw [hN]; decide) rfl ?_
  refine z_sub C [1, 2, 3, 0] [(0, za x (12)), (1, .int (zI (v1))), (2, .int (zI (v2))), (3, .int (zI (0)))] rfl ?_
  obtain ⟨n1, h⟩ := h
  exact sX0_holds_2 C hN E n1 v1 v2 0  σ h
def wX0_isFull (σ : Hp) (k : Int → Hp → Prop) : Prop :=
  zrg (σ 12 2) ∧ ((σ 12 2 < 40 → k 0 σ) ∧ (¬ (σ 12 2 < 40) → k 1 σ))
set_option maxRecDepth 100000 in
theorem mX0_isFull (σ : Hp) (k : Int → Hp → Prop) (h : wX0_isFull  σ k) (l : Launch) : zMt l yX0_isFull cX0_isFull 1 (some .boolean) { frames := 0, cells := 0, slots := 0, locals := 0 } (fun w => [.ref (w.2.1 (12))]) σ (zPi k) := by
  refine zMt_of (plainFor_of_name (by decide)) (fun w => Nat.le_of_ble_eq_true rfl) (fun x hl hN C E => ?_)
  change zV x σ 0 [(0, za x (12))] []
  change zOk x cX0_isFull RX0 (some .boolean) (0) (0) at C
  unfold wX0_isFull at h
  refine z_aload_n C 0 dX0_isFull_0 rfl rfl ?_
  refine g_X0_2 C kf_X0_16 dX0_isFull_1 ?_
  refine z_bipush C dX0_isFull_4 rfl ?_
  obtain ⟨o1, h⟩ := h
  refine z_icmp_lt C 13 dX0_isFull_6 (by decide) o1 (zrg_d rfl) (fun c2 => ?_) (fun c2 => ?_)
  · have h := h.1 c2
    refine z_iconst C dX0_isFull_13 ?_
    exact z_zret C E dX0_isFull_14 (by decide) ⟨_, rfl, h⟩
  · have h := h.2 c2
    refine z_iconst C dX0_isFull_9 ?_
    refine z_goto C 14 dX0_isFull_10 (by decide) ?_
    exact z_zret C E dX0_isFull_14 (by decide) ⟨_, rfl, h⟩
def wX0_meetHeard_2 (k : Hp → Prop) : Nat → Int → Int → Int → Hp → Prop
  | 0, _, _, _, _ => False
  | n + 1, v1, v2, v3, σ => zrg v3 ∧ zrg (σ 12 2) ∧ ((σ 12 2 ≤ v3 → k σ) ∧ (¬ (σ 12 2 ≤ v3) → ((40 ≤ v3 → k σ) ∧ (¬ (40 ≤ v3) → (0 ≤ v3 ∧ v3 < 40) ∧ wX6_within ((σ 13 v3.toNat) - v1) 0 18 σ (fun a7 σ6 => zrg a7 ∧ ((a7 = 0 → wX0_meetHeard_2 k n v1 v2 (v3 + 1) σ6) ∧ (¬ (a7 = 0) → wX6_within ((σ 14 v3.toNat) - v2) ((-20)) 20 σ6 (fun a11 σ10 => zrg a11 ∧ ((a11 = 0 → wX0_meetHeard_2 k n v1 v2 (v3 + 1) σ10) ∧ (¬ (a11 = 0) → (0 ≤ ((((σ 13 v3.toNat) - v1) * 41) + ((σ 14 v3.toNat) - v2)) + 20 ∧ ((((σ 13 v3.toNat) - v1) * 41) + ((σ 14 v3.toNat) - v2)) + 20 < 779) ∧ wX0_meetHeard_2 k n v1 v2 (v3 + 1) (zst σ10 15 (((((σ 13 v3.toNat) - v1) * 41) + ((σ 14 v3.toNat) - v2)) + 20).toNat ((σ10 15 (((((σ 13 v3.toNat) - v1) * 41) + ((σ 14 v3.toNat) - v2)) + 20).toNat) + 1))))))))))))
set_option maxRecDepth 100000 in
theorem sX0_meetHeard_2 {x : Cx} (C : zOk x cX0_meetHeard RX0 (none) (1) (22)) (hN : x.2.2.2.2.1 = 6) {k : Hp → Prop} (E : zEnd x (zPv k x.2.1)) : ∀ (n : Nat) (v1 : Int) (v2 : Int) (v3 : Int) (σ : Hp), wX0_meetHeard_2 k n v1 v2 v3 σ → zV x σ 2 [(0, za x (12)), (1, .int (zI (v1))), (2, .int (zI (v2))), (3, .int (zI (v3)))] [] := by
  intro n
  induction n with
  | zero => intro _ _ _ _ h; exact h.elim
  | succ n ih =>
    intro v1 v2 v3 σ h
    unfold wX0_meetHeard_2 at h
    refine z_iload_n C 3 dX0_meetHeard_2 rfl rfl ?_
    refine z_aload_n C 0 dX0_meetHeard_3 rfl rfl ?_
    refine g_X0_2 C kf_X0_16 dX0_meetHeard_4 ?_
    obtain ⟨o1, h⟩ := h
    obtain ⟨o2, h⟩ := h
    refine z_icmp_ge C 85 dX0_meetHeard_7 (by decide) o1 o2 (fun c3 => ?_) (fun c3 => ?_)
    · have h := h.1 c3
      exact z_vret C E dX0_meetHeard_85 ⟨rfl, h⟩
    · have h := h.2 c3
      refine z_iload_n C 3 dX0_meetHeard_10 rfl rfl ?_
      refine z_bipush C dX0_meetHeard_11 rfl ?_
      refine z_icmp_ge C 85 dX0_meetHeard_13 (by decide) o1 (zrg_d rfl) (fun c4 => ?_) (fun c4 => ?_)
      · have h := h.1 c4
        exact z_vret C E dX0_meetHeard_85 ⟨rfl, h⟩
      · have h := h.2 c4
        refine z_aload_n C 0 dX0_meetHeard_16 rfl rfl ?_
        refine g_X0_0 C kf_X0_9 dX0_meetHeard_17 ?_
        refine z_iload_n C 3 dX0_meetHeard_20 rfl rfl ?_
        obtain ⟨o5, h⟩ := h
        refine z_iald C ia_13 dX0_meetHeard_21 o5.1 o5.2 ?_
        refine z_iload_n C 1 dX0_meetHeard_22 rfl rfl ?_
        refine z_isub C dX0_meetHeard_23 ?_
        refine z_istore C [(4, .int (zI ((σ 13 v3.toNat) - v1))), (0, za x (12)), (1, .int (zI (v1))), (2, .int (zI (v2))), (3, .int (zI (v3)))] dX0_meetHeard_24 (by rw [hN]; decide) rfl ?_
        refine z_aload_n C 1 dX0_meetHeard_26 rfl rfl ?_
        refine g_X0_1 C kf_X0_13 dX0_meetHeard_27 ?_
        refine z_iload_n C 4 dX0_meetHeard_30 rfl rfl ?_
        refine z_iald C ia_14 dX0_meetHeard_31 o5.1 o5.2 ?_
        refine z_iload_n C 3 dX0_meetHeard_32 rfl rfl ?_
        refine z_isub C dX0_meetHeard_33 ?_
        refine z_istore C [(5, .int (zI ((σ 14 v3.toNat) - v2))), (4, .int (zI ((σ 13 v3.toNat) - v1))), (0, za x (12)), (1, .int (zI (v1))), (2, .int (zI (v2))), (3, .int (zI (v3)))] dX0_meetHeard_34 (by rw [hN]; decide) rfl ?_
        refine z_iload C 1 dX0_meetHeard_36 rfl ?_
        refine z_iconst C dX0_meetHeard_38 ?_
        refine z_bipush C dX0_meetHeard_39 rfl ?_
        refine z_callN (av := fun w => [.int (zI ((σ 13 v3.toNat) - v1)), .int (zI (0)), .int (zI (18))]) C [] cs_X6_within (mX6_within ((σ 13 v3.toNat) - v1) 0 18  σ _ h) kn_X0_23 dX0_meetHeard_41 rfl rfl ⟨rfl, rfl⟩ ⟨by decide, by decide⟩ (Nat.le_of_ble_eq_true rfl) (fun rv σ6 hp => ?_)
        obtain ⟨a7, rfl, h⟩ := hp
        change zV x σ6 44 [(5, .int (zI ((σ 14 v3.toNat) - v2))), (4, .int (zI ((σ 13 v3.toNat) - v1))), (0, za x (12)), (1, .int (zI (v1))), (2, .int (zI (v2))), (3, .int (zI (v3)))] [.int (zI (a7))]
        obtain ⟨o8, h⟩ := h
        refine z_if_eq C 79 dX0_meetHeard_44 (by decide) o8 (fun c9 => ?_) (fun c9 => ?_)
        · have h := h.1 c9
          refine z_iinc C 5 [(3, .int (zI (v3 + 1))), (5, .int (zI ((σ 14 v3.toNat) - v2))), (4, .int (zI ((σ 13 v3.toNat) - v1))), (0, za x (12)), (1, .int (zI (v1))), (2, .int (zI (v2)))] dX0_meetHeard_79 rfl (by rw [hN]; decide) rfl ?_
          refine z_goto C 2 dX0_meetHeard_82 (by decide) ?_
          refine z_sub C [3, 4, 5, 0] [(0, za x (12)), (1, .int (zI (v1))), (2, .int (zI (v2))), (3, .int (zI (v3 + 1)))] rfl ?_
          exact ih v1 v2 (v3 + 1)  σ6 h
        · have h := h.2 c9
          refine z_iload C 0 dX0_meetHeard_47 rfl ?_
          refine z_bipush C dX0_meetHeard_49 rfl ?_
          refine z_bipush C dX0_meetHeard_51 rfl ?_
          refine z_callN (av := fun w => [.int (zI ((σ 14 v3.toNat) - v2)), .int (zI ((-20))), .int (zI (20))]) C [] cs_X6_within (mX6_within ((σ 14 v3.toNat) - v2) ((-20)) 20  σ6 _ h) kn_X0_23 dX0_meetHeard_53 rfl rfl ⟨rfl, rfl⟩ ⟨by decide, by decide⟩ (Nat.le_of_ble_eq_true rfl) (fun rv σ10 hp => ?_)
          obtain ⟨a11, rfl, h⟩ := hp
          change zV x σ10 56 [(5, .int (zI ((σ 14 v3.toNat) - v2))), (4, .int (zI ((σ 13 v3.toNat) - v1))), (0, za x (12)), (1, .int (zI (v1))), (2, .int (zI (v2))), (3, .int (zI (v3)))] [.int (zI (a11))]
          obtain ⟨o12, h⟩ := h
          refine z_if_eq C 79 dX0_meetHeard_56 (by decide) o12 (fun c13 => ?_) (fun c13 => ?_)
          · have h := h.1 c13
            refine z_iinc C 5 [(3, .int (zI (v3 + 1))), (5, .int (zI ((σ 14 v3.toNat) - v2))), (4, .int (zI ((σ 13 v3.toNat) - v1))), (0, za x (12)), (1, .int (zI (v1))), (2, .int (zI (v2)))] dX0_meetHeard_79 rfl (by rw [hN]; decide) rfl ?_
            refine z_goto C 2 dX0_meetHeard_82 (by decide) ?_
            refine z_sub C [3, 4, 5, 0] [(0, za x (12)), (1, .int (zI (v1))), (2, .int (zI (v2))), (3, .int (zI (v3 + 1)))] rfl ?_
            exact ih v1 v2 (v3 + 1)  σ10 h
          · have h := h.2 c13
            refine z_aload_n C 2 dX0_meetHeard_59 rfl rfl ?_
            refine g_X0_3 C kf_X0_20 dX0_meetHeard_60 ?_
            refine z_iload C 1 dX0_meetHeard_63 rfl ?_
            refine z_bipush C dX0_meetHeard_65 rfl ?_
            refine z_imul C dX0_meetHeard_67 ?_
            refine z_iload C 0 dX0_meetHeard_68 rfl ?_
            refine z_iadd C dX0_meetHeard_70 ?_
            refine z_bipush C dX0_meetHeard_71 rfl ?_
            refine z_iadd C dX0_meetHeard_73 ?_
            refine z_dup2 C dX0_meetHeard_74 rfl rfl ?_
            obtain ⟨o14, h⟩ := h
            refine z_iald C ia_15 dX0_meetHeard_75 o14.1 o14.2 ?_
            refine z_iconst C dX0_meetHeard_76 ?_
            refine z_iadd C dX0_meetHeard_77 ?_
            refine z_iast C ia_15 dX0_meetHeard_78 o14.1 o14.2 ?_
            refine z_iinc C 5 [(3, .int (zI (v3 + 1))), (5, .int (zI ((σ 14 v3.toNat) - v2))), (4, .int (zI ((σ 13 v3.toNat) - v1))), (0, za x (12)), (1, .int (zI (v1))), (2, .int (zI (v2)))] dX0_meetHeard_79 rfl (by rw [hN]; decide) rfl ?_
            refine z_goto C 2 dX0_meetHeard_82 (by decide) ?_
            refine z_sub C [3, 4, 5, 0] [(0, za x (12)), (1, .int (zI (v1))), (2, .int (zI (v2))), (3, .int (zI (v3 + 1)))] rfl ?_
            exact ih v1 v2 (v3 + 1)  (zst σ10 15 (((((σ 13 v3.toNat) - v1) * 41) + ((σ 14 v3.toNat) - v2)) + 20).toNat ((σ10 15 (((((σ 13 v3.toNat) - v1) * 41) + ((σ 14 v3.toNat) - v2)) + 20).toNat) + 1)) h
def wX0_meetHeard (v1 : Int) (v2 : Int) (σ : Hp) (k : Hp → Prop) : Prop :=
  (∃ N1, wX0_meetHeard_2 k N1 v1 v2 0 σ)
set_option maxRecDepth 100000 in
theorem mX0_meetHeard (v1 : Int) (v2 : Int) (σ : Hp) (k : Hp → Prop) (h : wX0_meetHeard v1 v2 σ k) (l : Launch) : zMt l yX0_meetHeard cX0_meetHeard 6 (none) { frames := 1, cells := 0, slots := 0, locals := 22 } (fun w => [.ref (w.2.1 (12)), .int (zI (v1)), .int (zI (v2))]) σ (zPv k) := by
  refine zMt_of (plainFor_of_name (by decide)) (fun w => Nat.le_of_ble_eq_true rfl) (fun x hl hN C E => ?_)
  change zV x σ 0 [(0, za x (12)), (1, .int (zI (v1))), (2, .int (zI (v2)))] []
  change zOk x cX0_meetHeard RX0 (none) (1) (22) at C
  unfold wX0_meetHeard at h
  refine z_iconst C dX0_meetHeard_0 ?_
  refine z_istore_n C [(3, .int (zI (0))), (0, za x (12)), (1, .int (zI (v1))), (2, .int (zI (v2)))] dX0_meetHeard_1 rfl (by rw [hN]; decide) rfl ?_
  refine z_sub C [1, 2, 3, 0] [(0, za x (12)), (1, .int (zI (v1))), (2, .int (zI (v2))), (3, .int (zI (0)))] rfl ?_
  obtain ⟨n1, h⟩ := h
  exact sX0_meetHeard_2 C hN E n1 v1 v2 0  σ h
def wX3_columns (r0 : Nat) (σ : Hp) (k : Int → Hp → Prop) : Prop :=
  k (σ (29 + r0) 0) σ
set_option maxRecDepth 100000 in
theorem mX3_columns (r0 : Nat) (hr0 : r0 < 7) (σ : Hp) (k : Int → Hp → Prop) (h : wX3_columns r0 σ k) (l : Launch) : zMt l yX3_columns cX3_columns 1 (some .int) { frames := 0, cells := 0, slots := 0, locals := 0 } (fun w => [.ref (w.2.1 (29 + r0))]) σ (zPi k) := by
  refine zMt_of (plainFor_of_name (by decide)) (fun w => Nat.le_of_ble_eq_true rfl) (fun x hl hN C E => ?_)
  change zV x σ 0 [(0, za x (29 + r0))] []
  change zOk x cX3_columns RX3 (some .int) (0) (0) at C
  unfold wX3_columns at h
  refine z_aload_n C 0 dX3_columns_0 rfl rfl ?_
  refine g_X3_0 C hr0 kf_X3_9 dX3_columns_1 ?_
  exact z_iret C E dX3_columns_4 ⟨_, rfl, h⟩
def wX3_lineAt (r0 : Nat) (v1 : Int) (σ : Hp) (k : Int → Hp → Prop) : Prop :=
  wX6_within v1 0 ((σ (29 + r0) 0) - 1) σ (fun a2 σ1 => zrg a2 ∧ ((a2 = 0 → k 15 σ1) ∧ (¬ (a2 = 0) → (0 ≤ v1 ∧ v1 < 12) ∧ k (σ1 (36 + r0) v1.toNat) σ1)))
set_option maxRecDepth 100000 in
theorem mX3_lineAt (r0 : Nat) (v1 : Int) (hr0 : r0 < 7) (σ : Hp) (k : Int → Hp → Prop) (h : wX3_lineAt r0 v1 σ k) (l : Launch) : zMt l yX3_lineAt cX3_lineAt 2 (some .int) { frames := 1, cells := 0, slots := 0, locals := 22 } (fun w => [.ref (w.2.1 (29 + r0)), .int (zI (v1))]) σ (zPi k) := by
  refine zMt_of (plainFor_of_name (by decide)) (fun w => Nat.le_of_ble_eq_true rfl) (fun x hl hN C E => ?_)
  change zV x σ 0 [(0, za x (29 + r0)), (1, .int (zI (v1)))] []
  change zOk x cX3_lineAt RX3 (some .int) (1) (22) at C
  unfold wX3_lineAt at h
  refine z_iload_n C 1 dX3_lineAt_0 rfl rfl ?_
  refine z_iconst C dX3_lineAt_1 ?_
  refine z_aload_n C 0 dX3_lineAt_2 rfl rfl ?_
  refine g_X3_0 C hr0 kf_X3_9 dX3_lineAt_3 ?_
  refine z_iconst C dX3_lineAt_6 ?_
  refine z_isub C dX3_lineAt_7 ?_
  refine z_callN (av := fun w => [.int (zI (v1)), .int (zI (0)), .int (zI ((σ (29 + r0) 0) - 1))]) C [] cs_X6_within (mX6_within v1 0 ((σ (29 + r0) 0) - 1)  σ _ h) kn_X3_22 dX3_lineAt_8 rfl rfl ⟨rfl, rfl⟩ ⟨by decide, by decide⟩ (Nat.le_of_ble_eq_true rfl) (fun rv σ1 hp => ?_)
  obtain ⟨a2, rfl, h⟩ := hp
  change zV x σ1 11 [(0, za x (29 + r0)), (1, .int (zI (v1)))] [.int (zI (a2))]
  obtain ⟨o3, h⟩ := h
  refine z_if_eq C 23 dX3_lineAt_11 (by decide) o3 (fun c4 => ?_) (fun c4 => ?_)
  · have h := h.1 c4
    refine z_bipush C dX3_lineAt_23 rfl ?_
    exact z_iret C E dX3_lineAt_25 ⟨_, rfl, h⟩
  · have h := h.2 c4
    refine z_aload_n C 0 dX3_lineAt_14 rfl rfl ?_
    refine g_X3_2 C hr0 kf_X3_18 dX3_lineAt_15 ?_
    refine z_iload_n C 1 dX3_lineAt_18 rfl rfl ?_
    obtain ⟨o5, h⟩ := h
    refine z_iald C (zIA_line hr0) dX3_lineAt_19 o5.1 o5.2 ?_
    refine z_goto C 25 dX3_lineAt_20 (by decide) ?_
    exact z_iret C E dX3_lineAt_25 ⟨_, rfl, h⟩
def wX3_markedAt (r0 : Nat) (v1 : Int) (σ : Hp) (k : Int → Hp → Prop) : Prop :=
  wX3_lineAt r0 v1 σ (fun a2 σ1 => zrg a2 ∧ ((a2 = 15 → k 0 σ1) ∧ (¬ (a2 = 15) → k 1 σ1)))
set_option maxRecDepth 100000 in
theorem mX3_markedAt (r0 : Nat) (v1 : Int) (hr0 : r0 < 7) (σ : Hp) (k : Int → Hp → Prop) (h : wX3_markedAt r0 v1 σ k) (l : Launch) : zMt l yX3_markedAt cX3_markedAt 2 (some .boolean) { frames := 2, cells := 0, slots := 0, locals := 43 } (fun w => [.ref (w.2.1 (29 + r0)), .int (zI (v1))]) σ (zPi k) := by
  refine zMt_of (plainFor_of_name (by decide)) (fun w => Nat.le_of_ble_eq_true rfl) (fun x hl hN C E => ?_)
  change zV x σ 0 [(0, za x (29 + r0)), (1, .int (zI (v1)))] []
  change zOk x cX3_markedAt RX3 (some .boolean) (2) (43) at C
  unfold wX3_markedAt at h
  refine z_aload_n C 0 dX3_markedAt_0 rfl rfl ?_
  refine z_iload_n C 1 dX3_markedAt_1 rfl rfl ?_
  refine z_callV (av := fun w => [.int (zI (v1))]) C [] cs_X3_lineAt (by have := hr0; omega) (zcell_row hr0) rfl (mX3_lineAt r0 v1 hr0 σ _ h) km_X3_32 dX3_markedAt_2 rfl rfl ⟨rfl, rfl⟩ ⟨by decide, by decide⟩ (Nat.le_of_ble_eq_true rfl) (fun rv σ1 hp => ?_)
  obtain ⟨a2, rfl, h⟩ := hp
  change zV x σ1 5 [(0, za x (29 + r0)), (1, .int (zI (v1)))] [.int (zI (a2))]
  refine z_bipush C dX3_markedAt_5 rfl ?_
  obtain ⟨o3, h⟩ := h
  refine z_icmp_eq C 14 dX3_markedAt_7 (by decide) o3 (zrg_d rfl) (fun c4 => ?_) (fun c4 => ?_)
  · have h := h.1 c4
    refine z_iconst C dX3_markedAt_14 ?_
    exact z_zret C E dX3_markedAt_15 (by decide) ⟨_, rfl, h⟩
  · have h := h.2 c4
    refine z_iconst C dX3_markedAt_10 ?_
    refine z_goto C 15 dX3_markedAt_11 (by decide) ?_
    exact z_zret C E dX3_markedAt_15 (by decide) ⟨_, rfl, h⟩
def wX0_seek_49 (k : Hp → Prop) : Nat → Int → Hp → Prop
  | 0, _, _ => False
  | n + 1, v2, σ => zrg v2 ∧ zrg (((779 : Nat) : Int)) ∧ ((((779 : Nat) : Int) ≤ v2 → k σ) ∧ (¬ (((779 : Nat) : Int) ≤ v2) → (0 ≤ v2 ∧ v2 < 779) ∧ (0 ≤ σ 12 4 ∧ σ 12 4 < 779) ∧ zrg (σ 15 v2.toNat) ∧ zrg (σ 15 (σ 12 4).toNat) ∧ ((σ 15 v2.toNat ≤ σ 15 (σ 12 4).toNat → wX0_seek_49 k n (v2 + 1) σ) ∧ (¬ (σ 15 v2.toNat ≤ σ 15 (σ 12 4).toNat) → wX0_seek_49 k n (v2 + 1) (zst σ 12 4 v2)))))
set_option maxRecDepth 100000 in
theorem sX0_seek_49 {x : Cx} (C : zOk x cX0_seek RX0 (none) (3) (64)) (hN : x.2.2.2.2.1 = 3) {k : Hp → Prop} (E : zEnd x (zPv k x.2.1)) : ∀ (n : Nat) (v2 : Int) (σ : Hp), wX0_seek_49 k n v2 σ → zV x σ 49 [(0, za x (12)), (2, .int (zI (v2)))] [] := by
  intro n
  induction n with
  | zero => intro _ _ h; exact h.elim
  | succ n ih =>
    intro v2 σ h
    unfold wX0_seek_49 at h
    refine z_iload_n C 1 dX0_seek_49 rfl rfl ?_
    refine z_aload_n C 0 dX0_seek_50 rfl rfl ?_
    refine g_X0_3 C kf_X0_20 dX0_seek_51 ?_
    refine z_alen C ia_15 dX0_seek_54 ?_
    obtain ⟨o1, h⟩ := h
    obtain ⟨o2, h⟩ := h
    refine z_icmp_ge C 87 dX0_seek_55 (by decide) o1 o2 (fun c3 => ?_) (fun c3 => ?_)
    · have h := h.1 c3
      exact z_vret C E dX0_seek_87 ⟨rfl, h⟩
    · have h := h.2 c3
      refine z_aload_n C 0 dX0_seek_58 rfl rfl ?_
      refine g_X0_3 C kf_X0_20 dX0_seek_59 ?_
      refine z_iload_n C 1 dX0_seek_62 rfl rfl ?_
      obtain ⟨o4, h⟩ := h
      refine z_iald C ia_15 dX0_seek_63 o4.1 o4.2 ?_
      refine z_aload_n C 0 dX0_seek_64 rfl rfl ?_
      refine g_X0_3 C kf_X0_20 dX0_seek_65 ?_
      refine z_aload_n C 0 dX0_seek_68 rfl rfl ?_
      refine g_X0_4 C kf_X0_53 dX0_seek_69 ?_
      obtain ⟨o5, h⟩ := h
      refine z_iald C ia_15 dX0_seek_72 o5.1 o5.2 ?_
      obtain ⟨o6, h⟩ := h
      obtain ⟨o7, h⟩ := h
      refine z_icmp_le C 81 dX0_seek_73 (by decide) o6 o7 (fun c8 => ?_) (fun c8 => ?_)
      · have h := h.1 c8
        refine z_iinc C 1 [(2, .int (zI (v2 + 1))), (0, za x (12))] dX0_seek_81 rfl (by rw [hN]; decide) rfl ?_
        refine z_goto C 49 dX0_seek_84 (by decide) ?_
        refine z_sub C [1, 0] [(0, za x (12)), (2, .int (zI (v2 + 1)))] rfl ?_
        exact ih (v2 + 1)  σ h
      · have h := h.2 c8
        refine z_aload_n C 0 dX0_seek_76 rfl rfl ?_
        refine z_iload_n C 1 dX0_seek_77 rfl rfl ?_
        refine p_X0_4 C kf_X0_53 dX0_seek_78 ?_
        refine z_iinc C 1 [(2, .int (zI (v2 + 1))), (0, za x (12))] dX0_seek_81 rfl (by rw [hN]; decide) rfl ?_
        refine z_goto C 49 dX0_seek_84 (by decide) ?_
        refine z_sub C [1, 0] [(0, za x (12)), (2, .int (zI (v2 + 1)))] rfl ?_
        exact ih (v2 + 1)  (zst σ 12 4 v2) h
def wX0_seek_10 (k : Hp → Prop) : Nat → Nat → Int → Hp → Prop
  | 0, _, _, _ => False
  | n + 1, r1, v2, σ => wX3_columns r1 σ (fun a2 σ1 => zrg v2 ∧ zrg a2 ∧ ((a2 ≤ v2 → (∃ N6, wX0_seek_49 k N6 1 (zst σ1 12 4 0))) ∧ (¬ (a2 ≤ v2) → wX3_markedAt r1 v2 σ1 (fun a8 σ7 => zrg a8 ∧ ((a8 = 0 → wX0_seek_10 k n r1 (v2 + 1) σ7) ∧ (¬ (a8 = 0) → wX3_lineAt r1 v2 σ7 (fun a12 σ11 => wX0_meetHeard v2 a12 σ11 (fun σ13 => wX0_seek_10 k n r1 (v2 + 1) σ13))))))))
set_option maxRecDepth 100000 in
theorem sX0_seek_10 {x : Cx} (C : zOk x cX0_seek RX0 (none) (3) (64)) (hN : x.2.2.2.2.1 = 3) {k : Hp → Prop} (E : zEnd x (zPv k x.2.1)) : ∀ (n : Nat) (r1 : Nat) (v2 : Int) (hr1 : r1 < 7) (σ : Hp), wX0_seek_10 k n r1 v2 σ → zV x σ 10 [(0, za x (12)), (1, za x (29 + r1)), (2, .int (zI (v2)))] [] := by
  intro n
  induction n with
  | zero => intro _ _ _ _ h; exact h.elim
  | succ n ih =>
    intro r1 v2 hr1 σ h
    unfold wX0_seek_10 at h
    refine z_iload_n C 2 dX0_seek_10 rfl rfl ?_
    refine z_aload_n C 1 dX0_seek_11 rfl rfl ?_
    refine z_callV (av := fun w => []) C [.int (zI (v2))] cs_X3_columns (by have := hr1; omega) (zcell_row hr1) rfl (mX3_columns r1 hr1 σ _ h) km_X0_35 dX0_seek_12 rfl rfl ⟨rfl, rfl⟩ ⟨by decide, by decide⟩ (Nat.le_of_ble_eq_true rfl) (fun rv σ1 hp => ?_)
    obtain ⟨a2, rfl, h⟩ := hp
    change zV x σ1 15 [(0, za x (12)), (1, za x (29 + r1)), (2, .int (zI (v2)))] [.int (zI (a2)), .int (zI (v2))]
    obtain ⟨o3, h⟩ := h
    obtain ⟨o4, h⟩ := h
    refine z_icmp_ge C 42 dX0_seek_15 (by decide) o3 o4 (fun c5 => ?_) (fun c5 => ?_)
    · have h := h.1 c5
      refine z_aload_n C 0 dX0_seek_42 rfl rfl ?_
      refine z_iconst C dX0_seek_43 ?_
      refine p_X0_4 C kf_X0_53 dX0_seek_44 ?_
      refine z_iconst C dX0_seek_47 ?_
      refine z_istore_n C [(2, .int (zI (1))), (0, za x (12)), (1, za x (29 + r1))] dX0_seek_48 rfl (by rw [hN]; decide) rfl ?_
      refine z_sub C [1, 0] [(0, za x (12)), (2, .int (zI (1)))] rfl ?_
      obtain ⟨n6, h⟩ := h
      exact sX0_seek_49 C hN E n6 1  (zst σ1 12 4 0) h
    · have h := h.2 c5
      refine z_aload_n C 1 dX0_seek_18 rfl rfl ?_
      refine z_iload_n C 2 dX0_seek_19 rfl rfl ?_
      refine z_callV (av := fun w => [.int (zI (v2))]) C [] cs_X3_markedAt (by have := hr1; omega) (zcell_row hr1) rfl (mX3_markedAt r1 v2 hr1 σ1 _ h) km_X0_41 dX0_seek_20 rfl rfl ⟨rfl, rfl⟩ ⟨by decide, by decide⟩ (Nat.le_of_ble_eq_true rfl) (fun rv σ7 hp => ?_)
      obtain ⟨a8, rfl, h⟩ := hp
      change zV x σ7 23 [(0, za x (12)), (1, za x (29 + r1)), (2, .int (zI (v2)))] [.int (zI (a8))]
      obtain ⟨o9, h⟩ := h
      refine z_if_eq C 36 dX0_seek_23 (by decide) o9 (fun c10 => ?_) (fun c10 => ?_)
      · have h := h.1 c10
        refine z_iinc C 2 [(2, .int (zI (v2 + 1))), (0, za x (12)), (1, za x (29 + r1))] dX0_seek_36 rfl (by rw [hN]; decide) rfl ?_
        refine z_goto C 10 dX0_seek_39 (by decide) ?_
        refine z_sub C [1, 2, 0] [(0, za x (12)), (1, za x (29 + r1)), (2, .int (zI (v2 + 1)))] rfl ?_
        exact ih r1 (v2 + 1) hr1 σ7 h
      · have h := h.2 c10
        refine z_aload_n C 0 dX0_seek_26 rfl rfl ?_
        refine z_iload_n C 2 dX0_seek_27 rfl rfl ?_
        refine z_aload_n C 1 dX0_seek_28 rfl rfl ?_
        refine z_iload_n C 2 dX0_seek_29 rfl rfl ?_
        refine z_callV (av := fun w => [.int (zI (v2))]) C [.int (zI (v2)), za x (12)] cs_X3_lineAt (by have := hr1; omega) (zcell_row hr1) rfl (mX3_lineAt r1 v2 hr1 σ7 _ h) km_X0_45 dX0_seek_30 rfl rfl ⟨rfl, rfl⟩ ⟨by decide, by decide⟩ (Nat.le_of_ble_eq_true rfl) (fun rv σ11 hp => ?_)
        obtain ⟨a12, rfl, h⟩ := hp
        change zV x σ11 33 [(0, za x (12)), (1, za x (29 + r1)), (2, .int (zI (v2)))] [.int (zI (a12)), .int (zI (v2)), za x (12)]
        refine z_callV (av := fun w => [.int (zI (v2)), .int (zI (a12))]) C [] cs_X0_meetHeard (by decide) (fun _ _ => rfl) rfl (mX0_meetHeard v2 a12  σ11 _ h) km_X0_49 dX0_seek_33 rfl rfl ⟨rfl, rfl⟩ ⟨by decide, by decide⟩ (Nat.le_of_ble_eq_true rfl) (fun rv σ13 hp => ?_)
        obtain ⟨rfl, h⟩ := hp
        change zV x σ13 36 [(0, za x (12)), (1, za x (29 + r1)), (2, .int (zI (v2)))] []
        refine z_iinc C 2 [(2, .int (zI (v2 + 1))), (0, za x (12)), (1, za x (29 + r1))] dX0_seek_36 rfl (by rw [hN]; decide) rfl ?_
        refine z_goto C 10 dX0_seek_39 (by decide) ?_
        refine z_sub C [1, 2, 0] [(0, za x (12)), (1, za x (29 + r1)), (2, .int (zI (v2 + 1)))] rfl ?_
        exact ih r1 (v2 + 1) hr1 σ13 h
def wX0_seek (r1 : Nat) (σ : Hp) (k : Hp → Prop) : Prop :=
  wJ7_fill_53178 15 779 0 σ (fun σ1 => (∃ N2, wX0_seek_10 k N2 r1 0 σ1))
set_option maxRecDepth 100000 in
theorem mX0_seek (r1 : Nat) (hr1 : r1 < 7) (σ : Hp) (k : Hp → Prop) (h : wX0_seek r1 σ k) (l : Launch) : zMt l yX0_seek cX0_seek 3 (none) { frames := 3, cells := 0, slots := 0, locals := 64 } (fun w => [.ref (w.2.1 (12)), .ref (w.2.1 (29 + r1))]) σ (zPv k) := by
  refine zMt_of (plainFor_of_name (by decide)) (fun w => Nat.le_of_ble_eq_true rfl) (fun x hl hN C E => ?_)
  change zV x σ 0 [(0, za x (12)), (1, za x (29 + r1))] []
  change zOk x cX0_seek RX0 (none) (3) (64) at C
  unfold wX0_seek at h
  refine z_aload_n C 0 dX0_seek_0 rfl rfl ?_
  refine g_X0_3 C kf_X0_20 dX0_seek_1 ?_
  refine z_iconst C dX0_seek_4 ?_
  refine z_callS (av := fun w => [.ref (w.2.1 (15)), .int (zI (0))]) C [] cs_J7_fill_53178 (mJ7_fill_53178 15 779 0 ia_15 σ _ h) km_X0_29 dX0_seek_5 rfl rfl ⟨rfl, rfl⟩ ⟨by decide, by decide⟩ (Nat.le_of_ble_eq_true rfl) (fun rv σ1 hp => ?_)
  obtain ⟨rfl, h⟩ := hp
  change zV x σ1 8 [(0, za x (12)), (1, za x (29 + r1))] []
  refine z_iconst C dX0_seek_8 ?_
  refine z_istore_n C [(2, .int (zI (0))), (0, za x (12)), (1, za x (29 + r1))] dX0_seek_9 rfl (by rw [hN]; decide) rfl ?_
  refine z_sub C [1, 2, 0] [(0, za x (12)), (1, za x (29 + r1)), (2, .int (zI (0)))] rfl ?_
  obtain ⟨n2, h⟩ := h
  exact sX0_seek_10 C hN E n2 r1 0 hr1 σ1 h
def wX0_size (σ : Hp) (k : Int → Hp → Prop) : Prop :=
  k (σ 12 2) σ
set_option maxRecDepth 100000 in
theorem mX0_size (σ : Hp) (k : Int → Hp → Prop) (h : wX0_size  σ k) (l : Launch) : zMt l yX0_size cX0_size 1 (some .int) { frames := 0, cells := 0, slots := 0, locals := 0 } (fun w => [.ref (w.2.1 (12))]) σ (zPi k) := by
  refine zMt_of (plainFor_of_name (by decide)) (fun w => Nat.le_of_ble_eq_true rfl) (fun x hl hN C E => ?_)
  change zV x σ 0 [(0, za x (12))] []
  change zOk x cX0_size RX0 (some .int) (0) (0) at C
  unfold wX0_size at h
  refine z_aload_n C 0 dX0_size_0 rfl rfl ?_
  refine g_X0_2 C kf_X0_16 dX0_size_1 ?_
  exact z_iret C E dX0_size_4 ⟨_, rfl, h⟩
def wX1_bestDx (σ : Hp) (k : Int → Hp → Prop) : Prop :=
  zrg (σ 4 2) ∧ k ((Int.tdiv (σ 4 2) 25) - 12) σ
set_option maxRecDepth 100000 in
theorem mX1_bestDx (σ : Hp) (k : Int → Hp → Prop) (h : wX1_bestDx  σ k) (l : Launch) : zMt l yX1_bestDx cX1_bestDx 1 (some .int) { frames := 0, cells := 0, slots := 0, locals := 0 } (fun w => [.ref (w.2.1 (4))]) σ (zPi k) := by
  refine zMt_of (plainFor_of_name (by decide)) (fun w => Nat.le_of_ble_eq_true rfl) (fun x hl hN C E => ?_)
  change zV x σ 0 [(0, za x (4))] []
  change zOk x cX1_bestDx RX1 (some .int) (0) (0) at C
  unfold wX1_bestDx at h
  refine z_aload_n C 0 dX1_bestDx_0 rfl rfl ?_
  refine g_X1_2 C kf_X1_54 dX1_bestDx_1 ?_
  refine z_bipush C dX1_bestDx_4 rfl ?_
  obtain ⟨o1, h⟩ := h
  refine z_idiv C dX1_bestDx_6 o1 (zrg_d rfl) (by decide) ?_
  refine z_bipush C dX1_bestDx_7 rfl ?_
  refine z_isub C dX1_bestDx_9 ?_
  exact z_iret C E dX1_bestDx_10 ⟨_, rfl, h⟩
def wX1_bestDy (σ : Hp) (k : Int → Hp → Prop) : Prop :=
  zrg (σ 4 2) ∧ k ((Int.tmod (σ 4 2) 25) - 12) σ
set_option maxRecDepth 100000 in
theorem mX1_bestDy (σ : Hp) (k : Int → Hp → Prop) (h : wX1_bestDy  σ k) (l : Launch) : zMt l yX1_bestDy cX1_bestDy 1 (some .int) { frames := 0, cells := 0, slots := 0, locals := 0 } (fun w => [.ref (w.2.1 (4))]) σ (zPi k) := by
  refine zMt_of (plainFor_of_name (by decide)) (fun w => Nat.le_of_ble_eq_true rfl) (fun x hl hN C E => ?_)
  change zV x σ 0 [(0, za x (4))] []
  change zOk x cX1_bestDy RX1 (some .int) (0) (0) at C
  unfold wX1_bestDy at h
  refine z_aload_n C 0 dX1_bestDy_0 rfl rfl ?_
  refine g_X1_2 C kf_X1_54 dX1_bestDy_1 ?_
  refine z_bipush C dX1_bestDy_4 rfl ?_
  obtain ⟨o1, h⟩ := h
  refine z_irem C dX1_bestDy_6 o1 (zrg_d rfl) (by decide) ?_
  refine z_bipush C dX1_bestDy_7 rfl ?_
  refine z_isub C dX1_bestDy_9 ?_
  exact z_iret C E dX1_bestDy_10 ⟨_, rfl, h⟩
def wX1_bestMeeting (σ : Hp) (k : Int → Hp → Prop) : Prop :=
  k (σ 4 1) σ
set_option maxRecDepth 100000 in
theorem mX1_bestMeeting (σ : Hp) (k : Int → Hp → Prop) (h : wX1_bestMeeting  σ k) (l : Launch) : zMt l yX1_bestMeeting cX1_bestMeeting 1 (some .int) { frames := 0, cells := 0, slots := 0, locals := 0 } (fun w => [.ref (w.2.1 (4))]) σ (zPi k) := by
  refine zMt_of (plainFor_of_name (by decide)) (fun w => Nat.le_of_ble_eq_true rfl) (fun x hl hN C E => ?_)
  change zV x σ 0 [(0, za x (4))] []
  change zOk x cX1_bestMeeting RX1 (some .int) (0) (0) at C
  unfold wX1_bestMeeting at h
  refine z_aload_n C 0 dX1_bestMeeting_0 rfl rfl ?_
  refine g_X1_1 C kf_X1_50 dX1_bestMeeting_1 ?_
  exact z_iret C E dX1_bestMeeting_4 ⟨_, rfl, h⟩
def wX1_placeOf (v0 : Int) (v1 : Int) (σ : Hp) (k : Int → Hp → Prop) : Prop :=
  k ((((v0 + 12) * 25) + v1) + 12) σ
set_option maxRecDepth 100000 in
theorem mX1_placeOf (v0 : Int) (v1 : Int) (σ : Hp) (k : Int → Hp → Prop) (h : wX1_placeOf v0 v1 σ k) (l : Launch) : zMt l yX1_placeOf cX1_placeOf 2 (some .int) { frames := 0, cells := 0, slots := 0, locals := 0 } (fun w => [.int (zI (v0)), .int (zI (v1))]) σ (zPi k) := by
  refine zMt_of (plainFor_of_name (by decide)) (fun w => Nat.le_of_ble_eq_true rfl) (fun x hl hN C E => ?_)
  change zV x σ 0 [(0, .int (zI (v0))), (1, .int (zI (v1)))] []
  change zOk x cX1_placeOf RX1 (some .int) (0) (0) at C
  unfold wX1_placeOf at h
  refine z_iload_n C 0 dX1_placeOf_0 rfl rfl ?_
  refine z_bipush C dX1_placeOf_1 rfl ?_
  refine z_iadd C dX1_placeOf_3 ?_
  refine z_bipush C dX1_placeOf_4 rfl ?_
  refine z_imul C dX1_placeOf_6 ?_
  refine z_iload_n C 1 dX1_placeOf_7 rfl rfl ?_
  refine z_iadd C dX1_placeOf_8 ?_
  refine z_bipush C dX1_placeOf_9 rfl ?_
  refine z_iadd C dX1_placeOf_11 ?_
  exact z_iret C E dX1_placeOf_12 ⟨_, rfl, h⟩
def wX6_isMove (v0 : Int) (σ : Hp) (k : Int → Hp → Prop) : Prop :=
  wX6_within v0 ((-12)) 12 σ (fun a2 σ1 => (a2 = 0 ∨ a2 = 1) ∧ k a2 σ1)
set_option maxRecDepth 100000 in
theorem mX6_isMove (v0 : Int) (σ : Hp) (k : Int → Hp → Prop) (h : wX6_isMove v0 σ k) (l : Launch) : zMt l yX6_isMove cX6_isMove 1 (some .boolean) { frames := 1, cells := 0, slots := 0, locals := 22 } (fun w => [.int (zI (v0))]) σ (zPi k) := by
  refine zMt_of (plainFor_of_name (by decide)) (fun w => Nat.le_of_ble_eq_true rfl) (fun x hl hN C E => ?_)
  change zV x σ 0 [(0, .int (zI (v0)))] []
  change zOk x cX6_isMove RX6 (some .boolean) (1) (22) at C
  unfold wX6_isMove at h
  refine z_iload_n C 0 dX6_isMove_0 rfl rfl ?_
  refine z_bipush C dX6_isMove_1 rfl ?_
  refine z_bipush C dX6_isMove_3 rfl ?_
  refine z_callS (av := fun w => [.int (zI (v0)), .int (zI ((-12))), .int (zI (12))]) C [] cs_X6_within (mX6_within v0 ((-12)) 12  σ _ h) km_X6_63 dX6_isMove_5 rfl rfl ⟨rfl, rfl⟩ ⟨by decide, by decide⟩ (Nat.le_of_ble_eq_true rfl) (fun rv σ1 hp => ?_)
  obtain ⟨a2, rfl, h⟩ := hp
  change zV x σ1 8 [(0, .int (zI (v0)))] [.int (zI (a2))]
  obtain ⟨o3, h⟩ := h
  exact z_zret C E dX6_isMove_8 o3 ⟨_, rfl, h⟩
def wX1_meetAll_3 (k : Hp → Prop) : Nat → Int → Int → Nat → Int → Hp → Prop
  | 0, _, _, _, _, _ => False
  | n + 1, v1, v2, r3, v4, σ => wX3_columns r3 σ (fun a2 σ1 => zrg v4 ∧ zrg a2 ∧ ((a2 ≤ v4 → k σ1) ∧ (¬ (a2 ≤ v4) → wX3_lineAt r3 v4 σ1 (fun a7 σ6 => wX3_markedAt r3 v4 σ6 (fun a9 σ8 => zrg a9 ∧ ((a9 = 0 → wX1_meetAll_3 k n v1 v2 r3 (v4 + 1) σ8) ∧ (¬ (a9 = 0) → wX6_isMove (v4 - v1) σ8 (fun a13 σ12 => zrg a13 ∧ ((a13 = 0 → wX1_meetAll_3 k n v1 v2 r3 (v4 + 1) σ12) ∧ (¬ (a13 = 0) → wX6_isMove (a7 - v2) σ12 (fun a17 σ16 => zrg a17 ∧ ((a17 = 0 → wX1_meetAll_3 k n v1 v2 r3 (v4 + 1) σ16) ∧ (¬ (a17 = 0) → wX1_placeOf (v4 - v1) (a7 - v2) σ16 (fun a21 σ20 => (0 ≤ a21 ∧ a21 < 625) ∧ wX1_meetAll_3 k n v1 v2 r3 (v4 + 1) (zst σ20 5 a21.toNat ((σ20 5 a21.toNat) + 1))))))))))))))))
set_option maxRecDepth 100000 in
theorem sX1_meetAll_3 {x : Cx} (C : zOk x cX1_meetAll RX1 (none) (3) (64)) (hN : x.2.2.2.2.1 = 7) {k : Hp → Prop} (E : zEnd x (zPv k x.2.1)) : ∀ (n : Nat) (v1 : Int) (v2 : Int) (r3 : Nat) (v4 : Int) (hr3 : r3 < 7) (σ : Hp), wX1_meetAll_3 k n v1 v2 r3 v4 σ → zV x σ 3 [(0, za x (4)), (1, .int (zI (v1))), (2, .int (zI (v2))), (3, za x (29 + r3)), (4, .int (zI (v4)))] [] := by
  intro n
  induction n with
  | zero => intro _ _ _ _ _ _ h; exact h.elim
  | succ n ih =>
    intro v1 v2 r3 v4 hr3 σ h
    unfold wX1_meetAll_3 at h
    refine z_iload C 4 dX1_meetAll_3 rfl ?_
    refine z_aload_n C 3 dX1_meetAll_5 rfl rfl ?_
    refine z_callV (av := fun w => []) C [.int (zI (v4))] cs_X3_columns (by have := hr3; omega) (zcell_row hr3) rfl (mX3_columns r3 hr3 σ _ h) km_X1_21 dX1_meetAll_6 rfl rfl ⟨rfl, rfl⟩ ⟨by decide, by decide⟩ (Nat.le_of_ble_eq_true rfl) (fun rv σ1 hp => ?_)
    obtain ⟨a2, rfl, h⟩ := hp
    change zV x σ1 9 [(0, za x (4)), (1, .int (zI (v1))), (2, .int (zI (v2))), (3, za x (29 + r3)), (4, .int (zI (v4)))] [.int (zI (a2)), .int (zI (v4))]
    obtain ⟨o3, h⟩ := h
    obtain ⟨o4, h⟩ := h
    refine z_icmp_ge C 75 dX1_meetAll_9 (by decide) o3 o4 (fun c5 => ?_) (fun c5 => ?_)
    · have h := h.1 c5
      exact z_vret C E dX1_meetAll_75 ⟨rfl, h⟩
    · have h := h.2 c5
      refine z_iload C 4 dX1_meetAll_12 rfl ?_
      refine z_iload_n C 1 dX1_meetAll_14 rfl rfl ?_
      refine z_isub C dX1_meetAll_15 ?_
      refine z_istore C [(5, .int (zI (v4 - v1))), (0, za x (4)), (1, .int (zI (v1))), (2, .int (zI (v2))), (3, za x (29 + r3)), (4, .int (zI (v4)))] dX1_meetAll_16 (by rw [hN]; decide) rfl ?_
      refine z_aload_n C 4 dX1_meetAll_18 rfl rfl ?_
      refine z_iload C 5 dX1_meetAll_19 rfl ?_
      refine z_callV (av := fun w => [.int (zI (v4))]) C [] cs_X3_lineAt (by have := hr3; omega) (zcell_row hr3) rfl (mX3_lineAt r3 v4 hr3 σ1 _ h) km_X1_31 dX1_meetAll_21 rfl rfl ⟨rfl, rfl⟩ ⟨by decide, by decide⟩ (Nat.le_of_ble_eq_true rfl) (fun rv σ6 hp => ?_)
      obtain ⟨a7, rfl, h⟩ := hp
      change zV x σ6 24 [(5, .int (zI (v4 - v1))), (0, za x (4)), (1, .int (zI (v1))), (2, .int (zI (v2))), (3, za x (29 + r3)), (4, .int (zI (v4)))] [.int (zI (a7))]
      refine z_iload_n C 3 dX1_meetAll_24 rfl rfl ?_
      refine z_isub C dX1_meetAll_25 ?_
      refine z_istore C [(6, .int (zI (a7 - v2))), (5, .int (zI (v4 - v1))), (0, za x (4)), (1, .int (zI (v1))), (2, .int (zI (v2))), (3, za x (29 + r3)), (4, .int (zI (v4)))] dX1_meetAll_26 (by rw [hN]; decide) rfl ?_
      refine z_aload_n C 5 dX1_meetAll_28 rfl rfl ?_
      refine z_iload C 6 dX1_meetAll_29 rfl ?_
      refine z_callV (av := fun w => [.int (zI (v4))]) C [] cs_X3_markedAt (by have := hr3; omega) (zcell_row hr3) rfl (mX3_markedAt r3 v4 hr3 σ6 _ h) km_X1_27 dX1_meetAll_31 rfl rfl ⟨rfl, rfl⟩ ⟨by decide, by decide⟩ (Nat.le_of_ble_eq_true rfl) (fun rv σ8 hp => ?_)
      obtain ⟨a9, rfl, h⟩ := hp
      change zV x σ8 34 [(6, .int (zI (a7 - v2))), (5, .int (zI (v4 - v1))), (0, za x (4)), (1, .int (zI (v1))), (2, .int (zI (v2))), (3, za x (29 + r3)), (4, .int (zI (v4)))] [.int (zI (a9))]
      obtain ⟨o10, h⟩ := h
      refine z_if_eq C 69 dX1_meetAll_34 (by decide) o10 (fun c11 => ?_) (fun c11 => ?_)
      · have h := h.1 c11
        refine z_iinc C 6 [(4, .int (zI (v4 + 1))), (6, .int (zI (a7 - v2))), (5, .int (zI (v4 - v1))), (0, za x (4)), (1, .int (zI (v1))), (2, .int (zI (v2))), (3, za x (29 + r3))] dX1_meetAll_69 rfl (by rw [hN]; decide) rfl ?_
        refine z_goto C 3 dX1_meetAll_72 (by decide) ?_
        refine z_sub C [3, 4, 5, 6, 0] [(0, za x (4)), (1, .int (zI (v1))), (2, .int (zI (v2))), (3, za x (29 + r3)), (4, .int (zI (v4 + 1)))] rfl ?_
        exact ih v1 v2 r3 (v4 + 1) hr3 σ8 h
      · have h := h.2 c11
        refine z_iload C 1 dX1_meetAll_37 rfl ?_
        refine z_callN (av := fun w => [.int (zI (v4 - v1))]) C [] cs_X6_isMove (mX6_isMove (v4 - v1)  σ8 _ h) kn_X1_47 dX1_meetAll_39 rfl rfl ⟨rfl, rfl⟩ ⟨by decide, by decide⟩ (Nat.le_of_ble_eq_true rfl) (fun rv σ12 hp => ?_)
        obtain ⟨a13, rfl, h⟩ := hp
        change zV x σ12 42 [(6, .int (zI (a7 - v2))), (5, .int (zI (v4 - v1))), (0, za x (4)), (1, .int (zI (v1))), (2, .int (zI (v2))), (3, za x (29 + r3)), (4, .int (zI (v4)))] [.int (zI (a13))]
        obtain ⟨o14, h⟩ := h
        refine z_if_eq C 69 dX1_meetAll_42 (by decide) o14 (fun c15 => ?_) (fun c15 => ?_)
        · have h := h.1 c15
          refine z_iinc C 6 [(4, .int (zI (v4 + 1))), (6, .int (zI (a7 - v2))), (5, .int (zI (v4 - v1))), (0, za x (4)), (1, .int (zI (v1))), (2, .int (zI (v2))), (3, za x (29 + r3))] dX1_meetAll_69 rfl (by rw [hN]; decide) rfl ?_
          refine z_goto C 3 dX1_meetAll_72 (by decide) ?_
          refine z_sub C [3, 4, 5, 6, 0] [(0, za x (4)), (1, .int (zI (v1))), (2, .int (zI (v2))), (3, za x (29 + r3)), (4, .int (zI (v4 + 1)))] rfl ?_
          exact ih v1 v2 r3 (v4 + 1) hr3 σ12 h
        · have h := h.2 c15
          refine z_iload C 0 dX1_meetAll_45 rfl ?_
          refine z_callN (av := fun w => [.int (zI (a7 - v2))]) C [] cs_X6_isMove (mX6_isMove (a7 - v2)  σ12 _ h) kn_X1_47 dX1_meetAll_47 rfl rfl ⟨rfl, rfl⟩ ⟨by decide, by decide⟩ (Nat.le_of_ble_eq_true rfl) (fun rv σ16 hp => ?_)
          obtain ⟨a17, rfl, h⟩ := hp
          change zV x σ16 50 [(6, .int (zI (a7 - v2))), (5, .int (zI (v4 - v1))), (0, za x (4)), (1, .int (zI (v1))), (2, .int (zI (v2))), (3, za x (29 + r3)), (4, .int (zI (v4)))] [.int (zI (a17))]
          obtain ⟨o18, h⟩ := h
          refine z_if_eq C 69 dX1_meetAll_50 (by decide) o18 (fun c19 => ?_) (fun c19 => ?_)
          · have h := h.1 c19
            refine z_iinc C 6 [(4, .int (zI (v4 + 1))), (6, .int (zI (a7 - v2))), (5, .int (zI (v4 - v1))), (0, za x (4)), (1, .int (zI (v1))), (2, .int (zI (v2))), (3, za x (29 + r3))] dX1_meetAll_69 rfl (by rw [hN]; decide) rfl ?_
            refine z_goto C 3 dX1_meetAll_72 (by decide) ?_
            refine z_sub C [3, 4, 5, 6, 0] [(0, za x (4)), (1, .int (zI (v1))), (2, .int (zI (v2))), (3, za x (29 + r3)), (4, .int (zI (v4 + 1)))] rfl ?_
            exact ih v1 v2 r3 (v4 + 1) hr3 σ16 h
          · have h := h.2 c19
            refine z_aload_n C 2 dX1_meetAll_53 rfl rfl ?_
            refine g_X1_0 C kf_X1_11 dX1_meetAll_54 ?_
            refine z_iload C 1 dX1_meetAll_57 rfl ?_
            refine z_iload C 0 dX1_meetAll_59 rfl ?_
            refine z_callS (av := fun w => [.int (zI (v4 - v1)), .int (zI (a7 - v2))]) C [za x (5)] cs_X1_placeOf (mX1_placeOf (v4 - v1) (a7 - v2)  σ16 _ h) km_X1_39 dX1_meetAll_61 rfl rfl ⟨rfl, rfl⟩ ⟨by decide, by decide⟩ (Nat.le_of_ble_eq_true rfl) (fun rv σ20 hp => ?_)
            obtain ⟨a21, rfl, h⟩ := hp
            change zV x σ20 64 [(6, .int (zI (a7 - v2))), (5, .int (zI (v4 - v1))), (0, za x (4)), (1, .int (zI (v1))), (2, .int (zI (v2))), (3, za x (29 + r3)), (4, .int (zI (v4)))] [.int (zI (a21)), za x (5)]
            refine z_dup2 C dX1_meetAll_64 rfl rfl ?_
            obtain ⟨o22, h⟩ := h
            refine z_iald C ia_5 dX1_meetAll_65 o22.1 o22.2 ?_
            refine z_iconst C dX1_meetAll_66 ?_
            refine z_iadd C dX1_meetAll_67 ?_
            refine z_iast C ia_5 dX1_meetAll_68 o22.1 o22.2 ?_
            refine z_iinc C 6 [(4, .int (zI (v4 + 1))), (6, .int (zI (a7 - v2))), (5, .int (zI (v4 - v1))), (0, za x (4)), (1, .int (zI (v1))), (2, .int (zI (v2))), (3, za x (29 + r3))] dX1_meetAll_69 rfl (by rw [hN]; decide) rfl ?_
            refine z_goto C 3 dX1_meetAll_72 (by decide) ?_
            refine z_sub C [3, 4, 5, 6, 0] [(0, za x (4)), (1, .int (zI (v1))), (2, .int (zI (v2))), (3, za x (29 + r3)), (4, .int (zI (v4 + 1)))] rfl ?_
            exact ih v1 v2 r3 (v4 + 1) hr3 (zst σ20 5 a21.toNat ((σ20 5 a21.toNat) + 1)) h
def wX1_meetAll (v1 : Int) (v2 : Int) (r3 : Nat) (σ : Hp) (k : Hp → Prop) : Prop :=
  (∃ N1, wX1_meetAll_3 k N1 v1 v2 r3 0 σ)
set_option maxRecDepth 100000 in
theorem mX1_meetAll (v1 : Int) (v2 : Int) (r3 : Nat) (hr3 : r3 < 7) (σ : Hp) (k : Hp → Prop) (h : wX1_meetAll v1 v2 r3 σ k) (l : Launch) : zMt l yX1_meetAll cX1_meetAll 7 (none) { frames := 3, cells := 0, slots := 0, locals := 64 } (fun w => [.ref (w.2.1 (4)), .int (zI (v1)), .int (zI (v2)), .ref (w.2.1 (29 + r3))]) σ (zPv k) := by
  refine zMt_of (plainFor_of_name (by decide)) (fun w => Nat.le_of_ble_eq_true rfl) (fun x hl hN C E => ?_)
  change zV x σ 0 [(0, za x (4)), (1, .int (zI (v1))), (2, .int (zI (v2))), (3, za x (29 + r3))] []
  change zOk x cX1_meetAll RX1 (none) (3) (64) at C
  unfold wX1_meetAll at h
  refine z_iconst C dX1_meetAll_0 ?_
  refine z_istore C [(4, .int (zI (0))), (0, za x (4)), (1, .int (zI (v1))), (2, .int (zI (v2))), (3, za x (29 + r3))] dX1_meetAll_1 (by rw [hN]; decide) rfl ?_
  refine z_sub C [1, 2, 3, 4, 0] [(0, za x (4)), (1, .int (zI (v1))), (2, .int (zI (v2))), (3, za x (29 + r3)), (4, .int (zI (0)))] rfl ?_
  obtain ⟨n1, h⟩ := h
  exact sX1_meetAll_3 C hN E n1 v1 v2 r3 0 hr3 σ h
def wX1_weigh_17 (k : Hp → Prop) : Nat → Int → Int → Hp → Prop
  | 0, _, _, _ => False
  | n + 1, v1, v2, σ => zrg v2 ∧ zrg (((625 : Nat) : Int)) ∧ ((((625 : Nat) : Int) ≤ v2 → k σ) ∧ (¬ (((625 : Nat) : Int) ≤ v2) → zrg v1 ∧ ((v2 = v1 → wX1_weigh_17 k n v1 (v2 + 1) σ) ∧ (¬ (v2 = v1) → (0 ≤ v2 ∧ v2 < 625) ∧ zrg ((zst σ 4 3 ((σ 4 3) + ((σ 5 v2.toNat) * (σ 5 v2.toNat)))) 5 v2.toNat) ∧ zrg ((zst σ 4 3 ((σ 4 3) + ((σ 5 v2.toNat) * (σ 5 v2.toNat)))) 4 1) ∧ (((zst σ 4 3 ((σ 4 3) + ((σ 5 v2.toNat) * (σ 5 v2.toNat)))) 5 v2.toNat ≤ (zst σ 4 3 ((σ 4 3) + ((σ 5 v2.toNat) * (σ 5 v2.toNat)))) 4 1 → wX1_weigh_17 k n v1 (v2 + 1) (zst σ 4 3 ((σ 4 3) + ((σ 5 v2.toNat) * (σ 5 v2.toNat))))) ∧ (¬ ((zst σ 4 3 ((σ 4 3) + ((σ 5 v2.toNat) * (σ 5 v2.toNat)))) 5 v2.toNat ≤ (zst σ 4 3 ((σ 4 3) + ((σ 5 v2.toNat) * (σ 5 v2.toNat)))) 4 1) → wX1_weigh_17 k n v1 (v2 + 1) (zst (zst (zst σ 4 3 ((σ 4 3) + ((σ 5 v2.toNat) * (σ 5 v2.toNat)))) 4 1 ((zst σ 4 3 ((σ 4 3) + ((σ 5 v2.toNat) * (σ 5 v2.toNat)))) 5 v2.toNat)) 4 2 v2)))))))
set_option maxRecDepth 100000 in
theorem sX1_weigh_17 {x : Cx} (C : zOk x cX1_weigh RX1 (none) (0) (0)) (hN : x.2.2.2.2.1 = 3) {k : Hp → Prop} (E : zEnd x (zPv k x.2.1)) : ∀ (n : Nat) (v1 : Int) (v2 : Int) (σ : Hp), wX1_weigh_17 k n v1 v2 σ → zV x σ 17 [(0, za x (4)), (1, .int (zI (v1))), (2, .int (zI (v2)))] [] := by
  intro n
  induction n with
  | zero => intro _ _ _ h; exact h.elim
  | succ n ih =>
    intro v1 v2 σ h
    unfold wX1_weigh_17 at h
    refine z_iload_n C 2 dX1_weigh_17 rfl rfl ?_
    refine z_aload_n C 0 dX1_weigh_18 rfl rfl ?_
    refine g_X1_0 C kf_X1_11 dX1_weigh_19 ?_
    refine z_alen C ia_5 dX1_weigh_22 ?_
    obtain ⟨o1, h⟩ := h
    obtain ⟨o2, h⟩ := h
    refine z_icmp_ge C 87 dX1_weigh_23 (by decide) o1 o2 (fun c3 => ?_) (fun c3 => ?_)
    · have h := h.1 c3
      exact z_vret C E dX1_weigh_87 ⟨rfl, h⟩
    · have h := h.2 c3
      refine z_iload_n C 2 dX1_weigh_26 rfl rfl ?_
      refine z_iload_n C 1 dX1_weigh_27 rfl rfl ?_
      obtain ⟨o4, h⟩ := h
      refine z_icmp_eq C 81 dX1_weigh_28 (by decide) o1 o4 (fun c5 => ?_) (fun c5 => ?_)
      · have h := h.1 c5
        refine z_iinc C 2 [(2, .int (zI (v2 + 1))), (0, za x (4)), (1, .int (zI (v1)))] dX1_weigh_81 rfl (by rw [hN]; decide) rfl ?_
        refine z_goto C 17 dX1_weigh_84 (by decide) ?_
        refine z_sub C [1, 2, 0] [(0, za x (4)), (1, .int (zI (v1))), (2, .int (zI (v2 + 1)))] rfl ?_
        exact ih v1 (v2 + 1)  σ h
      · have h := h.2 c5
        refine z_aload_n C 0 dX1_weigh_31 rfl rfl ?_
        refine z_dup C dX1_weigh_32 rfl ?_
        refine g_X1_3 C kf_X1_57 dX1_weigh_33 ?_
        refine z_aload_n C 0 dX1_weigh_36 rfl rfl ?_
        refine g_X1_0 C kf_X1_11 dX1_weigh_37 ?_
        refine z_iload_n C 2 dX1_weigh_40 rfl rfl ?_
        obtain ⟨o6, h⟩ := h
        refine z_iald C ia_5 dX1_weigh_41 o6.1 o6.2 ?_
        refine z_aload_n C 0 dX1_weigh_42 rfl rfl ?_
        refine g_X1_0 C kf_X1_11 dX1_weigh_43 ?_
        refine z_iload_n C 2 dX1_weigh_46 rfl rfl ?_
        refine z_iald C ia_5 dX1_weigh_47 o6.1 o6.2 ?_
        refine z_imul C dX1_weigh_48 ?_
        refine z_iadd C dX1_weigh_49 ?_
        refine p_X1_3 C kf_X1_57 dX1_weigh_50 ?_
        refine z_aload_n C 0 dX1_weigh_53 rfl rfl ?_
        refine g_X1_0 C kf_X1_11 dX1_weigh_54 ?_
        refine z_iload_n C 2 dX1_weigh_57 rfl rfl ?_
        refine z_iald C ia_5 dX1_weigh_58 o6.1 o6.2 ?_
        refine z_aload_n C 0 dX1_weigh_59 rfl rfl ?_
        refine g_X1_1 C kf_X1_50 dX1_weigh_60 ?_
        obtain ⟨o7, h⟩ := h
        obtain ⟨o8, h⟩ := h
        refine z_icmp_le C 81 dX1_weigh_63 (by decide) o7 o8 (fun c9 => ?_) (fun c9 => ?_)
        · have h := h.1 c9
          refine z_iinc C 2 [(2, .int (zI (v2 + 1))), (0, za x (4)), (1, .int (zI (v1)))] dX1_weigh_81 rfl (by rw [hN]; decide) rfl ?_
          refine z_goto C 17 dX1_weigh_84 (by decide) ?_
          refine z_sub C [1, 2, 0] [(0, za x (4)), (1, .int (zI (v1))), (2, .int (zI (v2 + 1)))] rfl ?_
          exact ih v1 (v2 + 1)  (zst σ 4 3 ((σ 4 3) + ((σ 5 v2.toNat) * (σ 5 v2.toNat)))) h
        · have h := h.2 c9
          refine z_aload_n C 0 dX1_weigh_66 rfl rfl ?_
          refine z_aload_n C 0 dX1_weigh_67 rfl rfl ?_
          refine g_X1_0 C kf_X1_11 dX1_weigh_68 ?_
          refine z_iload_n C 2 dX1_weigh_71 rfl rfl ?_
          refine z_iald C ia_5 dX1_weigh_72 o6.1 o6.2 ?_
          refine p_X1_1 C kf_X1_50 dX1_weigh_73 ?_
          refine z_aload_n C 0 dX1_weigh_76 rfl rfl ?_
          refine z_iload_n C 2 dX1_weigh_77 rfl rfl ?_
          refine p_X1_2 C kf_X1_54 dX1_weigh_78 ?_
          refine z_iinc C 2 [(2, .int (zI (v2 + 1))), (0, za x (4)), (1, .int (zI (v1)))] dX1_weigh_81 rfl (by rw [hN]; decide) rfl ?_
          refine z_goto C 17 dX1_weigh_84 (by decide) ?_
          refine z_sub C [1, 2, 0] [(0, za x (4)), (1, .int (zI (v1))), (2, .int (zI (v2 + 1)))] rfl ?_
          exact ih v1 (v2 + 1)  (zst (zst (zst σ 4 3 ((σ 4 3) + ((σ 5 v2.toNat) * (σ 5 v2.toNat)))) 4 1 ((zst σ 4 3 ((σ 4 3) + ((σ 5 v2.toNat) * (σ 5 v2.toNat)))) 5 v2.toNat)) 4 2 v2) h
def wX1_weigh (v1 : Int) (σ : Hp) (k : Hp → Prop) : Prop :=
  (∃ N1, wX1_weigh_17 k N1 v1 0 (zst (zst (zst σ 4 1 ((-1))) 4 2 0) 4 3 0))
set_option maxRecDepth 100000 in
theorem mX1_weigh (v1 : Int) (σ : Hp) (k : Hp → Prop) (h : wX1_weigh v1 σ k) (l : Launch) : zMt l yX1_weigh cX1_weigh 3 (none) { frames := 0, cells := 0, slots := 0, locals := 0 } (fun w => [.ref (w.2.1 (4)), .int (zI (v1))]) σ (zPv k) := by
  refine zMt_of (plainFor_of_name (by decide)) (fun w => Nat.le_of_ble_eq_true rfl) (fun x hl hN C E => ?_)
  change zV x σ 0 [(0, za x (4)), (1, .int (zI (v1)))] []
  change zOk x cX1_weigh RX1 (none) (0) (0) at C
  unfold wX1_weigh at h
  refine z_aload_n C 0 dX1_weigh_0 rfl rfl ?_
  refine z_iconst C dX1_weigh_1 ?_
  refine p_X1_1 C kf_X1_50 dX1_weigh_2 ?_
  refine z_aload_n C 0 dX1_weigh_5 rfl rfl ?_
  refine z_iconst C dX1_weigh_6 ?_
  refine p_X1_2 C kf_X1_54 dX1_weigh_7 ?_
  refine z_aload_n C 0 dX1_weigh_10 rfl rfl ?_
  refine z_iconst C dX1_weigh_11 ?_
  refine p_X1_3 C kf_X1_57 dX1_weigh_12 ?_
  refine z_iconst C dX1_weigh_15 ?_
  refine z_istore_n C [(2, .int (zI (0))), (0, za x (4)), (1, .int (zI (v1)))] dX1_weigh_16 rfl (by rw [hN]; decide) rfl ?_
  refine z_sub C [1, 2, 0] [(0, za x (4)), (1, .int (zI (v1))), (2, .int (zI (0)))] rfl ?_
  obtain ⟨n1, h⟩ := h
  exact sX1_weigh_17 C hN E n1 v1 0  (zst (zst (zst σ 4 1 ((-1))) 4 2 0) 4 3 0) h
def wX1_lookAt_62 (k : Hp → Prop) (t0 : Int) (σ : Hp) : Prop :=
  wX1_weigh t0 σ (fun σ1 => k σ1)
set_option maxRecDepth 100000 in
theorem sX1_lookAt_62 {x : Cx} (C : zOk x cX1_lookAt RX1 (none) (4) (90)) (hN : x.2.2.2.2.1 = 5) {k : Hp → Prop} (E : zEnd x (zPv k x.2.1)) (t0 : Int) (σ : Hp) (h : wX1_lookAt_62 k t0 σ) : zV x σ 62 [] [.int (zI (t0)), za x (4)] := by
  unfold wX1_lookAt_62 at h
  refine z_callV (av := fun w => [.int (zI (t0))]) C [] cs_X1_weigh (by decide) (fun _ _ => rfl) rfl (mX1_weigh t0  σ _ h) km_X1_43 dX1_lookAt_62 rfl rfl ⟨rfl, rfl⟩ ⟨by decide, by decide⟩ (Nat.le_of_ble_eq_true rfl) (fun rv σ1 hp => ?_)
  obtain ⟨rfl, h⟩ := hp
  change zV x σ1 65 [] []
  exact z_vret C E dX1_lookAt_65 ⟨rfl, h⟩
def wX1_lookAt_11 (k : Hp → Prop) : Nat → Nat → Nat → Int → Int → Hp → Prop
  | 0, _, _, _, _, _ => False
  | n + 1, r1, r2, v3, v4, σ => wX3_columns r1 σ (fun a2 σ1 => zrg v4 ∧ zrg a2 ∧ ((a2 ≤ v4 → zrg v3 ∧ ((v3 = 0 → wX1_lookAt_62 k ((-1)) σ1) ∧ (¬ (v3 = 0) → wX1_placeOf 0 0 σ1 (fun a9 σ8 => wX1_lookAt_62 k a9 σ8)))) ∧ (¬ (a2 ≤ v4) → wX3_markedAt r1 v4 σ1 (fun a11 σ10 => zrg a11 ∧ ((a11 = 0 → wX1_lookAt_11 k n r1 r2 v3 (v4 + 1) σ10) ∧ (¬ (a11 = 0) → wX3_lineAt r1 v4 σ10 (fun a15 σ14 => wX1_meetAll v4 a15 r2 σ14 (fun σ16 => wX1_lookAt_11 k n r1 r2 v3 (v4 + 1) σ16))))))))
set_option maxRecDepth 100000 in
theorem sX1_lookAt_11 {x : Cx} (C : zOk x cX1_lookAt RX1 (none) (4) (90)) (hN : x.2.2.2.2.1 = 5) {k : Hp → Prop} (E : zEnd x (zPv k x.2.1)) : ∀ (n : Nat) (r1 : Nat) (r2 : Nat) (v3 : Int) (v4 : Int) (hr1 : r1 < 7) (hr2 : r2 < 7) (σ : Hp), wX1_lookAt_11 k n r1 r2 v3 v4 σ → zV x σ 11 [(0, za x (4)), (1, za x (29 + r1)), (2, za x (29 + r2)), (3, .int (zI (v3))), (4, .int (zI (v4)))] [] := by
  intro n
  induction n with
  | zero => intro _ _ _ _ _ _ _ h; exact h.elim
  | succ n ih =>
    intro r1 r2 v3 v4 hr1 hr2 σ h
    unfold wX1_lookAt_11 at h
    refine z_iload C 4 dX1_lookAt_11 rfl ?_
    refine z_aload_n C 1 dX1_lookAt_13 rfl rfl ?_
    refine z_callV (av := fun w => []) C [.int (zI (v4))] cs_X3_columns (by have := hr1; omega) (zcell_row hr1) rfl (mX3_columns r1 hr1 σ _ h) km_X1_21 dX1_lookAt_14 rfl rfl ⟨rfl, rfl⟩ ⟨by decide, by decide⟩ (Nat.le_of_ble_eq_true rfl) (fun rv σ1 hp => ?_)
    obtain ⟨a2, rfl, h⟩ := hp
    change zV x σ1 17 [(0, za x (4)), (1, za x (29 + r1)), (2, za x (29 + r2)), (3, .int (zI (v3))), (4, .int (zI (v4)))] [.int (zI (a2)), .int (zI (v4))]
    obtain ⟨o3, h⟩ := h
    obtain ⟨o4, h⟩ := h
    refine z_icmp_ge C 48 dX1_lookAt_17 (by decide) o3 o4 (fun c5 => ?_) (fun c5 => ?_)
    · have h := h.1 c5
      refine z_aload_n C 0 dX1_lookAt_48 rfl rfl ?_
      refine z_iload_n C 3 dX1_lookAt_49 rfl rfl ?_
      obtain ⟨o6, h⟩ := h
      refine z_if_eq C 61 dX1_lookAt_50 (by decide) o6 (fun c7 => ?_) (fun c7 => ?_)
      · have h := h.1 c7
        refine z_iconst C dX1_lookAt_61 ?_
        refine z_sub C [] [] rfl ?_
        exact sX1_lookAt_62 C hN E ((-1))  σ1 h
      · have h := h.2 c7
        refine z_iconst C dX1_lookAt_53 ?_
        refine z_iconst C dX1_lookAt_54 ?_
        refine z_callS (av := fun w => [.int (zI (0)), .int (zI (0))]) C [za x (4)] cs_X1_placeOf (mX1_placeOf 0 0  σ1 _ h) km_X1_39 dX1_lookAt_55 rfl rfl ⟨rfl, rfl⟩ ⟨by decide, by decide⟩ (Nat.le_of_ble_eq_true rfl) (fun rv σ8 hp => ?_)
        obtain ⟨a9, rfl, h⟩ := hp
        change zV x σ8 58 [(0, za x (4)), (1, za x (29 + r1)), (2, za x (29 + r2)), (3, .int (zI (v3))), (4, .int (zI (v4)))] [.int (zI (a9)), za x (4)]
        refine z_goto C 62 dX1_lookAt_58 (by decide) ?_
        refine z_sub C [] [] rfl ?_
        exact sX1_lookAt_62 C hN E a9  σ8 h
    · have h := h.2 c5
      refine z_aload_n C 1 dX1_lookAt_20 rfl rfl ?_
      refine z_iload C 4 dX1_lookAt_21 rfl ?_
      refine z_callV (av := fun w => [.int (zI (v4))]) C [] cs_X3_markedAt (by have := hr1; omega) (zcell_row hr1) rfl (mX3_markedAt r1 v4 hr1 σ1 _ h) km_X1_27 dX1_lookAt_23 rfl rfl ⟨rfl, rfl⟩ ⟨by decide, by decide⟩ (Nat.le_of_ble_eq_true rfl) (fun rv σ10 hp => ?_)
      obtain ⟨a11, rfl, h⟩ := hp
      change zV x σ10 26 [(0, za x (4)), (1, za x (29 + r1)), (2, za x (29 + r2)), (3, .int (zI (v3))), (4, .int (zI (v4)))] [.int (zI (a11))]
      obtain ⟨o12, h⟩ := h
      refine z_if_eq C 42 dX1_lookAt_26 (by decide) o12 (fun c13 => ?_) (fun c13 => ?_)
      · have h := h.1 c13
        refine z_iinc C 4 [(4, .int (zI (v4 + 1))), (0, za x (4)), (1, za x (29 + r1)), (2, za x (29 + r2)), (3, .int (zI (v3)))] dX1_lookAt_42 rfl (by rw [hN]; decide) rfl ?_
        refine z_goto C 11 dX1_lookAt_45 (by decide) ?_
        refine z_sub C [1, 2, 3, 4, 0] [(0, za x (4)), (1, za x (29 + r1)), (2, za x (29 + r2)), (3, .int (zI (v3))), (4, .int (zI (v4 + 1)))] rfl ?_
        exact ih r1 r2 v3 (v4 + 1) hr1 hr2 σ10 h
      · have h := h.2 c13
        refine z_aload_n C 0 dX1_lookAt_29 rfl rfl ?_
        refine z_iload C 4 dX1_lookAt_30 rfl ?_
        refine z_aload_n C 1 dX1_lookAt_32 rfl rfl ?_
        refine z_iload C 4 dX1_lookAt_33 rfl ?_
        refine z_callV (av := fun w => [.int (zI (v4))]) C [.int (zI (v4)), za x (4)] cs_X3_lineAt (by have := hr1; omega) (zcell_row hr1) rfl (mX3_lineAt r1 v4 hr1 σ10 _ h) km_X1_31 dX1_lookAt_35 rfl rfl ⟨rfl, rfl⟩ ⟨by decide, by decide⟩ (Nat.le_of_ble_eq_true rfl) (fun rv σ14 hp => ?_)
        obtain ⟨a15, rfl, h⟩ := hp
        change zV x σ14 38 [(0, za x (4)), (1, za x (29 + r1)), (2, za x (29 + r2)), (3, .int (zI (v3))), (4, .int (zI (v4)))] [.int (zI (a15)), .int (zI (v4)), za x (4)]
        refine z_aload_n C 2 dX1_lookAt_38 rfl rfl ?_
        refine z_callV (av := fun w => [.int (zI (v4)), .int (zI (a15)), .ref (w.2.1 (29 + r2))]) C [] cs_X1_meetAll (by decide) (fun _ _ => rfl) rfl (mX1_meetAll v4 a15 r2 hr2 σ14 _ h) km_X1_35 dX1_lookAt_39 rfl rfl ⟨rfl, rfl⟩ ⟨by decide, by decide⟩ (Nat.le_of_ble_eq_true rfl) (fun rv σ16 hp => ?_)
        obtain ⟨rfl, h⟩ := hp
        change zV x σ16 42 [(0, za x (4)), (1, za x (29 + r1)), (2, za x (29 + r2)), (3, .int (zI (v3))), (4, .int (zI (v4)))] []
        refine z_iinc C 4 [(4, .int (zI (v4 + 1))), (0, za x (4)), (1, za x (29 + r1)), (2, za x (29 + r2)), (3, .int (zI (v3)))] dX1_lookAt_42 rfl (by rw [hN]; decide) rfl ?_
        refine z_goto C 11 dX1_lookAt_45 (by decide) ?_
        refine z_sub C [1, 2, 3, 4, 0] [(0, za x (4)), (1, za x (29 + r1)), (2, za x (29 + r2)), (3, .int (zI (v3))), (4, .int (zI (v4 + 1)))] rfl ?_
        exact ih r1 r2 v3 (v4 + 1) hr1 hr2 σ16 h
def wX1_lookAt (r1 : Nat) (r2 : Nat) (v3 : Int) (σ : Hp) (k : Hp → Prop) : Prop :=
  wJ7_fill_53178 5 625 0 σ (fun σ1 => (∃ N2, wX1_lookAt_11 k N2 r1 r2 v3 0 σ1))
set_option maxRecDepth 100000 in
theorem mX1_lookAt (r1 : Nat) (r2 : Nat) (v3 : Int) (hr1 : r1 < 7) (hr2 : r2 < 7) (σ : Hp) (k : Hp → Prop) (h : wX1_lookAt r1 r2 v3 σ k) (l : Launch) : zMt l yX1_lookAt cX1_lookAt 5 (none) { frames := 4, cells := 0, slots := 0, locals := 90 } (fun w => [.ref (w.2.1 (4)), .ref (w.2.1 (29 + r1)), .ref (w.2.1 (29 + r2)), .int (zI (v3))]) σ (zPv k) := by
  refine zMt_of (plainFor_of_name (by decide)) (fun w => Nat.le_of_ble_eq_true rfl) (fun x hl hN C E => ?_)
  change zV x σ 0 [(0, za x (4)), (1, za x (29 + r1)), (2, za x (29 + r2)), (3, .int (zI (v3)))] []
  change zOk x cX1_lookAt RX1 (none) (4) (90) at C
  unfold wX1_lookAt at h
  refine z_aload_n C 0 dX1_lookAt_0 rfl rfl ?_
  refine g_X1_0 C kf_X1_11 dX1_lookAt_1 ?_
  refine z_iconst C dX1_lookAt_4 ?_
  refine z_callS (av := fun w => [.ref (w.2.1 (5)), .int (zI (0))]) C [] cs_J7_fill_53178 (mJ7_fill_53178 5 625 0 ia_5 σ _ h) km_X1_15 dX1_lookAt_5 rfl rfl ⟨rfl, rfl⟩ ⟨by decide, by decide⟩ (Nat.le_of_ble_eq_true rfl) (fun rv σ1 hp => ?_)
  obtain ⟨rfl, h⟩ := hp
  change zV x σ1 8 [(0, za x (4)), (1, za x (29 + r1)), (2, za x (29 + r2)), (3, .int (zI (v3)))] []
  refine z_iconst C dX1_lookAt_8 ?_
  refine z_istore C [(4, .int (zI (0))), (0, za x (4)), (1, za x (29 + r1)), (2, za x (29 + r2)), (3, .int (zI (v3)))] dX1_lookAt_9 (by rw [hN]; decide) rfl ?_
  refine z_sub C [1, 2, 3, 4, 0] [(0, za x (4)), (1, za x (29 + r1)), (2, za x (29 + r2)), (3, .int (zI (v3))), (4, .int (zI (0)))] rfl ?_
  obtain ⟨n2, h⟩ := h
  exact sX1_lookAt_11 C hN E n2 r1 r2 v3 0 hr1 hr2 σ1 h
def wX1_sumOfSquares (σ : Hp) (k : Int → Hp → Prop) : Prop :=
  k (σ 4 3) σ
set_option maxRecDepth 100000 in
theorem mX1_sumOfSquares (σ : Hp) (k : Int → Hp → Prop) (h : wX1_sumOfSquares  σ k) (l : Launch) : zMt l yX1_sumOfSquares cX1_sumOfSquares 1 (some .int) { frames := 0, cells := 0, slots := 0, locals := 0 } (fun w => [.ref (w.2.1 (4))]) σ (zPi k) := by
  refine zMt_of (plainFor_of_name (by decide)) (fun w => Nat.le_of_ble_eq_true rfl) (fun x hl hN C E => ?_)
  change zV x σ 0 [(0, za x (4))] []
  change zOk x cX1_sumOfSquares RX1 (some .int) (0) (0) at C
  unfold wX1_sumOfSquares at h
  refine z_aload_n C 0 dX1_sumOfSquares_0 rfl rfl ?_
  refine g_X1_3 C kf_X1_57 dX1_sumOfSquares_1 ?_
  exact z_iret C E dX1_sumOfSquares_4 ⟨_, rfl, h⟩
def wX2_newQuarrels_29 (k : Int → Hp → Prop) (K4 : Int → Int → Int → Hp → Prop) : Nat → Int → Int → Int → Int → Int → Hp → Prop
  | 0, _, _, _, _, _, _ => False
  | n + 1, v1, v2, v3, v4, v5, σ => zrg v5 ∧ zrg (v1 - v3) ∧ ((v1 - v3 ≤ v5 → K4 v1 v2 (v3 + 1) σ) ∧ (¬ (v1 - v3 ≤ v5) → (0 ≤ v5 + v3 ∧ v5 + v3 < 6) ∧ (0 ≤ v5 ∧ v5 < 6) ∧ zrg ((σ 11 (v5 + v3).toNat) - (σ 11 v5.toNat)) ∧ zrg v4 ∧ (((σ 11 (v5 + v3).toNat) - (σ 11 v5.toNat) ≠ v4 → wX2_newQuarrels_29 k K4 n v1 v2 v3 v4 (v5 + 1) σ) ∧ (¬ ((σ 11 (v5 + v3).toNat) - (σ 11 v5.toNat) ≠ v4) → wX2_newQuarrels_29 k K4 n v1 (v2 + 1) v3 v4 (v5 + 1) σ))))
set_option maxRecDepth 100000 in
theorem sX2_newQuarrels_29 {x : Cx} (C : zOk x cX2_newQuarrels RX2 (some .int) (0) (0)) (hN : x.2.2.2.2.1 = 6) {k : Int → Hp → Prop} (E : zEnd x (zPi k x.2.1)) {K4 : Int → Int → Int → Hp → Prop} (H4 : ∀ (v1 : Int) (v2 : Int) (v3 : Int) (σ : Hp), K4 v1 v2 v3 σ → zV x σ 4 [(0, za x (10)), (1, .int (zI (v1))), (2, .int (zI (v2))), (3, .int (zI (v3)))] []) : ∀ (n : Nat) (v1 : Int) (v2 : Int) (v3 : Int) (v4 : Int) (v5 : Int) (σ : Hp), wX2_newQuarrels_29 k K4 n v1 v2 v3 v4 v5 σ → zV x σ 29 [(0, za x (10)), (1, .int (zI (v1))), (2, .int (zI (v2))), (3, .int (zI (v3))), (4, .int (zI (v4))), (5, .int (zI (v5)))] [] := by
  intro n
  induction n with
  | zero => intro _ _ _ _ _ _ h; exact h.elim
  | succ n ih =>
    intro v1 v2 v3 v4 v5 σ h
    unfold wX2_newQuarrels_29 at h
    refine z_iload C 5 dX2_newQuarrels_29 rfl ?_
    refine z_iload_n C 1 dX2_newQuarrels_31 rfl rfl ?_
    refine z_iload_n C 3 dX2_newQuarrels_32 rfl rfl ?_
    refine z_isub C dX2_newQuarrels_33 ?_
    obtain ⟨o1, h⟩ := h
    obtain ⟨o2, h⟩ := h
    refine z_icmp_ge C 68 dX2_newQuarrels_34 (by decide) o1 o2 (fun c3 => ?_) (fun c3 => ?_)
    · have h := h.1 c3
      refine z_iinc C 3 [(3, .int (zI (v3 + 1))), (0, za x (10)), (1, .int (zI (v1))), (2, .int (zI (v2))), (4, .int (zI (v4))), (5, .int (zI (v5)))] dX2_newQuarrels_68 rfl (by rw [hN]; decide) rfl ?_
      refine z_goto C 4 dX2_newQuarrels_71 (by decide) ?_
      refine z_sub C [1, 2, 3, 0] [(0, za x (10)), (1, .int (zI (v1))), (2, .int (zI (v2))), (3, .int (zI (v3 + 1)))] rfl ?_
      exact H4 v1 v2 (v3 + 1)  σ h
    · have h := h.2 c3
      refine z_aload_n C 0 dX2_newQuarrels_37 rfl rfl ?_
      refine g_X2_0 C kf_X2_9 dX2_newQuarrels_38 ?_
      refine z_iload C 5 dX2_newQuarrels_41 rfl ?_
      refine z_iload_n C 3 dX2_newQuarrels_43 rfl rfl ?_
      refine z_iadd C dX2_newQuarrels_44 ?_
      obtain ⟨o4, h⟩ := h
      refine z_iald C ia_11 dX2_newQuarrels_45 o4.1 o4.2 ?_
      refine z_aload_n C 0 dX2_newQuarrels_46 rfl rfl ?_
      refine g_X2_0 C kf_X2_9 dX2_newQuarrels_47 ?_
      refine z_iload C 5 dX2_newQuarrels_50 rfl ?_
      obtain ⟨o5, h⟩ := h
      refine z_iald C ia_11 dX2_newQuarrels_52 o5.1 o5.2 ?_
      refine z_isub C dX2_newQuarrels_53 ?_
      refine z_iload C 4 dX2_newQuarrels_54 rfl ?_
      obtain ⟨o6, h⟩ := h
      obtain ⟨o7, h⟩ := h
      refine z_icmp_ne C 62 dX2_newQuarrels_56 (by decide) o6 o7 (fun c8 => ?_) (fun c8 => ?_)
      · have h := h.1 c8
        refine z_iinc C 5 [(5, .int (zI (v5 + 1))), (0, za x (10)), (1, .int (zI (v1))), (2, .int (zI (v2))), (3, .int (zI (v3))), (4, .int (zI (v4)))] dX2_newQuarrels_62 rfl (by rw [hN]; decide) rfl ?_
        refine z_goto C 29 dX2_newQuarrels_65 (by decide) ?_
        refine z_sub C [1, 2, 3, 4, 5, 0] [(0, za x (10)), (1, .int (zI (v1))), (2, .int (zI (v2))), (3, .int (zI (v3))), (4, .int (zI (v4))), (5, .int (zI (v5 + 1)))] rfl ?_
        exact ih v1 v2 v3 v4 (v5 + 1)  σ h
      · have h := h.2 c8
        refine z_iinc C 2 [(2, .int (zI (v2 + 1))), (0, za x (10)), (1, .int (zI (v1))), (3, .int (zI (v3))), (4, .int (zI (v4))), (5, .int (zI (v5)))] dX2_newQuarrels_59 rfl (by rw [hN]; decide) rfl ?_
        refine z_iinc C 5 [(5, .int (zI (v5 + 1))), (2, .int (zI (v2 + 1))), (0, za x (10)), (1, .int (zI (v1))), (3, .int (zI (v3))), (4, .int (zI (v4)))] dX2_newQuarrels_62 rfl (by rw [hN]; decide) rfl ?_
        refine z_goto C 29 dX2_newQuarrels_65 (by decide) ?_
        refine z_sub C [2, 3, 1, 4, 5, 0] [(0, za x (10)), (1, .int (zI (v1))), (2, .int (zI (v2 + 1))), (3, .int (zI (v3))), (4, .int (zI (v4))), (5, .int (zI (v5 + 1)))] rfl ?_
        exact ih v1 (v2 + 1) v3 v4 (v5 + 1)  σ h
def wX2_newQuarrels_4 (k : Int → Hp → Prop) : Nat → Int → Int → Int → Hp → Prop
  | 0, _, _, _, _ => False
  | n + 1, v1, v2, v3, σ => zrg v3 ∧ zrg v1 ∧ ((v1 ≤ v3 → k v2 σ) ∧ (¬ (v1 ≤ v3) → (0 ≤ v1 ∧ v1 < 6) ∧ (0 ≤ v1 - v3 ∧ v1 - v3 < 6) ∧ (∃ N6, wX2_newQuarrels_29 k (fun v1 v2 v3 σ => wX2_newQuarrels_4 k n v1 v2 v3 σ) N6 v1 v2 v3 ((σ 11 v1.toNat) - (σ 11 (v1 - v3).toNat)) 0 σ)))
set_option maxRecDepth 100000 in
theorem sX2_newQuarrels_4 {x : Cx} (C : zOk x cX2_newQuarrels RX2 (some .int) (0) (0)) (hN : x.2.2.2.2.1 = 6) {k : Int → Hp → Prop} (E : zEnd x (zPi k x.2.1)) : ∀ (n : Nat) (v1 : Int) (v2 : Int) (v3 : Int) (σ : Hp), wX2_newQuarrels_4 k n v1 v2 v3 σ → zV x σ 4 [(0, za x (10)), (1, .int (zI (v1))), (2, .int (zI (v2))), (3, .int (zI (v3)))] [] := by
  intro n
  induction n with
  | zero => intro _ _ _ _ h; exact h.elim
  | succ n ih =>
    intro v1 v2 v3 σ h
    unfold wX2_newQuarrels_4 at h
    refine z_iload_n C 3 dX2_newQuarrels_4 rfl rfl ?_
    refine z_iload_n C 1 dX2_newQuarrels_5 rfl rfl ?_
    obtain ⟨o1, h⟩ := h
    obtain ⟨o2, h⟩ := h
    refine z_icmp_ge C 74 dX2_newQuarrels_6 (by decide) o1 o2 (fun c3 => ?_) (fun c3 => ?_)
    · have h := h.1 c3
      refine z_iload_n C 2 dX2_newQuarrels_74 rfl rfl ?_
      exact z_iret C E dX2_newQuarrels_75 ⟨_, rfl, h⟩
    · have h := h.2 c3
      refine z_aload_n C 0 dX2_newQuarrels_9 rfl rfl ?_
      refine g_X2_0 C kf_X2_9 dX2_newQuarrels_10 ?_
      refine z_iload_n C 1 dX2_newQuarrels_13 rfl rfl ?_
      obtain ⟨o4, h⟩ := h
      refine z_iald C ia_11 dX2_newQuarrels_14 o4.1 o4.2 ?_
      refine z_aload_n C 0 dX2_newQuarrels_15 rfl rfl ?_
      refine g_X2_0 C kf_X2_9 dX2_newQuarrels_16 ?_
      refine z_iload_n C 1 dX2_newQuarrels_19 rfl rfl ?_
      refine z_iload_n C 3 dX2_newQuarrels_20 rfl rfl ?_
      refine z_isub C dX2_newQuarrels_21 ?_
      obtain ⟨o5, h⟩ := h
      refine z_iald C ia_11 dX2_newQuarrels_22 o5.1 o5.2 ?_
      refine z_isub C dX2_newQuarrels_23 ?_
      refine z_istore C [(4, .int (zI ((σ 11 v1.toNat) - (σ 11 (v1 - v3).toNat)))), (0, za x (10)), (1, .int (zI (v1))), (2, .int (zI (v2))), (3, .int (zI (v3)))] dX2_newQuarrels_24 (by rw [hN]; decide) rfl ?_
      refine z_iconst C dX2_newQuarrels_26 ?_
      refine z_istore C [(5, .int (zI (0))), (4, .int (zI ((σ 11 v1.toNat) - (σ 11 (v1 - v3).toNat)))), (0, za x (10)), (1, .int (zI (v1))), (2, .int (zI (v2))), (3, .int (zI (v3)))] dX2_newQuarrels_27 (by rw [hN]; decide) rfl ?_
      refine z_sub C [2, 3, 4, 5, 1, 0] [(0, za x (10)), (1, .int (zI (v1))), (2, .int (zI (v2))), (3, .int (zI (v3))), (4, .int (zI ((σ 11 v1.toNat) - (σ 11 (v1 - v3).toNat)))), (5, .int (zI (0)))] rfl ?_
      obtain ⟨n6, h⟩ := h
      exact sX2_newQuarrels_29 C hN E (by intro v1 v2 v3 σ h; exact ih v1 v2 v3  σ h) n6 v1 v2 v3 ((σ 11 v1.toNat) - (σ 11 (v1 - v3).toNat)) 0  σ h
def wX2_newQuarrels (v1 : Int) (σ : Hp) (k : Int → Hp → Prop) : Prop :=
  (∃ N1, wX2_newQuarrels_4 k N1 v1 0 1 σ)
set_option maxRecDepth 100000 in
theorem mX2_newQuarrels (v1 : Int) (σ : Hp) (k : Int → Hp → Prop) (h : wX2_newQuarrels v1 σ k) (l : Launch) : zMt l yX2_newQuarrels cX2_newQuarrels 6 (some .int) { frames := 0, cells := 0, slots := 0, locals := 0 } (fun w => [.ref (w.2.1 (10)), .int (zI (v1))]) σ (zPi k) := by
  refine zMt_of (plainFor_of_name (by decide)) (fun w => Nat.le_of_ble_eq_true rfl) (fun x hl hN C E => ?_)
  change zV x σ 0 [(0, za x (10)), (1, .int (zI (v1)))] []
  change zOk x cX2_newQuarrels RX2 (some .int) (0) (0) at C
  unfold wX2_newQuarrels at h
  refine z_iconst C dX2_newQuarrels_0 ?_
  refine z_istore_n C [(2, .int (zI (0))), (0, za x (10)), (1, .int (zI (v1)))] dX2_newQuarrels_1 rfl (by rw [hN]; decide) rfl ?_
  refine z_iconst C dX2_newQuarrels_2 ?_
  refine z_istore_n C [(3, .int (zI (1))), (2, .int (zI (0))), (0, za x (10)), (1, .int (zI (v1)))] dX2_newQuarrels_3 rfl (by rw [hN]; decide) rfl ?_
  refine z_sub C [2, 3, 1, 0] [(0, za x (10)), (1, .int (zI (v1))), (2, .int (zI (0))), (3, .int (zI (1)))] rfl ?_
  obtain ⟨n1, h⟩ := h
  exact sX2_newQuarrels_4 C hN E n1 v1 0 1  σ h
def wX2_countFrom_30 (rc : Int → Int → Int → Hp → (Int → Hp → Prop) → Prop) (k : Int → Hp → Prop) : Nat → Int → Int → Int → Int → Int → Hp → Prop
  | 0, _, _, _, _, _, _ => False
  | n + 1, v1, v2, v3, v4, v5, σ => zrg v5 ∧ zrg (σ 10 1) ∧ ((σ 10 1 ≤ v5 → k v4 σ) ∧ (¬ (σ 10 1 ≤ v5) → zrg (zand (zshr v2 v5) 1) ∧ ((zand (zshr v2 v5) 1 ≠ 0 → wX2_countFrom_30 rc k n v1 v2 v3 v4 (v5 + 1) σ) ∧ (¬ (zand (zshr v2 v5) 1 ≠ 0) → (0 ≤ v1 ∧ v1 < 6) ∧ wX2_newQuarrels v1 (zst σ 11 v1.toNat v5) (fun a8 σ7 => zrg (v3 - a8) ∧ ((v3 - a8 < 0 → wX2_countFrom_30 rc k n v1 v2 v3 v4 (v5 + 1) σ7) ∧ (¬ (v3 - a8 < 0) → rc (v1 + 1) (zor v2 (zshl 1 v5)) (v3 - a8) σ7 (fun a12 σ11 => wX2_countFrom_30 rc k n v1 v2 v3 (v4 + a12) (v5 + 1) σ11))))))))
set_option maxRecDepth 100000 in
theorem sX2_countFrom_30 {x : Cx} {d : Nat} (C : zOk x cX2_countFrom RX2 (some .int) (1 + (d + 1)) (25 + (d + 1) * 26)) (hN : x.2.2.2.2.1 = 7) {k : Int → Hp → Prop} (E : zEnd x (zPi k x.2.1)) {rc : Int → Int → Int → Hp → (Int → Hp → Prop) → Prop} (Hrc : ∀ (v1 : Int) (v2 : Int) (v3 : Int) (σ : Hp) (k : Int → Hp → Prop), rc v1 v2 v3 σ k → ∀ l, zMt l yX2_countFrom cX2_countFrom 7 (some .int) { frames := 1 + d, cells := 0, slots := 0, locals := 25 + d * 26 } (fun w => [.ref (w.2.1 (10)), .int (zI (v1)), .int (zI (v2)), .int (zI (v3))]) σ (zPi k)) : ∀ (n : Nat) (v1 : Int) (v2 : Int) (v3 : Int) (v4 : Int) (v5 : Int) (σ : Hp), wX2_countFrom_30 rc k n v1 v2 v3 v4 v5 σ → zV x σ 30 [(0, za x (10)), (1, .int (zI (v1))), (2, .int (zI (v2))), (3, .int (zI (v3))), (4, .int (zI (v4))), (5, .int (zI (v5)))] [] := by
  intro n
  induction n with
  | zero => intro _ _ _ _ _ _ h; exact h.elim
  | succ n ih =>
    intro v1 v2 v3 v4 v5 σ h
    unfold wX2_countFrom_30 at h
    refine z_iload C 5 dX2_countFrom_30 rfl ?_
    refine z_aload_n C 0 dX2_countFrom_32 rfl rfl ?_
    refine g_X2_1 C kf_X2_15 dX2_countFrom_33 ?_
    obtain ⟨o1, h⟩ := h
    obtain ⟨o2, h⟩ := h
    refine z_icmp_ge C 96 dX2_countFrom_36 (by decide) o1 o2 (fun c3 => ?_) (fun c3 => ?_)
    · have h := h.1 c3
      refine z_iload C 4 dX2_countFrom_96 rfl ?_
      exact z_iret C E dX2_countFrom_98 ⟨_, rfl, h⟩
    · have h := h.2 c3
      refine z_iload_n C 2 dX2_countFrom_39 rfl rfl ?_
      refine z_iload C 5 dX2_countFrom_40 rfl ?_
      refine z_ishr C dX2_countFrom_42 ?_
      refine z_iconst C dX2_countFrom_43 ?_
      refine z_iand C dX2_countFrom_44 ?_
      obtain ⟨o4, h⟩ := h
      refine z_if_ne C 90 dX2_countFrom_45 (by decide) o4 (fun c5 => ?_) (fun c5 => ?_)
      · have h := h.1 c5
        refine z_iinc C 5 [(5, .int (zI (v5 + 1))), (0, za x (10)), (1, .int (zI (v1))), (2, .int (zI (v2))), (3, .int (zI (v3))), (4, .int (zI (v4)))] dX2_countFrom_90 rfl (by rw [hN]; decide) rfl ?_
        refine z_goto C 30 dX2_countFrom_93 (by decide) ?_
        refine z_sub C [1, 2, 3, 4, 5, 0] [(0, za x (10)), (1, .int (zI (v1))), (2, .int (zI (v2))), (3, .int (zI (v3))), (4, .int (zI (v4))), (5, .int (zI (v5 + 1)))] rfl ?_
        exact ih v1 v2 v3 v4 (v5 + 1)  σ h
      · have h := h.2 c5
        refine z_aload_n C 0 dX2_countFrom_48 rfl rfl ?_
        refine g_X2_0 C kf_X2_9 dX2_countFrom_49 ?_
        refine z_iload_n C 1 dX2_countFrom_52 rfl rfl ?_
        refine z_iload C 5 dX2_countFrom_53 rfl ?_
        obtain ⟨o6, h⟩ := h
        refine z_iast C ia_11 dX2_countFrom_55 o6.1 o6.2 ?_
        refine z_iload_n C 3 dX2_countFrom_56 rfl rfl ?_
        refine z_aload_n C 0 dX2_countFrom_57 rfl rfl ?_
        refine z_iload_n C 1 dX2_countFrom_58 rfl rfl ?_
        refine z_callV (av := fun w => [.int (zI (v1))]) C [.int (zI (v3))] cs_X2_newQuarrels (by decide) (fun _ _ => rfl) rfl (mX2_newQuarrels v1  (zst σ 11 v1.toNat v5) _ h) km_X2_27 dX2_countFrom_59 rfl rfl ⟨rfl, rfl⟩ (by refine ⟨?_, ?_⟩ <;> dsimp only <;> omega) (Nat.le_of_ble_eq_true rfl) (fun rv σ7 hp => ?_)
        obtain ⟨a8, rfl, h⟩ := hp
        change zV x σ7 62 [(0, za x (10)), (1, .int (zI (v1))), (2, .int (zI (v2))), (3, .int (zI (v3))), (4, .int (zI (v4))), (5, .int (zI (v5)))] [.int (zI (a8)), .int (zI (v3))]
        refine z_isub C dX2_countFrom_62 ?_
        refine z_istore C [(6, .int (zI (v3 - a8))), (0, za x (10)), (1, .int (zI (v1))), (2, .int (zI (v2))), (3, .int (zI (v3))), (4, .int (zI (v4))), (5, .int (zI (v5)))] dX2_countFrom_63 (by rw [hN]; decide) rfl ?_
        refine z_iload C 0 dX2_countFrom_65 rfl ?_
        obtain ⟨o9, h⟩ := h
        refine z_if_lt C 90 dX2_countFrom_67 (by decide) o9 (fun c10 => ?_) (fun c10 => ?_)
        · have h := h.1 c10
          refine z_iinc C 6 [(5, .int (zI (v5 + 1))), (6, .int (zI (v3 - a8))), (0, za x (10)), (1, .int (zI (v1))), (2, .int (zI (v2))), (3, .int (zI (v3))), (4, .int (zI (v4)))] dX2_countFrom_90 rfl (by rw [hN]; decide) rfl ?_
          refine z_goto C 30 dX2_countFrom_93 (by decide) ?_
          refine z_sub C [2, 3, 4, 5, 6, 0] [(0, za x (10)), (1, .int (zI (v1))), (2, .int (zI (v2))), (3, .int (zI (v3))), (4, .int (zI (v4))), (5, .int (zI (v5 + 1)))] rfl ?_
          exact ih v1 v2 v3 v4 (v5 + 1)  σ7 h
        · have h := h.2 c10
          refine z_iload C 5 dX2_countFrom_70 rfl ?_
          refine z_aload_n C 1 dX2_countFrom_72 rfl rfl ?_
          refine z_iload_n C 2 dX2_countFrom_73 rfl rfl ?_
          refine z_iconst C dX2_countFrom_74 ?_
          refine z_iadd C dX2_countFrom_75 ?_
          refine z_iload_n C 3 dX2_countFrom_76 rfl rfl ?_
          refine z_iconst C dX2_countFrom_77 ?_
          refine z_iload C 6 dX2_countFrom_78 rfl ?_
          refine z_ishl C dX2_countFrom_80 ?_
          refine z_ior C dX2_countFrom_81 ?_
          refine z_iload C 0 dX2_countFrom_82 rfl ?_
          refine z_callV (av := fun w => [.int (zI (v1 + 1)), .int (zI (zor v2 (zshl 1 v5))), .int (zI (v3 - a8))]) C [.int (zI (v4))] cs_X2_countFrom (by decide) (fun _ _ => rfl) rfl (Hrc (v1 + 1) (zor v2 (zshl 1 v5)) (v3 - a8)  σ7 _ h) km_X2_23 dX2_countFrom_84 rfl rfl ⟨rfl, rfl⟩ (by refine ⟨?_, ?_⟩ <;> dsimp only <;> omega) (Nat.le_of_ble_eq_true rfl) (fun rv σ11 hp => ?_)
          obtain ⟨a12, rfl, h⟩ := hp
          change zV x σ11 87 [(6, .int (zI (v3 - a8))), (0, za x (10)), (1, .int (zI (v1))), (2, .int (zI (v2))), (3, .int (zI (v3))), (4, .int (zI (v4))), (5, .int (zI (v5)))] [.int (zI (a12)), .int (zI (v4))]
          refine z_iadd C dX2_countFrom_87 ?_
          refine z_istore C [(4, .int (zI (v4 + a12))), (6, .int (zI (v3 - a8))), (0, za x (10)), (1, .int (zI (v1))), (2, .int (zI (v2))), (3, .int (zI (v3))), (5, .int (zI (v5)))] dX2_countFrom_88 (by rw [hN]; decide) rfl ?_
          refine z_iinc C 6 [(5, .int (zI (v5 + 1))), (4, .int (zI (v4 + a12))), (6, .int (zI (v3 - a8))), (0, za x (10)), (1, .int (zI (v1))), (2, .int (zI (v2))), (3, .int (zI (v3)))] dX2_countFrom_90 rfl (by rw [hN]; decide) rfl ?_
          refine z_goto C 30 dX2_countFrom_93 (by decide) ?_
          refine z_sub C [3, 4, 5, 6, 1, 0] [(0, za x (10)), (1, .int (zI (v1))), (2, .int (zI (v2))), (3, .int (zI (v3))), (4, .int (zI (v4 + a12))), (5, .int (zI (v5 + 1)))] rfl ?_
          exact ih v1 v2 v3 (v4 + a12) (v5 + 1)  σ11 h
def wX2_countFrom_14 (rc : Int → Int → Int → Hp → (Int → Hp → Prop) → Prop) (k : Int → Hp → Prop) (v3 : Int) (σ : Hp) : Prop :=
  zrg v3 ∧ ((v3 ≠ 0 → k 0 σ) ∧ (¬ (v3 ≠ 0) → k 1 σ))
set_option maxRecDepth 100000 in
theorem sX2_countFrom_14 {x : Cx} {d : Nat} (C : zOk x cX2_countFrom RX2 (some .int) (1 + (d + 1)) (25 + (d + 1) * 26)) (hN : x.2.2.2.2.1 = 7) {k : Int → Hp → Prop} (E : zEnd x (zPi k x.2.1)) {rc : Int → Int → Int → Hp → (Int → Hp → Prop) → Prop} (Hrc : ∀ (v1 : Int) (v2 : Int) (v3 : Int) (σ : Hp) (k : Int → Hp → Prop), rc v1 v2 v3 σ k → ∀ l, zMt l yX2_countFrom cX2_countFrom 7 (some .int) { frames := 1 + d, cells := 0, slots := 0, locals := 25 + d * 26 } (fun w => [.ref (w.2.1 (10)), .int (zI (v1)), .int (zI (v2)), .int (zI (v3))]) σ (zPi k)) (v3 : Int) (σ : Hp) (h : wX2_countFrom_14 rc k v3 σ) : zV x σ 14 [(3, .int (zI (v3)))] [] := by
  unfold wX2_countFrom_14 at h
  refine z_iload_n C 0 dX2_countFrom_14 rfl rfl ?_
  obtain ⟨o1, h⟩ := h
  refine z_if_ne C 22 dX2_countFrom_15 (by decide) o1 (fun c2 => ?_) (fun c2 => ?_)
  · have h := h.1 c2
    refine z_iconst C dX2_countFrom_22 ?_
    exact z_iret C E dX2_countFrom_23 ⟨_, rfl, h⟩
  · have h := h.2 c2
    refine z_iconst C dX2_countFrom_18 ?_
    refine z_goto C 23 dX2_countFrom_19 (by decide) ?_
    exact z_iret C E dX2_countFrom_23 ⟨_, rfl, h⟩
def wX2_countFrom_0 (rc : Int → Int → Int → Hp → (Int → Hp → Prop) → Prop) (v1 : Int) (v2 : Int) (v3 : Int) (σ : Hp) (k : Int → Hp → Prop) : Prop :=
  zrg v1 ∧ zrg (σ 10 1) ∧ ((σ 10 1 ≤ v1 → wX2_countFrom_14 rc k v3 σ) ∧ (¬ (σ 10 1 ≤ v1) → ((v1 < 6 → (∃ N5, wX2_countFrom_30 rc k N5 v1 v2 v3 0 0 σ)) ∧ (¬ (v1 < 6) → wX2_countFrom_14 rc k v3 σ))))
def wX2_countFrom : Nat → Int → Int → Int → Hp → (Int → Hp → Prop) → Prop
  | 0, _, _, _, _, _ => False
  | d + 1, v1, v2, v3, σ, k => wX2_countFrom_0 (wX2_countFrom d) v1 v2 v3 σ k
set_option maxRecDepth 100000 in
theorem mX2_countFrom : ∀ (d : Nat) (v1 : Int) (v2 : Int) (v3 : Int) (σ : Hp) (k : Int → Hp → Prop) (_ : wX2_countFrom d v1 v2 v3 σ k) (l : Launch), zMt l yX2_countFrom cX2_countFrom 7 (some .int) { frames := 1 + d, cells := 0, slots := 0, locals := 25 + d * 26 } (fun w => [.ref (w.2.1 (10)), .int (zI (v1)), .int (zI (v2)), .int (zI (v3))]) σ (zPi k) := by
  intro d
  induction d with
  | zero => intro _ _ _ _ _ h; exact h.elim
  | succ d ih =>
    intro v1 v2 v3 σ k h l
    refine zMt_of (plainFor_of_name (by decide)) (fun w => Nat.le_of_ble_eq_true rfl) (fun x hl hN C E => ?_)
    change zV x σ 0 [(0, za x (10)), (1, .int (zI (v1))), (2, .int (zI (v2))), (3, .int (zI (v3)))] []
    change zOk x cX2_countFrom RX2 (some .int) (1 + (d + 1)) (25 + (d + 1) * 26) at C
    have Hrc := ih
    unfold wX2_countFrom wX2_countFrom_0 at h
    refine z_iload_n C 1 dX2_countFrom_0 rfl rfl ?_
    refine z_aload_n C 0 dX2_countFrom_1 rfl rfl ?_
    refine g_X2_1 C kf_X2_15 dX2_countFrom_2 ?_
    obtain ⟨o1, h⟩ := h
    obtain ⟨o2, h⟩ := h
    refine z_icmp_ge C 14 dX2_countFrom_5 (by decide) o1 o2 (fun c3 => ?_) (fun c3 => ?_)
    · have h := h.1 c3
      refine z_sub C [3] [(3, .int (zI (v3)))] rfl ?_
      exact sX2_countFrom_14 C hN E (rc := wX2_countFrom d) Hrc v3  σ h
    · have h := h.2 c3
      refine z_iload_n C 1 dX2_countFrom_8 rfl rfl ?_
      refine z_bipush C dX2_countFrom_9 rfl ?_
      refine z_icmp_lt C 24 dX2_countFrom_11 (by decide) o1 (zrg_d rfl) (fun c4 => ?_) (fun c4 => ?_)
      · have h := h.1 c4
        refine z_iconst C dX2_countFrom_24 ?_
        refine z_istore C [(4, .int (zI (0))), (0, za x (10)), (1, .int (zI (v1))), (2, .int (zI (v2))), (3, .int (zI (v3)))] dX2_countFrom_25 (by rw [hN]; decide) rfl ?_
        refine z_iconst C dX2_countFrom_27 ?_
        refine z_istore C [(5, .int (zI (0))), (4, .int (zI (0))), (0, za x (10)), (1, .int (zI (v1))), (2, .int (zI (v2))), (3, .int (zI (v3)))] dX2_countFrom_28 (by rw [hN]; decide) rfl ?_
        refine z_sub C [2, 3, 4, 5, 1, 0] [(0, za x (10)), (1, .int (zI (v1))), (2, .int (zI (v2))), (3, .int (zI (v3))), (4, .int (zI (0))), (5, .int (zI (0)))] rfl ?_
        obtain ⟨n5, h⟩ := h
        exact sX2_countFrom_30 C hN E (rc := wX2_countFrom d) Hrc n5 v1 v2 v3 0 0  σ h
      · have h := h.2 c4
        refine z_sub C [3] [(3, .int (zI (v3)))] rfl ?_
        exact sX2_countFrom_14 C hN E (rc := wX2_countFrom d) Hrc v3  σ h
def wdX2_countFrom (v1 : Int) (v2 : Int) (v3 : Int) (σ : Hp) (k : Int → Hp → Prop) : Prop := wX2_countFrom 8 v1 v2 v3 σ k
theorem mdX2_countFrom (v1 : Int) (v2 : Int) (v3 : Int) (σ : Hp) (k : Int → Hp → Prop) (h : wdX2_countFrom v1 v2 v3 σ k) (l : Launch) : zMt l yX2_countFrom cX2_countFrom 7 (some .int) { frames := 9, cells := 0, slots := 0, locals := 233 } (fun w => [.ref (w.2.1 (10)), .int (zI (v1)), .int (zI (v2)), .int (zI (v3))]) σ (zPi k) := mX2_countFrom 8 v1 v2 v3  σ k h l
def wX2_withQuarrels (v1 : Int) (v2 : Int) (σ : Hp) (k : Int → Hp → Prop) : Prop :=
  wX6_within v1 1 6 σ (fun a2 σ1 => zrg a2 ∧ ((a2 ≠ 0 → wdX2_countFrom 0 0 v2 (zst σ1 10 1 v1) (fun a6 σ5 => k a6 σ5)) ∧ (¬ (a2 ≠ 0) → k 0 σ1)))
set_option maxRecDepth 100000 in
theorem mX2_withQuarrels (v1 : Int) (v2 : Int) (σ : Hp) (k : Int → Hp → Prop) (h : wX2_withQuarrels v1 v2 σ k) (l : Launch) : zMt l yX2_withQuarrels cX2_withQuarrels 3 (some .int) { frames := 10, cells := 0, slots := 0, locals := 259 } (fun w => [.ref (w.2.1 (10)), .int (zI (v1)), .int (zI (v2))]) σ (zPi k) := by
  refine zMt_of (plainFor_of_name (by decide)) (fun w => Nat.le_of_ble_eq_true rfl) (fun x hl hN C E => ?_)
  change zV x σ 0 [(0, za x (10)), (1, .int (zI (v1))), (2, .int (zI (v2)))] []
  change zOk x cX2_withQuarrels RX2 (some .int) (10) (259) at C
  unfold wX2_withQuarrels at h
  refine z_iload_n C 1 dX2_withQuarrels_0 rfl rfl ?_
  refine z_iconst C dX2_withQuarrels_1 ?_
  refine z_bipush C dX2_withQuarrels_2 rfl ?_
  refine z_callN (av := fun w => [.int (zI (v1)), .int (zI (1)), .int (zI (6))]) C [] cs_X6_within (mX6_within v1 1 6  σ _ h) kn_X2_19 dX2_withQuarrels_4 rfl rfl ⟨rfl, rfl⟩ ⟨by decide, by decide⟩ (Nat.le_of_ble_eq_true rfl) (fun rv σ1 hp => ?_)
  obtain ⟨a2, rfl, h⟩ := hp
  change zV x σ1 7 [(0, za x (10)), (1, .int (zI (v1))), (2, .int (zI (v2)))] [.int (zI (a2))]
  obtain ⟨o3, h⟩ := h
  refine z_if_ne C 12 dX2_withQuarrels_7 (by decide) o3 (fun c4 => ?_) (fun c4 => ?_)
  · have h := h.1 c4
    refine z_aload_n C 0 dX2_withQuarrels_12 rfl rfl ?_
    refine z_iload_n C 1 dX2_withQuarrels_13 rfl rfl ?_
    refine p_X2_1 C kf_X2_15 dX2_withQuarrels_14 ?_
    refine z_aload_n C 0 dX2_withQuarrels_17 rfl rfl ?_
    refine z_iconst C dX2_withQuarrels_18 ?_
    refine z_iconst C dX2_withQuarrels_19 ?_
    refine z_iload_n C 2 dX2_withQuarrels_20 rfl rfl ?_
    refine z_callV (av := fun w => [.int (zI (0)), .int (zI (0)), .int (zI (v2))]) C [] cs_X2_countFrom (by decide) (fun _ _ => rfl) rfl (mdX2_countFrom 0 0 v2  (zst σ1 10 1 v1) _ h) km_X2_23 dX2_withQuarrels_21 rfl rfl ⟨rfl, rfl⟩ ⟨by decide, by decide⟩ (Nat.le_of_ble_eq_true rfl) (fun rv σ5 hp => ?_)
    obtain ⟨a6, rfl, h⟩ := hp
    change zV x σ5 24 [(0, za x (10)), (1, .int (zI (v1))), (2, .int (zI (v2)))] [.int (zI (a6))]
    exact z_iret C E dX2_withQuarrels_24 ⟨_, rfl, h⟩
  · have h := h.2 c4
    refine z_iconst C dX2_withQuarrels_10 ?_
    exact z_iret C E dX2_withQuarrels_11 ⟨_, rfl, h⟩
def wX3_put_39 (k : Hp → Prop) (t0 : Int) (t1 : Int) (s2 : Nat) (σ : Hp) : Prop :=
  (0 ≤ t1 ∧ t1 < 12) ∧ k (zst σ (36 + s2) t1.toNat t0)
set_option maxRecDepth 100000 in
theorem sX3_put_39 {x : Cx} (C : zOk x cX3_put RX3 (none) (1) (22)) (hN : x.2.2.2.2.1 = 3) {k : Hp → Prop} (E : zEnd x (zPv k x.2.1)) (t0 : Int) (t1 : Int) (s2 : Nat) (hs2 : s2 < 7) (σ : Hp) (h : wX3_put_39 k t0 t1 s2 σ) : zV x σ 39 [] [.int (zI (t0)), .int (zI (t1)), za x (36 + s2)] := by
  unfold wX3_put_39 at h
  obtain ⟨o1, h⟩ := h
  refine z_iast C (zIA_line hs2) dX3_put_39 o1.1 o1.2 ?_
  exact z_vret C E dX3_put_40 ⟨rfl, h⟩
def wX3_put (r0 : Nat) (v1 : Int) (v2 : Int) (σ : Hp) (k : Hp → Prop) : Prop :=
  wX6_within v1 0 ((σ (29 + r0) 0) - 1) σ (fun a2 σ1 => zrg a2 ∧ ((a2 = 0 → k σ1) ∧ (¬ (a2 = 0) → wX6_within v2 0 ((σ1 (29 + r0) 1) - 1) σ1 (fun a6 σ5 => zrg a6 ∧ ((a6 = 0 → wX3_put_39 k 15 v1 r0 σ5) ∧ (¬ (a6 = 0) → wX3_put_39 k v2 v1 r0 σ5))))))
set_option maxRecDepth 100000 in
theorem mX3_put (r0 : Nat) (v1 : Int) (v2 : Int) (hr0 : r0 < 7) (σ : Hp) (k : Hp → Prop) (h : wX3_put r0 v1 v2 σ k) (l : Launch) : zMt l yX3_put cX3_put 3 (none) { frames := 1, cells := 0, slots := 0, locals := 22 } (fun w => [.ref (w.2.1 (29 + r0)), .int (zI (v1)), .int (zI (v2))]) σ (zPv k) := by
  refine zMt_of (plainFor_of_name (by decide)) (fun w => Nat.le_of_ble_eq_true rfl) (fun x hl hN C E => ?_)
  change zV x σ 0 [(0, za x (29 + r0)), (1, .int (zI (v1))), (2, .int (zI (v2)))] []
  change zOk x cX3_put RX3 (none) (1) (22) at C
  unfold wX3_put at h
  refine z_iload_n C 1 dX3_put_0 rfl rfl ?_
  refine z_iconst C dX3_put_1 ?_
  refine z_aload_n C 0 dX3_put_2 rfl rfl ?_
  refine g_X3_0 C hr0 kf_X3_9 dX3_put_3 ?_
  refine z_iconst C dX3_put_6 ?_
  refine z_isub C dX3_put_7 ?_
  refine z_callN (av := fun w => [.int (zI (v1)), .int (zI (0)), .int (zI ((σ (29 + r0) 0) - 1))]) C [] cs_X6_within (mX6_within v1 0 ((σ (29 + r0) 0) - 1)  σ _ h) kn_X3_22 dX3_put_8 rfl rfl ⟨rfl, rfl⟩ ⟨by decide, by decide⟩ (Nat.le_of_ble_eq_true rfl) (fun rv σ1 hp => ?_)
  obtain ⟨a2, rfl, h⟩ := hp
  change zV x σ1 11 [(0, za x (29 + r0)), (1, .int (zI (v1))), (2, .int (zI (v2)))] [.int (zI (a2))]
  obtain ⟨o3, h⟩ := h
  refine z_if_eq C 40 dX3_put_11 (by decide) o3 (fun c4 => ?_) (fun c4 => ?_)
  · have h := h.1 c4
    exact z_vret C E dX3_put_40 ⟨rfl, h⟩
  · have h := h.2 c4
    refine z_aload_n C 0 dX3_put_14 rfl rfl ?_
    refine g_X3_2 C hr0 kf_X3_18 dX3_put_15 ?_
    refine z_iload_n C 1 dX3_put_18 rfl rfl ?_
    refine z_iload_n C 2 dX3_put_19 rfl rfl ?_
    refine z_iconst C dX3_put_20 ?_
    refine z_aload_n C 0 dX3_put_21 rfl rfl ?_
    refine g_X3_1 C hr0 kf_X3_15 dX3_put_22 ?_
    refine z_iconst C dX3_put_25 ?_
    refine z_isub C dX3_put_26 ?_
    refine z_callN (av := fun w => [.int (zI (v2)), .int (zI (0)), .int (zI ((σ1 (29 + r0) 1) - 1))]) C [.int (zI (v1)), za x (36 + r0)] cs_X6_within (mX6_within v2 0 ((σ1 (29 + r0) 1) - 1)  σ1 _ h) kn_X3_22 dX3_put_27 rfl rfl ⟨rfl, rfl⟩ ⟨by decide, by decide⟩ (Nat.le_of_ble_eq_true rfl) (fun rv σ5 hp => ?_)
    obtain ⟨a6, rfl, h⟩ := hp
    change zV x σ5 30 [(0, za x (29 + r0)), (1, .int (zI (v1))), (2, .int (zI (v2)))] [.int (zI (a6)), .int (zI (v1)), za x (36 + r0)]
    obtain ⟨o7, h⟩ := h
    refine z_if_eq C 37 dX3_put_30 (by decide) o7 (fun c8 => ?_) (fun c8 => ?_)
    · have h := h.1 c8
      refine z_bipush C dX3_put_37 rfl ?_
      refine z_sub C [] [] rfl ?_
      exact sX3_put_39 C hN E 15 v1 r0 hr0 σ5 h
    · have h := h.2 c8
      refine z_iload_n C 2 dX3_put_33 rfl rfl ?_
      refine z_goto C 39 dX3_put_34 (by decide) ?_
      refine z_sub C [] [] rfl ?_
      exact sX3_put_39 C hN E v2 v1 r0 hr0 σ5 h
def wX3_shape (r0 : Nat) (v1 : Int) (v2 : Int) (σ : Hp) (k : Hp → Prop) : Prop :=
  wX6_within v1 1 12 σ (fun a2 σ1 => zrg a2 ∧ ((a2 = 0 → k σ1) ∧ (¬ (a2 = 0) → wX6_within v2 1 12 σ1 (fun a6 σ5 => zrg a6 ∧ ((a6 ≠ 0 → wJ7_fill_53178 (36 + r0) 12 15 (zst (zst σ5 (29 + r0) 0 v1) (29 + r0) 1 v2) (fun σ9 => k σ9)) ∧ (¬ (a6 ≠ 0) → k σ5))))))
set_option maxRecDepth 100000 in
theorem mX3_shape (r0 : Nat) (v1 : Int) (v2 : Int) (hr0 : r0 < 7) (σ : Hp) (k : Hp → Prop) (h : wX3_shape r0 v1 v2 σ k) (l : Launch) : zMt l yX3_shape cX3_shape 3 (none) { frames := 1, cells := 0, slots := 0, locals := 23 } (fun w => [.ref (w.2.1 (29 + r0)), .int (zI (v1)), .int (zI (v2))]) σ (zPv k) := by
  refine zMt_of (plainFor_of_name (by decide)) (fun w => Nat.le_of_ble_eq_true rfl) (fun x hl hN C E => ?_)
  change zV x σ 0 [(0, za x (29 + r0)), (1, .int (zI (v1))), (2, .int (zI (v2)))] []
  change zOk x cX3_shape RX3 (none) (1) (23) at C
  unfold wX3_shape at h
  refine z_iload_n C 1 dX3_shape_0 rfl rfl ?_
  refine z_iconst C dX3_shape_1 ?_
  refine z_bipush C dX3_shape_2 rfl ?_
  refine z_callN (av := fun w => [.int (zI (v1)), .int (zI (1)), .int (zI (12))]) C [] cs_X6_within (mX6_within v1 1 12  σ _ h) kn_X3_22 dX3_shape_4 rfl rfl ⟨rfl, rfl⟩ ⟨by decide, by decide⟩ (Nat.le_of_ble_eq_true rfl) (fun rv σ1 hp => ?_)
  obtain ⟨a2, rfl, h⟩ := hp
  change zV x σ1 7 [(0, za x (29 + r0)), (1, .int (zI (v1))), (2, .int (zI (v2)))] [.int (zI (a2))]
  obtain ⟨o3, h⟩ := h
  refine z_if_eq C 20 dX3_shape_7 (by decide) o3 (fun c4 => ?_) (fun c4 => ?_)
  · have h := h.1 c4
    exact z_vret C E dX3_shape_20 ⟨rfl, h⟩
  · have h := h.2 c4
    refine z_iload_n C 2 dX3_shape_10 rfl rfl ?_
    refine z_iconst C dX3_shape_11 ?_
    refine z_bipush C dX3_shape_12 rfl ?_
    refine z_callN (av := fun w => [.int (zI (v2)), .int (zI (1)), .int (zI (12))]) C [] cs_X6_within (mX6_within v2 1 12  σ1 _ h) kn_X3_22 dX3_shape_14 rfl rfl ⟨rfl, rfl⟩ ⟨by decide, by decide⟩ (Nat.le_of_ble_eq_true rfl) (fun rv σ5 hp => ?_)
    obtain ⟨a6, rfl, h⟩ := hp
    change zV x σ5 17 [(0, za x (29 + r0)), (1, .int (zI (v1))), (2, .int (zI (v2)))] [.int (zI (a6))]
    obtain ⟨o7, h⟩ := h
    refine z_if_ne C 21 dX3_shape_17 (by decide) o7 (fun c8 => ?_) (fun c8 => ?_)
    · have h := h.1 c8
      refine z_aload_n C 0 dX3_shape_21 rfl rfl ?_
      refine z_iload_n C 1 dX3_shape_22 rfl rfl ?_
      refine p_X3_0 C hr0 kf_X3_9 dX3_shape_23 ?_
      refine z_aload_n C 0 dX3_shape_26 rfl rfl ?_
      refine z_iload_n C 2 dX3_shape_27 rfl rfl ?_
      refine p_X3_1 C hr0 kf_X3_15 dX3_shape_28 ?_
      refine z_aload_n C 0 dX3_shape_31 rfl rfl ?_
      refine g_X3_2 C hr0 kf_X3_18 dX3_shape_32 ?_
      refine z_bipush C dX3_shape_35 rfl ?_
      refine z_callS (av := fun w => [.ref (w.2.1 (36 + r0)), .int (zI (15))]) C [] cs_J7_fill_53178 (mJ7_fill_53178 (36 + r0) 12 15 (zIA_line hr0) (zst (zst σ5 (29 + r0) 0 v1) (29 + r0) 1 v2) _ h) km_X3_26 dX3_shape_37 rfl rfl ⟨rfl, rfl⟩ ⟨by decide, by decide⟩ (Nat.le_of_ble_eq_true rfl) (fun rv σ9 hp => ?_)
      obtain ⟨rfl, h⟩ := hp
      change zV x σ9 40 [(0, za x (29 + r0)), (1, .int (zI (v1))), (2, .int (zI (v2)))] []
      exact z_vret C E dX3_shape_40 ⟨rfl, h⟩
    · have h := h.2 c8
      exact z_vret C E dX3_shape_20 ⟨rfl, h⟩
def wX3_copyFrom_14 (k : Hp → Prop) : Nat → Nat → Nat → Int → Hp → Prop
  | 0, _, _, _, _ => False
  | n + 1, r0, r1, v2, σ => zrg v2 ∧ zrg (σ (29 + r0) 0) ∧ ((σ (29 + r0) 0 ≤ v2 → k σ) ∧ (¬ (σ (29 + r0) 0 ≤ v2) → wX3_lineAt r1 v2 σ (fun a5 σ4 => wX3_put r0 v2 a5 σ4 (fun σ6 => wX3_copyFrom_14 k n r0 r1 (v2 + 1) σ6))))
set_option maxRecDepth 100000 in
theorem sX3_copyFrom_14 {x : Cx} (C : zOk x cX3_copyFrom RX3 (none) (2) (45)) (hN : x.2.2.2.2.1 = 3) {k : Hp → Prop} (E : zEnd x (zPv k x.2.1)) : ∀ (n : Nat) (r0 : Nat) (r1 : Nat) (v2 : Int) (hr0 : r0 < 7) (hr1 : r1 < 7) (σ : Hp), wX3_copyFrom_14 k n r0 r1 v2 σ → zV x σ 14 [(0, za x (29 + r0)), (1, za x (29 + r1)), (2, .int (zI (v2)))] [] := by
  intro n
  induction n with
  | zero => intro _ _ _ _ _ _ h; exact h.elim
  | succ n ih =>
    intro r0 r1 v2 hr0 hr1 σ h
    unfold wX3_copyFrom_14 at h
    refine z_iload_n C 2 dX3_copyFrom_14 rfl rfl ?_
    refine z_aload_n C 0 dX3_copyFrom_15 rfl rfl ?_
    refine g_X3_0 C hr0 kf_X3_9 dX3_copyFrom_16 ?_
    obtain ⟨o1, h⟩ := h
    obtain ⟨o2, h⟩ := h
    refine z_icmp_ge C 38 dX3_copyFrom_19 (by decide) o1 o2 (fun c3 => ?_) (fun c3 => ?_)
    · have h := h.1 c3
      exact z_vret C E dX3_copyFrom_38 ⟨rfl, h⟩
    · have h := h.2 c3
      refine z_aload_n C 0 dX3_copyFrom_22 rfl rfl ?_
      refine z_iload_n C 2 dX3_copyFrom_23 rfl rfl ?_
      refine z_aload_n C 1 dX3_copyFrom_24 rfl rfl ?_
      refine z_iload_n C 2 dX3_copyFrom_25 rfl rfl ?_
      refine z_callV (av := fun w => [.int (zI (v2))]) C [.int (zI (v2)), za x (29 + r0)] cs_X3_lineAt (by have := hr1; omega) (zcell_row hr1) rfl (mX3_lineAt r1 v2 hr1 σ _ h) km_X3_32 dX3_copyFrom_26 rfl rfl ⟨rfl, rfl⟩ ⟨by decide, by decide⟩ (Nat.le_of_ble_eq_true rfl) (fun rv σ4 hp => ?_)
      obtain ⟨a5, rfl, h⟩ := hp
      change zV x σ4 29 [(0, za x (29 + r0)), (1, za x (29 + r1)), (2, .int (zI (v2)))] [.int (zI (a5)), .int (zI (v2)), za x (29 + r0)]
      refine z_callV (av := fun w => [.int (zI (v2)), .int (zI (a5))]) C [] cs_X3_put (by have := hr0; omega) (zcell_row hr0) rfl (mX3_put r0 v2 a5 hr0 σ4 _ h) km_X3_48 dX3_copyFrom_29 rfl rfl ⟨rfl, rfl⟩ ⟨by decide, by decide⟩ (Nat.le_of_ble_eq_true rfl) (fun rv σ6 hp => ?_)
      obtain ⟨rfl, h⟩ := hp
      change zV x σ6 32 [(0, za x (29 + r0)), (1, za x (29 + r1)), (2, .int (zI (v2)))] []
      refine z_iinc C 2 [(2, .int (zI (v2 + 1))), (0, za x (29 + r0)), (1, za x (29 + r1))] dX3_copyFrom_32 rfl (by rw [hN]; decide) rfl ?_
      refine z_goto C 14 dX3_copyFrom_35 (by decide) ?_
      refine z_sub C [1, 2, 0] [(0, za x (29 + r0)), (1, za x (29 + r1)), (2, .int (zI (v2 + 1)))] rfl ?_
      exact ih r0 r1 (v2 + 1) hr0 hr1 σ6 h
def wX3_copyFrom (r0 : Nat) (r1 : Nat) (σ : Hp) (k : Hp → Prop) : Prop :=
  wX3_shape r0 (σ (29 + r1) 0) (σ (29 + r1) 1) σ (fun σ1 => (∃ N2, wX3_copyFrom_14 k N2 r0 r1 0 σ1))
set_option maxRecDepth 100000 in
theorem mX3_copyFrom (r0 : Nat) (r1 : Nat) (hr0 : r0 < 7) (hr1 : r1 < 7) (σ : Hp) (k : Hp → Prop) (h : wX3_copyFrom r0 r1 σ k) (l : Launch) : zMt l yX3_copyFrom cX3_copyFrom 3 (none) { frames := 2, cells := 0, slots := 0, locals := 45 } (fun w => [.ref (w.2.1 (29 + r0)), .ref (w.2.1 (29 + r1))]) σ (zPv k) := by
  refine zMt_of (plainFor_of_name (by decide)) (fun w => Nat.le_of_ble_eq_true rfl) (fun x hl hN C E => ?_)
  change zV x σ 0 [(0, za x (29 + r0)), (1, za x (29 + r1))] []
  change zOk x cX3_copyFrom RX3 (none) (2) (45) at C
  unfold wX3_copyFrom at h
  refine z_aload_n C 0 dX3_copyFrom_0 rfl rfl ?_
  refine z_aload_n C 1 dX3_copyFrom_1 rfl rfl ?_
  refine g_X3_0 C hr1 kf_X3_9 dX3_copyFrom_2 ?_
  refine z_aload_n C 1 dX3_copyFrom_5 rfl rfl ?_
  refine g_X3_1 C hr1 kf_X3_15 dX3_copyFrom_6 ?_
  refine z_callV (av := fun w => [.int (zI (σ (29 + r1) 0)), .int (zI (σ (29 + r1) 1))]) C [] cs_X3_shape (by have := hr0; omega) (zcell_row hr0) rfl (mX3_shape r0 (σ (29 + r1) 0) (σ (29 + r1) 1) hr0 σ _ h) km_X3_44 dX3_copyFrom_9 rfl rfl ⟨rfl, rfl⟩ ⟨by decide, by decide⟩ (Nat.le_of_ble_eq_true rfl) (fun rv σ1 hp => ?_)
  obtain ⟨rfl, h⟩ := hp
  change zV x σ1 12 [(0, za x (29 + r0)), (1, za x (29 + r1))] []
  refine z_iconst C dX3_copyFrom_12 ?_
  refine z_istore_n C [(2, .int (zI (0))), (0, za x (29 + r0)), (1, za x (29 + r1))] dX3_copyFrom_13 rfl (by rw [hN]; decide) rfl ?_
  refine z_sub C [1, 2, 0] [(0, za x (29 + r0)), (1, za x (29 + r1)), (2, .int (zI (0)))] rfl ?_
  obtain ⟨n2, h⟩ := h
  exact sX3_copyFrom_14 C hN E n2 r0 r1 0 hr0 hr1 σ1 h
end
